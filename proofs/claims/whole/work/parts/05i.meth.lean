def mX6_comes (fu : Nat) (f : jM) (v0 : Nat) (v1 : Int32) : Option jM :=
    (rdR 6 f v0 14).bind fun x1 =>
    (ldI 0 f x1 v1).bind fun x2 =>
    (rdR 6 f v0 15).bind fun x3 =>
    (ldI 0 f x3 v1).bind fun x4 =>
    (rdR 6 f v0 16).bind fun x5 =>
    (ldI 0 f x5 v1).bind fun x6 =>
    (rdR 6 f v0 17).bind fun x7 =>
    (ldI 0 f x7 v1).bind fun x8 =>
    (rdR 6 f v0 18).bind fun x9 =>
    (ldI 0 f x9 v1).bind fun x10 =>
    (rdR 6 f v0 19).bind fun x11 =>
    (ldI 0 f x11 v1).bind fun x12 =>
    (chk 6 f v0).bind fun _ =>
    (mX6_takes fu f v0 v1).bind fun f14 =>
    if x6 = (1 : Int32) then (
    (chk 6 f14 v0).bind fun _ =>
    (mX6_holds f14 v0 x4 x12 (2 : Int32) x8).bind fun f17 =>
    if (x8 / (24 : Int32)) = x4 then (
    (rdR 6 f17 v0 4).bind fun x22 =>
    (ldI 0 f17 x22 x8).bind fun x23 =>
    (stI 0 f17 x22 x8 (x23 - x10)).bind fun f24 =>
    some f24) else (
    (rdR 6 f17 v0 10).bind fun x19 =>
    (ldI 0 f17 x19 (((120 : Int32) * x4) + x8)).bind fun x20 =>
    (stI 0 f17 x19 (((120 : Int32) * x4) + x8) (x20 + x10)).bind fun f21 =>
    some f21)) else (if x6 = (2 : Int32) then (
    (rdR 6 f14 v0 4).bind fun x26 =>
    (ldI 0 f14 x26 x8).bind fun x27 =>
    (stI 0 f14 x26 x8 (x27 - x10)).bind fun f28 =>
    some f28) else (if x6 = (3 : Int32) then (
    (rdR 6 f14 v0 4).bind fun x30 =>
    (ldI 0 f14 x30 x8).bind fun x31 =>
    (stI 0 f14 x30 x8 (x31 + (64 : Int32))).bind fun f32 =>
    (chk 6 f32 v0).bind fun _ =>
    (mX6_sends f32 v0 x4 x2 (4 : Int32) x8 (64 : Int32) (-1 : Int32)).bind fun f34 =>
    some f34) else (
    (rdR 6 f14 v0 10).bind fun x35 =>
    (ldI 0 f14 x35 (((120 : Int32) * x4) + x8)).bind fun x36 =>
    if x36 ≤ 0 then (
    (chk 6 f14 v0).bind fun _ =>
    (mX6_sends f14 v0 x4 (x8 / (24 : Int32)) (2 : Int32) x8 x10 (-1 : Int32)).bind fun f39 =>
    some f39) else (
    (rdR 6 f14 v0 10).bind fun x40 =>
    (ldI 0 f14 x40 (((120 : Int32) * x4) + x8)).bind fun x41 =>
    (stI 0 f14 x40 (((120 : Int32) * x4) + x8) (x41 + x10)).bind fun f42 =>
    some f42))))
set_option maxRecDepth 100000 in
set_option maxHeartbeats 4000000 in
theorem sX6_comes {l : Launch} {D : jD} {sz : Nat} {fu : Nat} {f : jM} {v0 : Nat} {v1 : Int32} {res : jM} (h : mX6_comes fu f v0 v1 = some res) : jCt l D yX6_comes cX6_comes 8 none 1 26 [.ref v0, .int v1] f sz 0 0 none res sz := by
  refine j_start (by decide +kernel) (Nat.le_of_ble_eq_true rfl) (fun c hcl hcD hcn E => ?_)
  subst hcl
  subst hcD
  replace E : jOk c cX6_comes 8 RX6 none 1 26 := E
  show J c (jZ c none res sz) f sz 0 0 0 [(0, .ref v0), (1, .int v1)] []
  unfold mX6_comes at h
  refine j_aload_n E 0 dX6_comes_0 rfl rfl ?_
  obtain ⟨x1, h1, h⟩ := jb h
  refine j_getR E gX6_48 h1 dX6_comes_1 ?_
  refine j_iload_n E 1 dX6_comes_4 rfl rfl ?_
  obtain ⟨x2, h2, h⟩ := jb h
  refine j_iald E h2 dX6_comes_5 ?_
  refine j_istore_n (lv' := [(2, .int x2), (0, .ref v0), (1, .int v1)]) E dX6_comes_6 rfl (by decide) rfl ?_
  refine j_aload_n E 1 dX6_comes_7 rfl rfl ?_
  obtain ⟨x3, h3, h⟩ := jb h
  refine j_getR E gX6_51 h3 dX6_comes_8 ?_
  refine j_iload_n E 2 dX6_comes_11 rfl rfl ?_
  obtain ⟨x4, h4, h⟩ := jb h
  refine j_iald E h4 dX6_comes_12 ?_
  refine j_istore_n (lv' := [(3, .int x4), (2, .int x2), (0, .ref v0), (1, .int v1)]) E dX6_comes_13 rfl (by decide) rfl ?_
  refine j_aload_n E 2 dX6_comes_14 rfl rfl ?_
  obtain ⟨x5, h5, h⟩ := jb h
  refine j_getR E gX6_54 h5 dX6_comes_15 ?_
  refine j_iload_n E 3 dX6_comes_18 rfl rfl ?_
  obtain ⟨x6, h6, h⟩ := jb h
  refine j_iald E h6 dX6_comes_19 ?_
  refine j_istore (lv' := [(4, .int x6), (3, .int x4), (2, .int x2), (0, .ref v0), (1, .int v1)]) E dX6_comes_20 (by decide) rfl ?_
  refine j_aload_n E 3 dX6_comes_22 rfl rfl ?_
  obtain ⟨x7, h7, h⟩ := jb h
  refine j_getR E gX6_57 h7 dX6_comes_23 ?_
  refine j_iload_n E 4 dX6_comes_26 rfl rfl ?_
  obtain ⟨x8, h8, h⟩ := jb h
  refine j_iald E h8 dX6_comes_27 ?_
  refine j_istore (lv' := [(5, .int x8), (4, .int x6), (3, .int x4), (2, .int x2), (0, .ref v0), (1, .int v1)]) E dX6_comes_28 (by decide) rfl ?_
  refine j_aload_n E 4 dX6_comes_30 rfl rfl ?_
  obtain ⟨x9, h9, h⟩ := jb h
  refine j_getR E gX6_60 h9 dX6_comes_31 ?_
  refine j_iload_n E 5 dX6_comes_34 rfl rfl ?_
  obtain ⟨x10, h10, h⟩ := jb h
  refine j_iald E h10 dX6_comes_35 ?_
  refine j_istore (lv' := [(6, .int x10), (5, .int x8), (4, .int x6), (3, .int x4), (2, .int x2), (0, .ref v0), (1, .int v1)]) E dX6_comes_36 (by decide) rfl ?_
  refine j_aload_n E 5 dX6_comes_38 rfl rfl ?_
  obtain ⟨x11, h11, h⟩ := jb h
  refine j_getR E gX6_63 h11 dX6_comes_39 ?_
  refine j_iload_n E 6 dX6_comes_42 rfl rfl ?_
  obtain ⟨x12, h12, h⟩ := jb h
  refine j_iald E h12 dX6_comes_43 ?_
  refine j_istore (lv' := [(7, .int x12), (6, .int x10), (5, .int x8), (4, .int x6), (3, .int x4), (2, .int x2), (0, .ref v0), (1, .int v1)]) E dX6_comes_44 (by decide) rfl ?_
  refine j_aload_n E 6 dX6_comes_46 rfl rfl ?_
  refine j_iload_n E 7 dX6_comes_47 rfl rfl ?_
  obtain ⟨u13, h13, h⟩ := jb h
  obtain ⟨fs13, h13⟩ := chk_spec h13
  obtain ⟨f14, h14, h⟩ := jb h
  refine j_callV (As := [.int v1]) (b := v0) (rest := []) (rc := 0) (rs := 0) E (sX6_takes h14) lwX6_takes lkX6_121 imX6_takes seX6_takes rfl h13 (by decide) rfl (Nat.le_of_ble_eq_true rfl) dX6_comes_48 ?_
  refine j_iload E 3 dX6_comes_51 rfl ?_
  by_cases hc15 : x6 = (1 : Int32)
  · replace h := jt hc15 h
    refine j_tableIn (off := 27) (tgt := 80) E dX6_comes_53 (by rw [hc15]; decide) (by rw [hc15]; decide) (by rw [hc15]; rfl) (by decide) ?_
    refine j_aload_n E 6 dX6_comes_80 rfl rfl ?_
    refine j_iload_n E 4 dX6_comes_81 rfl rfl ?_
    refine j_iload E 0 dX6_comes_82 rfl ?_
    refine j_iconst (v := (2 : Int32)) E dX6_comes_84 (by decide) ?_
    refine j_iload E 2 dX6_comes_85 rfl ?_
    obtain ⟨u16, h16, h⟩ := jb h
    obtain ⟨fs16, h16⟩ := chk_spec h16
    obtain ⟨f17, h17, h⟩ := jb h
    refine j_callV (As := [.int x4, .int x12, .int (2 : Int32), .int x8]) (b := v0) (rest := []) (rc := 0) (rs := 0) E (sX6_holds h17) lwX6_holds lkX6_106 imX6_holds seX6_holds rfl h16 (by decide) rfl (Nat.le_of_ble_eq_true rfl) dX6_comes_87 ?_
    refine j_iload E 2 dX6_comes_90 rfl ?_
    refine j_bipush (v := (24 : Int32)) E dX6_comes_92 (by decide) ?_
    refine j_idiv E dX6_comes_94 (by decide) ?_
    refine j_iload_n E 4 dX6_comes_95 rfl rfl ?_
    refine j_icmp_ne (tgt := 114) E dX6_comes_96 (by decide) (fun hc18 => ?_) (fun hc18 => ?_)
    · replace h := jf hc18 h
      refine j_aload_n E 6 dX6_comes_114 rfl rfl ?_
      obtain ⟨x19, h19, h⟩ := jb h
      refine j_getR E gX6_39 h19 dX6_comes_115 ?_
      refine j_bipush (v := (120 : Int32)) E dX6_comes_118 (by decide) ?_
      refine j_iload_n E 4 dX6_comes_120 rfl rfl ?_
      refine j_imul E dX6_comes_121 ?_
      refine j_iload E 2 dX6_comes_122 rfl ?_
      refine j_iadd E dX6_comes_124 ?_
      refine j_dup2 E dX6_comes_125 rfl rfl ?_
      obtain ⟨x20, h20, h⟩ := jb h
      refine j_iald E h20 dX6_comes_126 ?_
      refine j_iload E 1 dX6_comes_127 rfl ?_
      refine j_iadd E dX6_comes_129 ?_
      obtain ⟨f21, h21, h⟩ := jb h
      refine j_iast E h21 dX6_comes_130 ?_
      refine j_goto (tgt := 227) E dX6_comes_131 (by decide) ?_
      cases h
      exact j_vret E dX6_comes_227
    replace h := jt hc18 h
    refine j_aload_n E 6 dX6_comes_99 rfl rfl ?_
    obtain ⟨x22, h22, h⟩ := jb h
    refine j_getR E gX6_20 h22 dX6_comes_100 ?_
    refine j_iload E 2 dX6_comes_103 rfl ?_
    refine j_dup2 E dX6_comes_105 rfl rfl ?_
    obtain ⟨x23, h23, h⟩ := jb h
    refine j_iald E h23 dX6_comes_106 ?_
    refine j_iload E 1 dX6_comes_107 rfl ?_
    refine j_isub E dX6_comes_109 ?_
    obtain ⟨f24, h24, h⟩ := jb h
    refine j_iast E h24 dX6_comes_110 ?_
    refine j_goto (tgt := 227) E dX6_comes_111 (by decide) ?_
    cases h
    exact j_vret E dX6_comes_227
  replace h := jf hc15 h
  by_cases hc25 : x6 = (2 : Int32)
  · replace h := jt hc25 h
    refine j_tableIn (off := 81) (tgt := 134) E dX6_comes_53 (by rw [hc25]; decide) (by rw [hc25]; decide) (by rw [hc25]; rfl) (by decide) ?_
    refine j_aload_n E 6 dX6_comes_134 rfl rfl ?_
    obtain ⟨x26, h26, h⟩ := jb h
    refine j_getR E gX6_20 h26 dX6_comes_135 ?_
    refine j_iload E 2 dX6_comes_138 rfl ?_
    refine j_dup2 E dX6_comes_140 rfl rfl ?_
    obtain ⟨x27, h27, h⟩ := jb h
    refine j_iald E h27 dX6_comes_141 ?_
    refine j_iload E 1 dX6_comes_142 rfl ?_
    refine j_isub E dX6_comes_144 ?_
    obtain ⟨f28, h28, h⟩ := jb h
    refine j_iast E h28 dX6_comes_145 ?_
    refine j_goto (tgt := 227) E dX6_comes_146 (by decide) ?_
    cases h
    exact j_vret E dX6_comes_227
  replace h := jf hc25 h
  by_cases hc29 : x6 = (3 : Int32)
  · replace h := jt hc29 h
    refine j_tableIn (off := 96) (tgt := 149) E dX6_comes_53 (by rw [hc29]; decide) (by rw [hc29]; decide) (by rw [hc29]; rfl) (by decide) ?_
    refine j_aload_n E 6 dX6_comes_149 rfl rfl ?_
    obtain ⟨x30, h30, h⟩ := jb h
    refine j_getR E gX6_20 h30 dX6_comes_150 ?_
    refine j_iload E 2 dX6_comes_153 rfl ?_
    refine j_dup2 E dX6_comes_155 rfl rfl ?_
    obtain ⟨x31, h31, h⟩ := jb h
    refine j_iald E h31 dX6_comes_156 ?_
    refine j_bipush (v := (64 : Int32)) E dX6_comes_157 (by decide) ?_
    refine j_iadd E dX6_comes_159 ?_
    obtain ⟨f32, h32, h⟩ := jb h
    refine j_iast E h32 dX6_comes_160 ?_
    refine j_aload_n E 6 dX6_comes_161 rfl rfl ?_
    refine j_iload_n E 4 dX6_comes_162 rfl rfl ?_
    refine j_iload_n E 5 dX6_comes_163 rfl rfl ?_
    refine j_iconst (v := (4 : Int32)) E dX6_comes_164 (by decide) ?_
    refine j_iload E 2 dX6_comes_165 rfl ?_
    refine j_bipush (v := (64 : Int32)) E dX6_comes_167 (by decide) ?_
    refine j_iconst (v := (-1 : Int32)) E dX6_comes_169 (by decide) ?_
    obtain ⟨u33, h33, h⟩ := jb h
    obtain ⟨fs33, h33⟩ := chk_spec h33
    obtain ⟨f34, h34, h⟩ := jb h
    refine j_callV (As := [.int x4, .int x2, .int (4 : Int32), .int x8, .int (64 : Int32), .int (-1 : Int32)]) (b := v0) (rest := []) (rc := 0) (rs := 0) E (sX6_sends h34) lwX6_sends lkX6_113 imX6_sends seX6_sends rfl h33 (by decide) rfl (Nat.le_of_ble_eq_true rfl) dX6_comes_170 ?_
    refine j_goto (tgt := 227) E dX6_comes_173 (by decide) ?_
    cases h
    exact j_vret E dX6_comes_227
  replace h := jf hc29 h
  have q15 := jne (1 : Int32) (k := 1) rfl hc15
  have q25 := jne (2 : Int32) (k := 2) rfl hc25
  have q29 := jne (3 : Int32) (k := 3) rfl hc29
  refine j_tableOut (tgt := 176) E dX6_comes_53 (by omega) (by decide) ?_
  refine j_aload_n E 6 dX6_comes_176 rfl rfl ?_
  obtain ⟨x35, h35, h⟩ := jb h
  refine j_getR E gX6_39 h35 dX6_comes_177 ?_
  refine j_bipush (v := (120 : Int32)) E dX6_comes_180 (by decide) ?_
  refine j_iload_n E 4 dX6_comes_182 rfl rfl ?_
  refine j_imul E dX6_comes_183 ?_
  refine j_iload E 2 dX6_comes_184 rfl ?_
  refine j_iadd E dX6_comes_186 ?_
  obtain ⟨x36, h36, h⟩ := jb h
  refine j_iald E h36 dX6_comes_187 ?_
  refine j_if_le (tgt := 211) E dX6_comes_188 (by decide) (fun hc37 => ?_) (fun hc37 => ?_)
  · replace h := jt hc37 h
    refine j_aload_n E 6 dX6_comes_211 rfl rfl ?_
    refine j_iload_n E 4 dX6_comes_212 rfl rfl ?_
    refine j_iload E 2 dX6_comes_213 rfl ?_
    refine j_bipush (v := (24 : Int32)) E dX6_comes_215 (by decide) ?_
    refine j_idiv E dX6_comes_217 (by decide) ?_
    refine j_iconst (v := (2 : Int32)) E dX6_comes_218 (by decide) ?_
    refine j_iload E 2 dX6_comes_219 rfl ?_
    refine j_iload E 1 dX6_comes_221 rfl ?_
    refine j_iconst (v := (-1 : Int32)) E dX6_comes_223 (by decide) ?_
    obtain ⟨u38, h38, h⟩ := jb h
    obtain ⟨fs38, h38⟩ := chk_spec h38
    obtain ⟨f39, h39, h⟩ := jb h
    refine j_callV (As := [.int x4, .int (x8 / (24 : Int32)), .int (2 : Int32), .int x8, .int x10, .int (-1 : Int32)]) (b := v0) (rest := []) (rc := 0) (rs := 0) E (sX6_sends h39) lwX6_sends lkX6_113 imX6_sends seX6_sends rfl h38 (by decide) rfl (Nat.le_of_ble_eq_true rfl) dX6_comes_224 ?_
    cases h
    exact j_vret E dX6_comes_227
  replace h := jf hc37 h
  refine j_aload_n E 6 dX6_comes_191 rfl rfl ?_
  obtain ⟨x40, h40, h⟩ := jb h
  refine j_getR E gX6_39 h40 dX6_comes_192 ?_
  refine j_bipush (v := (120 : Int32)) E dX6_comes_195 (by decide) ?_
  refine j_iload_n E 4 dX6_comes_197 rfl rfl ?_
  refine j_imul E dX6_comes_198 ?_
  refine j_iload E 2 dX6_comes_199 rfl ?_
  refine j_iadd E dX6_comes_201 ?_
  refine j_dup2 E dX6_comes_202 rfl rfl ?_
  obtain ⟨x41, h41, h⟩ := jb h
  refine j_iald E h41 dX6_comes_203 ?_
  refine j_iload E 1 dX6_comes_204 rfl ?_
  refine j_iadd E dX6_comes_206 ?_
  obtain ⟨f42, h42, h⟩ := jb h
  refine j_iast E h42 dX6_comes_207 ?_
  refine j_goto (tgt := 227) E dX6_comes_208 (by decide) ?_
  cases h
  exact j_vret E dX6_comes_227
def mX6_come (fu : Nat) (f : jM) (v0 : Nat) (v1 : Int32) (v2 : Int32) : Option (Int32 × jM) :=
    (chk 6 f v0).bind fun _ =>
    (mX6_isNode f v0 v1).bind fun r2 =>
    if r2.1 = 0 then (
    some ((-1 : Int32), r2.2)) else (
    (chk 6 r2.2 v0).bind fun _ =>
    (mX6_isNode r2.2 v0 v2).bind fun r5 =>
    if r5.1 = 0 then (
    some ((-1 : Int32), r5.2)) else (
    if v1 = v2 then (
    some ((-1 : Int32), r5.2)) else (
    (chk 6 r5.2 v0).bind fun _ =>
    (mX6_firstOf fu r5.2 v0 v1 v2).bind fun r9 =>
    if r9.1 = (-1 : Int32) then (
    some ((0 : Int32), r9.2)) else (
    (chk 6 r9.2 v0).bind fun _ =>
    (mX6_stays fu r9.2 v0 r9.1).bind fun r12 =>
    if r12.1 = 0 then (
    (rdR 6 r12.2 v0 16).bind fun x14 =>
    (ldI 0 r12.2 x14 r9.1).bind fun x15 =>
    (chk 6 r12.2 v0).bind fun _ =>
    (mX6_comes fu r12.2 v0 r9.1).bind fun f17 =>
    some (x15, f17)) else (
    some ((-2 : Int32), r12.2))))))
set_option maxRecDepth 100000 in
set_option maxHeartbeats 4000000 in
theorem sX6_come {l : Launch} {D : jD} {sz : Nat} {fu : Nat} {f : jM} {v0 : Nat} {v1 : Int32} {v2 : Int32} {res : (Int32 × jM)} (h : mX6_come fu f v0 v1 v2 = some res) : jCt l D yX6_come cX6_come 5 (some .int) 2 53 [.ref v0, .int v1, .int v2] f sz 0 0 (some (.int res.1)) res.2 sz := by
  refine j_start (by decide +kernel) (Nat.le_of_ble_eq_true rfl) (fun c hcl hcD hcn E => ?_)
  subst hcl
  subst hcD
  replace E : jOk c cX6_come 5 RX6 (some .int) 2 53 := E
  show J c (jZ c (some (.int res.1)) res.2 sz) f sz 0 0 0 [(0, .ref v0), (1, .int v1), (2, .int v2)] []
  unfold mX6_come at h
  refine j_aload_n E 0 dX6_come_0 rfl rfl ?_
  refine j_iload_n E 1 dX6_come_1 rfl rfl ?_
  obtain ⟨u1, h1, h⟩ := jb h
  obtain ⟨fs1, h1⟩ := chk_spec h1
  obtain ⟨r2, h2, h⟩ := jb h
  refine j_callV (As := [.int v1]) (b := v0) (rest := []) (rc := 0) (rs := 0) E (sX6_isNode h2) lwX6_isNode lkX6_90 imX6_isNode seX6_isNode rfl h1 (by decide) rfl (Nat.le_of_ble_eq_true rfl) dX6_come_2 ?_
  refine j_if_eq (tgt := 21) E dX6_come_5 (by decide) (fun hc3 => ?_) (fun hc3 => ?_)
  · replace h := jt hc3 h
    refine j_iconst (v := (-1 : Int32)) E dX6_come_21 (by decide) ?_
    cases h
    exact j_iret E dX6_come_22
  replace h := jf hc3 h
  refine j_aload_n E 0 dX6_come_8 rfl rfl ?_
  refine j_iload_n E 2 dX6_come_9 rfl rfl ?_
  obtain ⟨u4, h4, h⟩ := jb h
  obtain ⟨fs4, h4⟩ := chk_spec h4
  obtain ⟨r5, h5, h⟩ := jb h
  refine j_callV (As := [.int v2]) (b := v0) (rest := []) (rc := 0) (rs := 0) E (sX6_isNode h5) lwX6_isNode lkX6_90 imX6_isNode seX6_isNode rfl h4 (by decide) rfl (Nat.le_of_ble_eq_true rfl) dX6_come_10 ?_
  refine j_if_eq (tgt := 21) E dX6_come_13 (by decide) (fun hc6 => ?_) (fun hc6 => ?_)
  · replace h := jt hc6 h
    refine j_iconst (v := (-1 : Int32)) E dX6_come_21 (by decide) ?_
    cases h
    exact j_iret E dX6_come_22
  replace h := jf hc6 h
  refine j_iload_n E 1 dX6_come_16 rfl rfl ?_
  refine j_iload_n E 2 dX6_come_17 rfl rfl ?_
  refine j_icmp_ne (tgt := 23) E dX6_come_18 (by decide) (fun hc7 => ?_) (fun hc7 => ?_)
  · replace h := jf hc7 h
    refine j_aload_n E 0 dX6_come_23 rfl rfl ?_
    refine j_iload_n E 1 dX6_come_24 rfl rfl ?_
    refine j_iload_n E 2 dX6_come_25 rfl rfl ?_
    obtain ⟨u8, h8, h⟩ := jb h
    obtain ⟨fs8, h8⟩ := chk_spec h8
    obtain ⟨r9, h9, h⟩ := jb h
    refine j_callV (As := [.int v1, .int v2]) (b := v0) (rest := []) (rc := 0) (rs := 0) E (sX6_firstOf h9) lwX6_firstOf lkX6_125 imX6_firstOf seX6_firstOf rfl h8 (by decide) rfl (Nat.le_of_ble_eq_true rfl) dX6_come_26 ?_
    refine j_istore_n (lv' := [(3, .int r9.1), (0, .ref v0), (1, .int v1), (2, .int v2)]) E dX6_come_29 rfl (by decide) rfl ?_
    refine j_iload_n E 0 dX6_come_30 rfl rfl ?_
    refine j_iconst (v := (-1 : Int32)) E dX6_come_31 (by decide) ?_
    refine j_icmp_ne (tgt := 37) E dX6_come_32 (by decide) (fun hc10 => ?_) (fun hc10 => ?_)
    · replace h := jf hc10 h
      refine j_aload_n E 1 dX6_come_37 rfl rfl ?_
      refine j_iload_n E 0 dX6_come_38 rfl rfl ?_
      obtain ⟨u11, h11, h⟩ := jb h
      obtain ⟨fs11, h11⟩ := chk_spec h11
      obtain ⟨r12, h12, h⟩ := jb h
      refine j_callV (As := [.int r9.1]) (b := v0) (rest := []) (rc := 0) (rs := 0) E (sX6_stays h12) lwX6_stays lkX6_128 imX6_stays seX6_stays rfl h11 (by decide) rfl (Nat.le_of_ble_eq_true rfl) dX6_come_39 ?_
      refine j_if_eq (tgt := 48) E dX6_come_42 (by decide) (fun hc13 => ?_) (fun hc13 => ?_)
      · replace h := jt hc13 h
        refine j_aload_n E 1 dX6_come_48 rfl rfl ?_
        obtain ⟨x14, h14, h⟩ := jb h
        refine j_getR E gX6_54 h14 dX6_come_49 ?_
        refine j_iload_n E 0 dX6_come_52 rfl rfl ?_
        obtain ⟨x15, h15, h⟩ := jb h
        refine j_iald E h15 dX6_come_53 ?_
        refine j_istore (lv' := [(4, .int x15), (3, .int r9.1), (0, .ref v0), (1, .int v1), (2, .int v2)]) E dX6_come_54 (by decide) rfl ?_
        refine j_aload_n E 2 dX6_come_56 rfl rfl ?_
        refine j_iload_n E 1 dX6_come_57 rfl rfl ?_
        obtain ⟨u16, h16, h⟩ := jb h
        obtain ⟨fs16, h16⟩ := chk_spec h16
        obtain ⟨f17, h17, h⟩ := jb h
        refine j_callV (As := [.int r9.1]) (b := v0) (rest := []) (rc := 0) (rs := 0) E (sX6_comes h17) lwX6_comes lkX6_131 imX6_comes seX6_comes rfl h16 (by decide) rfl (Nat.le_of_ble_eq_true rfl) dX6_come_58 ?_
        refine j_iload E 0 dX6_come_61 rfl ?_
        cases h
        exact j_iret E dX6_come_63
      replace h := jf hc13 h
      refine j_bipush (v := (-2 : Int32)) E dX6_come_45 (by decide) ?_
      cases h
      exact j_iret E dX6_come_47
    replace h := jt hc10 h
    refine j_iconst (v := (0 : Int32)) E dX6_come_35 (by decide) ?_
    cases h
    exact j_iret E dX6_come_36
  replace h := jt hc7 h
  refine j_iconst (v := (-1 : Int32)) E dX6_come_21 (by decide) ?_
  cases h
  exact j_iret E dX6_come_22
def mX6_drains_L34 (fu : Nat) (k4 : Int32 → Int32 → jM → Option (Int32 × jM)) (k18 : Int32 → Int32 → Int32 → jM → Option (Int32 × jM)) (v0 : Nat) (v1 : Int32) (v4 : Int32) : Nat → Int32 → Int32 → Int32 → jM → Option (Int32 × jM)
  | 0, _, _, _, _ => none
  | n + 1, v2, v3, v5, f =>
    (rdI 6 f v0 1).bind fun x6 =>
    if x6 ≤ v5 then (
    k18 v2 v3 (v4 + (1 : Int32)) f) else (
    if v3 = 0 then (
    (chk 6 f v0).bind fun _ =>
    (mX6_firstOf fu f v0 v4 v5).bind fun r10 =>
    if r10.1 = (-1 : Int32) then (
    mX6_drains_L34 fu k4 k18 v0 v1 v4 n v2 v3 (v5 + (1 : Int32)) r10.2) else (
    (chk 6 r10.2 v0).bind fun _ =>
    (mX6_stays fu r10.2 v0 r10.1).bind fun r13 =>
    if r13.1 = 0 then (
    (chk 6 r13.2 v0).bind fun _ =>
    (mX6_comes fu r13.2 v0 r10.1).bind fun f16 =>
    mX6_drains_L34 fu k4 k18 v0 v1 v4 n (v2 + (1 : Int32)) (1 : Int32) (v5 + (1 : Int32)) f16) else (
    mX6_drains_L34 fu k4 k18 v0 v1 v4 n v2 v3 (v5 + (1 : Int32)) r13.2))) else (
    k18 v2 v3 (v4 + (1 : Int32)) f))
set_option maxRecDepth 100000 in
set_option maxHeartbeats 4000000 in
theorem wX6_drains_L34 {c : jS} {sz : Nat} {fu : Nat} {k4 : Int32 → Int32 → jM → Option (Int32 × jM)} {k18 : Int32 → Int32 → Int32 → jM → Option (Int32 × jM)} {v0 : Nat} {v1 : Int32} {v4 : Int32} {res : (Int32 × jM)} (E : jOk c cX6_drains 7 RX6 (some .int) 2 53) (hk4 : ∀ (v2 : Int32) (v3 : Int32) (f : jM), k4 v2 v3 f = some res → J c (jZ c (some (.int res.1)) res.2 sz) f sz 0 0 4 [(0, .ref v0), (1, .int v1), (2, .int v2), (3, .int v3)] []) (hk18 : ∀ (v2 : Int32) (v3 : Int32) (v4 : Int32) (f : jM), k18 v2 v3 v4 f = some res → J c (jZ c (some (.int res.1)) res.2 sz) f sz 0 0 18 [(0, .ref v0), (1, .int v1), (2, .int v2), (3, .int v3), (4, .int v4)] []) : ∀ (n : Nat) (v2 : Int32) (v3 : Int32) (v5 : Int32) (f : jM), mX6_drains_L34 fu k4 k18 v0 v1 v4 n v2 v3 v5 f = some res → J c (jZ c (some (.int res.1)) res.2 sz) f sz 0 0 34 [(0, .ref v0), (1, .int v1), (2, .int v2), (3, .int v3), (4, .int v4), (5, .int v5)] [] := by
  intro n
  induction n with
  | zero => intro v2 v3 v5 f h; exact jn0 h
  | succ n ih =>
    intro v2 v3 v5 f h
    rw [mX6_drains_L34] at h
    refine j_iload E 5 dX6_drains_34 rfl ?_
    refine j_aload_n E 0 dX6_drains_36 rfl rfl ?_
    obtain ⟨x6, h6, h⟩ := jb h
    refine j_getI E gX6_87 h6 dX6_drains_37 ?_
    refine j_icmp_ge (tgt := 92) E dX6_drains_40 (by decide) (fun hc7 => ?_) (fun hc7 => ?_)
    · replace h := jt hc7 h
      refine j_iinc (v := (v4 + (1 : Int32))) (lv' := [(4, .int (v4 + (1 : Int32))), (0, .ref v0), (1, .int v1), (2, .int v2), (3, .int v3), (5, .int v5)]) E 4 dX6_drains_92 rfl rfl (by decide) rfl ?_
      refine j_goto (tgt := 18) E dX6_drains_95 (by decide) ?_
      exact j_sub [1, 2, 3, 4, 0] rfl (hk18 _ _ _ _ h)
    replace h := jf hc7 h
    refine j_iload_n E 3 dX6_drains_43 rfl rfl ?_
    refine j_if_ne (tgt := 92) E dX6_drains_44 (by decide) (fun hc8 => ?_) (fun hc8 => ?_)
    · replace h := jf hc8 h
      refine j_iinc (v := (v4 + (1 : Int32))) (lv' := [(4, .int (v4 + (1 : Int32))), (0, .ref v0), (1, .int v1), (2, .int v2), (3, .int v3), (5, .int v5)]) E 4 dX6_drains_92 rfl rfl (by decide) rfl ?_
      refine j_goto (tgt := 18) E dX6_drains_95 (by decide) ?_
      exact j_sub [1, 2, 3, 4, 0] rfl (hk18 _ _ _ _ h)
    replace h := jt hc8 h
    refine j_aload_n E 0 dX6_drains_47 rfl rfl ?_
    refine j_iload E 4 dX6_drains_48 rfl ?_
    refine j_iload E 5 dX6_drains_50 rfl ?_
    obtain ⟨u9, h9, h⟩ := jb h
    obtain ⟨fs9, h9⟩ := chk_spec h9
    obtain ⟨r10, h10, h⟩ := jb h
    refine j_callV (As := [.int v4, .int v5]) (b := v0) (rest := []) (rc := 0) (rs := 0) E (sX6_firstOf h10) lwX6_firstOf lkX6_125 imX6_firstOf seX6_firstOf rfl h9 (by decide) rfl (Nat.le_of_ble_eq_true rfl) dX6_drains_52 ?_
    refine j_istore (lv' := [(6, .int r10.1), (0, .ref v0), (1, .int v1), (2, .int v2), (3, .int v3), (4, .int v4), (5, .int v5)]) E dX6_drains_55 (by decide) rfl ?_
    refine j_iload E 0 dX6_drains_57 rfl ?_
    refine j_iconst (v := (-1 : Int32)) E dX6_drains_59 (by decide) ?_
    refine j_icmp_eq (tgt := 86) E dX6_drains_60 (by decide) (fun hc11 => ?_) (fun hc11 => ?_)
    · replace h := jt hc11 h
      refine j_iinc (v := (v5 + (1 : Int32))) (lv' := [(5, .int (v5 + (1 : Int32))), (6, .int r10.1), (0, .ref v0), (1, .int v1), (2, .int v2), (3, .int v3), (4, .int v4)]) E 6 dX6_drains_86 rfl rfl (by decide) rfl ?_
      refine j_goto (tgt := 34) E dX6_drains_89 (by decide) ?_
      exact j_sub [2, 3, 4, 5, 6, 0] rfl (ih _ _ _ _ h)
    replace h := jf hc11 h
    refine j_aload_n E 1 dX6_drains_63 rfl rfl ?_
    refine j_iload E 0 dX6_drains_64 rfl ?_
    obtain ⟨u12, h12, h⟩ := jb h
    obtain ⟨fs12, h12⟩ := chk_spec h12
    obtain ⟨r13, h13, h⟩ := jb h
    refine j_callV (As := [.int r10.1]) (b := v0) (rest := []) (rc := 0) (rs := 0) E (sX6_stays h13) lwX6_stays lkX6_128 imX6_stays seX6_stays rfl h12 (by decide) rfl (Nat.le_of_ble_eq_true rfl) dX6_drains_66 ?_
    refine j_if_eq (tgt := 75) E dX6_drains_69 (by decide) (fun hc14 => ?_) (fun hc14 => ?_)
    · replace h := jt hc14 h
      refine j_aload_n E 1 dX6_drains_75 rfl rfl ?_
      refine j_iload E 0 dX6_drains_76 rfl ?_
      obtain ⟨u15, h15, h⟩ := jb h
      obtain ⟨fs15, h15⟩ := chk_spec h15
      obtain ⟨f16, h16, h⟩ := jb h
      refine j_callV (As := [.int r10.1]) (b := v0) (rest := []) (rc := 0) (rs := 0) E (sX6_comes h16) lwX6_comes lkX6_131 imX6_comes seX6_comes rfl h15 (by decide) rfl (Nat.le_of_ble_eq_true rfl) dX6_drains_78 ?_
      refine j_iinc (v := (v2 + (1 : Int32))) (lv' := [(2, .int (v2 + (1 : Int32))), (6, .int r10.1), (0, .ref v0), (1, .int v1), (3, .int v3), (4, .int v4), (5, .int v5)]) E 3 dX6_drains_81 rfl rfl (by decide) rfl ?_
      refine j_iconst (v := (1 : Int32)) E dX6_drains_84 (by decide) ?_
      refine j_istore_n (lv' := [(3, .int (1 : Int32)), (2, .int (v2 + (1 : Int32))), (6, .int r10.1), (0, .ref v0), (1, .int v1), (4, .int v4), (5, .int v5)]) E dX6_drains_85 rfl (by decide) rfl ?_
      refine j_iinc (v := (v5 + (1 : Int32))) (lv' := [(5, .int (v5 + (1 : Int32))), (3, .int (1 : Int32)), (2, .int (v2 + (1 : Int32))), (6, .int r10.1), (0, .ref v0), (1, .int v1), (4, .int v4)]) E 6 dX6_drains_86 rfl rfl (by decide) rfl ?_
      refine j_goto (tgt := 34) E dX6_drains_89 (by decide) ?_
      exact j_sub [4, 5, 2, 1, 6, 0] rfl (ih _ _ _ _ h)
    replace h := jf hc14 h
    refine j_goto (tgt := 86) E dX6_drains_72 (by decide) ?_
    refine j_iinc (v := (v5 + (1 : Int32))) (lv' := [(5, .int (v5 + (1 : Int32))), (6, .int r10.1), (0, .ref v0), (1, .int v1), (2, .int v2), (3, .int v3), (4, .int v4)]) E 6 dX6_drains_86 rfl rfl (by decide) rfl ?_
    refine j_goto (tgt := 34) E dX6_drains_89 (by decide) ?_
    exact j_sub [2, 3, 4, 5, 6, 0] rfl (ih _ _ _ _ h)
def mX6_drains_L18 (fu : Nat) (k4 : Int32 → Int32 → jM → Option (Int32 × jM)) (v0 : Nat) (v1 : Int32) : Nat → Int32 → Int32 → Int32 → jM → Option (Int32 × jM)
  | 0, _, _, _, _ => none
  | n + 1, v2, v3, v4, f =>
    (rdI 6 f v0 1).bind fun x3 =>
    if x3 ≤ v4 then (
    k4 v2 v3 f) else (
    if v3 = 0 then (
    mX6_drains_L34 fu k4 (mX6_drains_L18 fu k4 v0 v1 n) v0 v1 v4 fu v2 v3 (0 : Int32) f) else (
    k4 v2 v3 f))
set_option maxRecDepth 100000 in
set_option maxHeartbeats 4000000 in
theorem wX6_drains_L18 {c : jS} {sz : Nat} {fu : Nat} {k4 : Int32 → Int32 → jM → Option (Int32 × jM)} {v0 : Nat} {v1 : Int32} {res : (Int32 × jM)} (E : jOk c cX6_drains 7 RX6 (some .int) 2 53) (hk4 : ∀ (v2 : Int32) (v3 : Int32) (f : jM), k4 v2 v3 f = some res → J c (jZ c (some (.int res.1)) res.2 sz) f sz 0 0 4 [(0, .ref v0), (1, .int v1), (2, .int v2), (3, .int v3)] []) : ∀ (n : Nat) (v2 : Int32) (v3 : Int32) (v4 : Int32) (f : jM), mX6_drains_L18 fu k4 v0 v1 n v2 v3 v4 f = some res → J c (jZ c (some (.int res.1)) res.2 sz) f sz 0 0 18 [(0, .ref v0), (1, .int v1), (2, .int v2), (3, .int v3), (4, .int v4)] [] := by
  intro n
  induction n with
  | zero => intro v2 v3 v4 f h; exact jn0 h
  | succ n ih =>
    intro v2 v3 v4 f h
    rw [mX6_drains_L18] at h
    refine j_iload E 4 dX6_drains_18 rfl ?_
    refine j_aload_n E 0 dX6_drains_20 rfl rfl ?_
    obtain ⟨x3, h3, h⟩ := jb h
    refine j_getI E gX6_87 h3 dX6_drains_21 ?_
    refine j_icmp_ge (tgt := 98) E dX6_drains_24 (by decide) (fun hc4 => ?_) (fun hc4 => ?_)
    · replace h := jt hc4 h
      refine j_goto (tgt := 4) E dX6_drains_98 (by decide) ?_
      exact j_sub [0, 1, 2, 3] rfl (hk4 _ _ _ h)
    replace h := jf hc4 h
    refine j_iload_n E 3 dX6_drains_27 rfl rfl ?_
    refine j_if_ne (tgt := 98) E dX6_drains_28 (by decide) (fun hc5 => ?_) (fun hc5 => ?_)
    · replace h := jf hc5 h
      refine j_goto (tgt := 4) E dX6_drains_98 (by decide) ?_
      exact j_sub [0, 1, 2, 3] rfl (hk4 _ _ _ h)
    replace h := jt hc5 h
    refine j_iconst (v := (0 : Int32)) E dX6_drains_31 (by decide) ?_
    refine j_istore (lv' := [(5, .int (0 : Int32)), (0, .ref v0), (1, .int v1), (2, .int v2), (3, .int v3), (4, .int v4)]) E dX6_drains_32 (by decide) rfl ?_
    exact j_sub [1, 2, 3, 4, 5, 0] rfl (wX6_drains_L34 E hk4 ih _ _ _ _ _ h)
def mX6_drains_L4 (fu : Nat)  (v0 : Nat) (v1 : Int32) : Nat → Int32 → Int32 → jM → Option (Int32 × jM)
  | 0, _, _, _ => none
  | n + 1, v2, v3, f =>
    if v3 = 0 then (
    some (v2, f)) else (
    if v1 ≤ v2 then (
    some (v2, f)) else (
    mX6_drains_L18 fu (mX6_drains_L4 fu v0 v1 n) v0 v1 fu v2 (0 : Int32) (0 : Int32) f))
set_option maxRecDepth 100000 in
set_option maxHeartbeats 4000000 in
theorem wX6_drains_L4 {c : jS} {sz : Nat} {fu : Nat}  {v0 : Nat} {v1 : Int32} {res : (Int32 × jM)} (E : jOk c cX6_drains 7 RX6 (some .int) 2 53)  : ∀ (n : Nat) (v2 : Int32) (v3 : Int32) (f : jM), mX6_drains_L4 fu  v0 v1 n v2 v3 f = some res → J c (jZ c (some (.int res.1)) res.2 sz) f sz 0 0 4 [(0, .ref v0), (1, .int v1), (2, .int v2), (3, .int v3)] [] := by
  intro n
  induction n with
  | zero => intro v2 v3 f h; exact jn0 h
  | succ n ih =>
    intro v2 v3 f h
    rw [mX6_drains_L4] at h
    refine j_iload_n E 3 dX6_drains_4 rfl rfl ?_
    refine j_if_eq (tgt := 101) E dX6_drains_5 (by decide) (fun hc1 => ?_) (fun hc1 => ?_)
    · replace h := jt hc1 h
      refine j_iload_n E 2 dX6_drains_101 rfl rfl ?_
      cases h
      exact j_iret E dX6_drains_102
    replace h := jf hc1 h
    refine j_iload_n E 2 dX6_drains_8 rfl rfl ?_
    refine j_iload_n E 1 dX6_drains_9 rfl rfl ?_
    refine j_icmp_ge (tgt := 101) E dX6_drains_10 (by decide) (fun hc2 => ?_) (fun hc2 => ?_)
    · replace h := jt hc2 h
      refine j_iload_n E 2 dX6_drains_101 rfl rfl ?_
      cases h
      exact j_iret E dX6_drains_102
    replace h := jf hc2 h
    refine j_iconst (v := (0 : Int32)) E dX6_drains_13 (by decide) ?_
    refine j_istore_n (lv' := [(3, .int (0 : Int32)), (0, .ref v0), (1, .int v1), (2, .int v2)]) E dX6_drains_14 rfl (by decide) rfl ?_
    refine j_iconst (v := (0 : Int32)) E dX6_drains_15 (by decide) ?_
    refine j_istore (lv' := [(4, .int (0 : Int32)), (3, .int (0 : Int32)), (0, .ref v0), (1, .int v1), (2, .int v2)]) E dX6_drains_16 (by decide) rfl ?_
    exact j_sub [2, 3, 4, 1, 0] rfl (wX6_drains_L18 E ih _ _ _ _ _ h)
def mX6_drains (fu : Nat) (f : jM) (v0 : Nat) (v1 : Int32) : Option (Int32 × jM) :=
    mX6_drains_L4 fu v0 v1 fu (0 : Int32) (1 : Int32) f
set_option maxRecDepth 100000 in
set_option maxHeartbeats 4000000 in
theorem sX6_drains {l : Launch} {D : jD} {sz : Nat} {fu : Nat} {f : jM} {v0 : Nat} {v1 : Int32} {res : (Int32 × jM)} (h : mX6_drains fu f v0 v1 = some res) : jCt l D yX6_drains cX6_drains 7 (some .int) 2 53 [.ref v0, .int v1] f sz 0 0 (some (.int res.1)) res.2 sz := by
  refine j_start (by decide +kernel) (Nat.le_of_ble_eq_true rfl) (fun c hcl hcD hcn E => ?_)
  subst hcl
  subst hcD
  replace E : jOk c cX6_drains 7 RX6 (some .int) 2 53 := E
  show J c (jZ c (some (.int res.1)) res.2 sz) f sz 0 0 0 [(0, .ref v0), (1, .int v1)] []
  unfold mX6_drains at h
  refine j_iconst (v := (0 : Int32)) E dX6_drains_0 (by decide) ?_
  refine j_istore_n (lv' := [(2, .int (0 : Int32)), (0, .ref v0), (1, .int v1)]) E dX6_drains_1 rfl (by decide) rfl ?_
  refine j_iconst (v := (1 : Int32)) E dX6_drains_2 (by decide) ?_
  refine j_istore_n (lv' := [(3, .int (1 : Int32)), (2, .int (0 : Int32)), (0, .ref v0), (1, .int v1)]) E dX6_drains_3 rfl (by decide) rfl ?_
  exact j_sub [2, 3, 1, 0] rfl (wX6_drains_L4 E _ _ _ _ h)
def mX6_drain (fu : Nat) (f : jM) (v0 : Nat) (v1 : Int32) : Option (Int32 × jM) :=
    if v1 < 0 then (
    some ((-1 : Int32), f)) else (
    if v1 ≤ (1000 : Int32) then (
    (chk 6 f v0).bind fun _ =>
    (mX6_drains fu f v0 v1).bind fun r4 =>
    some (r4.1, r4.2)) else (
    some ((-1 : Int32), f)))
set_option maxRecDepth 100000 in
set_option maxHeartbeats 4000000 in
theorem sX6_drain {l : Launch} {D : jD} {sz : Nat} {fu : Nat} {f : jM} {v0 : Nat} {v1 : Int32} {res : (Int32 × jM)} (h : mX6_drain fu f v0 v1 = some res) : jCt l D yX6_drain cX6_drain 2 (some .int) 3 79 [.ref v0, .int v1] f sz 0 0 (some (.int res.1)) res.2 sz := by
  refine j_start (by decide +kernel) (Nat.le_of_ble_eq_true rfl) (fun c hcl hcD hcn E => ?_)
  subst hcl
  subst hcD
  replace E : jOk c cX6_drain 2 RX6 (some .int) 3 79 := E
  show J c (jZ c (some (.int res.1)) res.2 sz) f sz 0 0 0 [(0, .ref v0), (1, .int v1)] []
  unfold mX6_drain at h
  refine j_iload_n E 1 dX6_drain_0 rfl rfl ?_
  refine j_if_lt (tgt := 11) E dX6_drain_1 (by decide) (fun hc1 => ?_) (fun hc1 => ?_)
  · replace h := jt hc1 h
    refine j_iconst (v := (-1 : Int32)) E dX6_drain_11 (by decide) ?_
    refine j_goto (tgt := 20) E dX6_drain_12 (by decide) ?_
    cases h
    exact j_iret E dX6_drain_20
  replace h := jf hc1 h
  refine j_iload_n E 1 dX6_drain_4 rfl rfl ?_
  refine j_sipush (v := (1000 : Int32)) E dX6_drain_5 (by decide) ?_
  refine j_icmp_le (tgt := 15) E dX6_drain_8 (by decide) (fun hc2 => ?_) (fun hc2 => ?_)
  · replace h := jt hc2 h
    refine j_aload_n E 0 dX6_drain_15 rfl rfl ?_
    refine j_iload_n E 1 dX6_drain_16 rfl rfl ?_
    obtain ⟨u3, h3, h⟩ := jb h
    obtain ⟨fs3, h3⟩ := chk_spec h3
    obtain ⟨r4, h4, h⟩ := jb h
    refine j_callV (As := [.int v1]) (b := v0) (rest := []) (rc := 0) (rs := 0) E (sX6_drains h4) lwX6_drains lkX6_134 imX6_drains seX6_drains rfl h3 (by decide) rfl (Nat.le_of_ble_eq_true rfl) dX6_drain_17 ?_
    cases h
    exact j_iret E dX6_drain_20
  replace h := jf hc2 h
  refine j_iconst (v := (-1 : Int32)) E dX6_drain_11 (by decide) ?_
  refine j_goto (tgt := 20) E dX6_drain_12 (by decide) ?_
  cases h
  exact j_iret E dX6_drain_20
def mX6_marks (f : jM) (v0 : Nat) (v1 : Int32) (v2 : Int32) (v3 : Int32) : Option jM :=
    if v2 = (2 : Int32) then (
    if (v3 / (24 : Int32)) = v1 then (
    (rdR 6 f v0 20).bind fun x3 =>
    (ldI 1 f x3 v3).bind fun x4 =>
    if x4 = 0 then (
    (rdR 6 f v0 20).bind fun x6 =>
    (stI 1 f x6 v3 (vp_nar .boolean (1 : Int32))).bind fun f7 =>
    (rdR 6 f7 v0 23).bind fun x8 =>
    (rdI 6 f7 v0 22).bind fun x9 =>
    (stI 0 f7 x8 x9 v3).bind fun f10 =>
    (rdI 6 f10 v0 22).bind fun x11 =>
    (wrV 6 f10 v0 22 (.int (x11 + (1 : Int32)))).bind fun f12 =>
    some f12) else (
    some f)) else (
    (rdR 6 f v0 21).bind fun x13 =>
    (stI 1 f x13 v3 (vp_nar .boolean (1 : Int32))).bind fun f14 =>
    some f14)) else (
    some f)
set_option maxRecDepth 100000 in
set_option maxHeartbeats 4000000 in
theorem sX6_marks {l : Launch} {D : jD} {sz : Nat} {f : jM} {v0 : Nat} {v1 : Int32} {v2 : Int32} {v3 : Int32} {res : jM} (h : mX6_marks f v0 v1 v2 v3 = some res) : jCt l D yX6_marks cX6_marks 4 none 0 0 [.ref v0, .int v1, .int v2, .int v3] f sz 0 0 none res sz := by
  refine j_start (by decide +kernel) (Nat.le_of_ble_eq_true rfl) (fun c hcl hcD hcn E => ?_)
  subst hcl
  subst hcD
  replace E : jOk c cX6_marks 4 RX6 none 0 0 := E
  show J c (jZ c none res sz) f sz 0 0 0 [(0, .ref v0), (1, .int v1), (2, .int v2), (3, .int v3)] []
  unfold mX6_marks at h
  refine j_iload_n E 2 dX6_marks_0 rfl rfl ?_
  refine j_iconst (v := (2 : Int32)) E dX6_marks_1 (by decide) ?_
  refine j_icmp_eq (tgt := 6) E dX6_marks_2 (by decide) (fun hc1 => ?_) (fun hc1 => ?_)
  · replace h := jt hc1 h
    refine j_iload_n E 3 dX6_marks_6 rfl rfl ?_
    refine j_bipush (v := (24 : Int32)) E dX6_marks_7 (by decide) ?_
    refine j_idiv E dX6_marks_9 (by decide) ?_
    refine j_iload_n E 1 dX6_marks_10 rfl rfl ?_
    refine j_icmp_eq (tgt := 24) E dX6_marks_11 (by decide) (fun hc2 => ?_) (fun hc2 => ?_)
    · replace h := jt hc2 h
      refine j_aload_n E 0 dX6_marks_24 rfl rfl ?_
      obtain ⟨x3, h3, h⟩ := jb h
      refine j_getR E gX6_66 h3 dX6_marks_25 ?_
      refine j_iload_n E 3 dX6_marks_28 rfl rfl ?_
      obtain ⟨x4, h4, h⟩ := jb h
      refine j_zald E h4 dX6_marks_29 ?_
      refine j_if_ne (tgt := 60) E dX6_marks_30 (by decide) (fun hc5 => ?_) (fun hc5 => ?_)
      · replace h := jf hc5 h
        cases h
        exact j_vret E dX6_marks_60
      replace h := jt hc5 h
      refine j_aload_n E 0 dX6_marks_33 rfl rfl ?_
      obtain ⟨x6, h6, h⟩ := jb h
      refine j_getR E gX6_66 h6 dX6_marks_34 ?_
      refine j_iload_n E 3 dX6_marks_37 rfl rfl ?_
      refine j_iconst (v := (1 : Int32)) E dX6_marks_38 (by decide) ?_
      obtain ⟨f7, h7, h⟩ := jb h
      refine j_zast E h7 dX6_marks_39 ?_
      refine j_aload_n E 0 dX6_marks_40 rfl rfl ?_
      obtain ⟨x8, h8, h⟩ := jb h
      refine j_getR E gX6_72 h8 dX6_marks_41 ?_
      refine j_aload_n E 0 dX6_marks_44 rfl rfl ?_
      obtain ⟨x9, h9, h⟩ := jb h
      refine j_getI E gX6_137 h9 dX6_marks_45 ?_
      refine j_iload_n E 3 dX6_marks_48 rfl rfl ?_
      obtain ⟨f10, h10, h⟩ := jb h
      refine j_iast E h10 dX6_marks_49 ?_
      refine j_aload_n E 0 dX6_marks_50 rfl rfl ?_
      refine j_dup E dX6_marks_51 rfl ?_
      obtain ⟨x11, h11, h⟩ := jb h
      refine j_getI E gX6_137 h11 dX6_marks_52 ?_
      refine j_iconst (v := (1 : Int32)) E dX6_marks_55 (by decide) ?_
      refine j_iadd E dX6_marks_56 ?_
      obtain ⟨f12, h12, h⟩ := jb h
      refine j_putV E gpX6_137 h12 rfl rfl dX6_marks_57 ?_
      cases h
      exact j_vret E dX6_marks_60
    replace h := jf hc2 h
    refine j_aload_n E 0 dX6_marks_14 rfl rfl ?_
    obtain ⟨x13, h13, h⟩ := jb h
    refine j_getR E gX6_69 h13 dX6_marks_15 ?_
    refine j_iload_n E 3 dX6_marks_18 rfl rfl ?_
    refine j_iconst (v := (1 : Int32)) E dX6_marks_19 (by decide) ?_
    obtain ⟨f14, h14, h⟩ := jb h
    refine j_zast E h14 dX6_marks_20 ?_
    refine j_goto (tgt := 60) E dX6_marks_21 (by decide) ?_
    cases h
    exact j_vret E dX6_marks_60
  replace h := jf hc1 h
  cases h
  exact j_vret E dX6_marks_5
def mX6_slides_B86 (fu : Nat) (k4 : Int32 → Int32 → jM → Option jM) (k20 : Int32 → Int32 → jM → Option jM) (v0 : Nat) (v1 : Int32) (v2 : Int32) (v3 : Int32) (v5 : Int32)  (f : jM) : Option jM :=
    k20 (((24 : Int32) * v1) + v5) (v5 + (1 : Int32)) f
set_option maxRecDepth 100000 in
set_option maxHeartbeats 4000000 in
theorem wX6_slides_B86 {c : jS} {sz : Nat} {fu : Nat} {k4 : Int32 → Int32 → jM → Option jM} {k20 : Int32 → Int32 → jM → Option jM} {v0 : Nat} {v1 : Int32} {v2 : Int32} {v3 : Int32} {v5 : Int32}  {f : jM} {res : jM} (E : jOk c cX6_slides 6 RX6 none 0 0) (hk4 : ∀ (v2 : Int32) (v3 : Int32) (f : jM), k4 v2 v3 f = some res → J c (jZ c none res sz) f sz 0 0 4 [(0, .ref v0), (1, .int v1), (2, .int v2), (3, .int v3)] []) (hk20 : ∀ (v4 : Int32) (v5 : Int32) (f : jM), k20 v4 v5 f = some res → J c (jZ c none res sz) f sz 0 0 20 [(0, .ref v0), (1, .int v1), (2, .int v2), (3, .int v3), (4, .int v4), (5, .int v5)] []) (h : mX6_slides_B86 fu k4 k20 v0 v1 v2 v3 v5  f = some res) : J c (jZ c none res sz) f sz 0 0 86 [(0, .ref v0), (1, .int v1), (2, .int v2), (3, .int v3), (5, .int v5)] [] := by
  unfold mX6_slides_B86 at h
  refine j_bipush (v := (24 : Int32)) E dX6_slides_86 (by decide) ?_
  refine j_iload_n E 1 dX6_slides_88 rfl rfl ?_
  refine j_imul E dX6_slides_89 ?_
  refine j_iload E 4 dX6_slides_90 rfl ?_
  refine j_iadd E dX6_slides_92 ?_
  refine j_istore (lv' := [(4, .int (((24 : Int32) * v1) + v5)), (0, .ref v0), (1, .int v1), (2, .int v2), (3, .int v3), (5, .int v5)]) E dX6_slides_93 (by decide) rfl ?_
  refine j_iinc (v := (v5 + (1 : Int32))) (lv' := [(5, .int (v5 + (1 : Int32))), (4, .int (((24 : Int32) * v1) + v5)), (0, .ref v0), (1, .int v1), (2, .int v2), (3, .int v3)]) E 5 dX6_slides_95 rfl rfl (by decide) rfl ?_
  refine j_goto (tgt := 20) E dX6_slides_98 (by decide) ?_
  exact j_sub [2, 3, 4, 5, 1, 0] rfl (hk20 _ _ _ h)
def mX6_slides_B157 (fu : Nat) (k4 : Int32 → Int32 → jM → Option jM) (v0 : Nat) (v1 : Int32) (v2 : Int32) (v3 : Int32) (v4 : Int32)  (f : jM) : Option jM :=
    (rdR 6 f v0 3).bind fun x30 =>
    (stI 0 f x30 v4 v2).bind fun f31 =>
    (rdR 6 f31 v0 2).bind fun x32 =>
    (ldI 0 f31 x32 v4).bind fun x33 =>
    k4 (v2 + (x33 + (1 : Int32))) v3 f31
set_option maxRecDepth 100000 in
set_option maxHeartbeats 4000000 in
theorem wX6_slides_B157 {c : jS} {sz : Nat} {fu : Nat} {k4 : Int32 → Int32 → jM → Option jM} {v0 : Nat} {v1 : Int32} {v2 : Int32} {v3 : Int32} {v4 : Int32}  {f : jM} {res : jM} (E : jOk c cX6_slides 6 RX6 none 0 0) (hk4 : ∀ (v2 : Int32) (v3 : Int32) (f : jM), k4 v2 v3 f = some res → J c (jZ c none res sz) f sz 0 0 4 [(0, .ref v0), (1, .int v1), (2, .int v2), (3, .int v3)] []) (h : mX6_slides_B157 fu k4 v0 v1 v2 v3 v4  f = some res) : J c (jZ c none res sz) f sz 0 0 157 [(0, .ref v0), (1, .int v1), (2, .int v2), (3, .int v3), (4, .int v4)] [] := by
  unfold mX6_slides_B157 at h
  refine j_aload_n E 0 dX6_slides_157 rfl rfl ?_
  obtain ⟨x30, h30, h⟩ := jb h
  refine j_getR E gX6_17 h30 dX6_slides_158 ?_
  refine j_iload E 4 dX6_slides_161 rfl ?_
  refine j_iload_n E 2 dX6_slides_163 rfl rfl ?_
  obtain ⟨f31, h31, h⟩ := jb h
  refine j_iast E h31 dX6_slides_164 ?_
  refine j_iload_n E 2 dX6_slides_165 rfl rfl ?_
  refine j_aload_n E 0 dX6_slides_166 rfl rfl ?_
  obtain ⟨x32, h32, h⟩ := jb h
  refine j_getR E gX6_13 h32 dX6_slides_167 ?_
  refine j_iload E 4 dX6_slides_170 rfl ?_
  obtain ⟨x33, h33, h⟩ := jb h
  refine j_iald E h33 dX6_slides_172 ?_
  refine j_iconst (v := (1 : Int32)) E dX6_slides_173 (by decide) ?_
  refine j_iadd E dX6_slides_174 ?_
  refine j_iadd E dX6_slides_175 ?_
  refine j_istore_n (lv' := [(2, .int (v2 + (x33 + (1 : Int32)))), (0, .ref v0), (1, .int v1), (3, .int v3), (4, .int v4)]) E dX6_slides_176 rfl (by decide) rfl ?_
  refine j_goto (tgt := 4) E dX6_slides_177 (by decide) ?_
  exact j_sub [1, 2, 0, 3] rfl (hk4 _ _ _ h)
def mX6_slides_B180 (fu : Nat)  (v0 : Nat) (v1 : Int32) (v2 : Int32)  (f : jM) : Option jM :=
    (rdR 6 f v0 11).bind fun x34 =>
    (stI 0 f x34 v1 v2).bind fun f35 =>
    some f35
set_option maxRecDepth 100000 in
set_option maxHeartbeats 4000000 in
theorem wX6_slides_B180 {c : jS} {sz : Nat} {fu : Nat}  {v0 : Nat} {v1 : Int32} {v2 : Int32}  {f : jM} {res : jM} (E : jOk c cX6_slides 6 RX6 none 0 0)  (h : mX6_slides_B180 fu  v0 v1 v2  f = some res) : J c (jZ c none res sz) f sz 0 0 180 [(0, .ref v0), (1, .int v1), (2, .int v2)] [] := by
  unfold mX6_slides_B180 at h
  refine j_aload_n E 0 dX6_slides_180 rfl rfl ?_
  obtain ⟨x34, h34, h⟩ := jb h
  refine j_getR E gX6_42 h34 dX6_slides_181 ?_
  refine j_iload_n E 1 dX6_slides_184 rfl rfl ?_
  refine j_iload_n E 2 dX6_slides_185 rfl rfl ?_
  obtain ⟨f35, h35, h⟩ := jb h
  refine j_iast E h35 dX6_slides_186 ?_
  cases h
  exact j_vret E dX6_slides_187
def mX6_slides_L20 (fu : Nat) (k4 : Int32 → Int32 → jM → Option jM) (v0 : Nat) (v1 : Int32) (v2 : Int32) (v3 : Int32) : Nat → Int32 → Int32 → jM → Option jM
  | 0, _, _, _ => none
  | n + 1, v4, v5, f =>
    if (24 : Int32) ≤ v5 then (
    if v4 = (-1 : Int32) then (
    mX6_slides_B180 fu v0 v1 v2 f) else (
    (rdR 6 f v0 3).bind fun x6 =>
    (ldI 0 f x6 v4).bind fun x7 =>
    (rdR 6 f v0 2).bind fun x8 =>
    (ldI 0 f x8 v4).bind fun x9 =>
    (rdR 6 f v0 3).bind fun x10 =>
    (ldI 0 f x10 v4).bind fun x11 =>
    if x11 = v2 then (
    mX6_slides_B157 fu k4 v0 v1 v2 ((x7 + x9) + (1 : Int32)) v4 f) else (
    (rdR 6 f v0 12).bind fun x13 =>
    (ldI 0 f x13 v1).bind fun x14 =>
    (rdR 6 f v0 2).bind fun x15 =>
    (ldI 0 f x15 v4).bind fun x16 =>
    (stI 0 f x13 v1 (x14 + (x16 + (1 : Int32)))).bind fun f17 =>
    mX6_slides_B157 fu k4 v0 v1 v2 ((x7 + x9) + (1 : Int32)) v4 f17))) else (
    (rdR 6 f v0 5).bind fun x18 =>
    (ldI 1 f x18 (((24 : Int32) * v1) + v5)).bind fun x19 =>
    if x19 = 0 then (
    mX6_slides_L20 fu k4 v0 v1 v2 v3 n v4 (v5 + (1 : Int32)) f) else (
    (rdR 6 f v0 3).bind fun x21 =>
    (ldI 0 f x21 (((24 : Int32) * v1) + v5)).bind fun x22 =>
    if x22 < v3 then (
    mX6_slides_L20 fu k4 v0 v1 v2 v3 n v4 (v5 + (1 : Int32)) f) else (
    if v4 = (-1 : Int32) then (
    mX6_slides_B86 fu k4 (mX6_slides_L20 fu k4 v0 v1 v2 v3 n) v0 v1 v2 v3 v5 f) else (
    (rdR 6 f v0 3).bind fun x25 =>
    (ldI 0 f x25 (((24 : Int32) * v1) + v5)).bind fun x26 =>
    (rdR 6 f v0 3).bind fun x27 =>
    (ldI 0 f x27 v4).bind fun x28 =>
    if x28 ≤ x26 then (
    mX6_slides_L20 fu k4 v0 v1 v2 v3 n v4 (v5 + (1 : Int32)) f) else (
    mX6_slides_B86 fu k4 (mX6_slides_L20 fu k4 v0 v1 v2 v3 n) v0 v1 v2 v3 v5 f)))))
set_option maxRecDepth 100000 in
set_option maxHeartbeats 4000000 in
theorem wX6_slides_L20 {c : jS} {sz : Nat} {fu : Nat} {k4 : Int32 → Int32 → jM → Option jM} {v0 : Nat} {v1 : Int32} {v2 : Int32} {v3 : Int32} {res : jM} (E : jOk c cX6_slides 6 RX6 none 0 0) (hk4 : ∀ (v2 : Int32) (v3 : Int32) (f : jM), k4 v2 v3 f = some res → J c (jZ c none res sz) f sz 0 0 4 [(0, .ref v0), (1, .int v1), (2, .int v2), (3, .int v3)] []) : ∀ (n : Nat) (v4 : Int32) (v5 : Int32) (f : jM), mX6_slides_L20 fu k4 v0 v1 v2 v3 n v4 v5 f = some res → J c (jZ c none res sz) f sz 0 0 20 [(0, .ref v0), (1, .int v1), (2, .int v2), (3, .int v3), (4, .int v4), (5, .int v5)] [] := by
  intro n
  induction n with
  | zero => intro v4 v5 f h; exact jn0 h
  | succ n ih =>
    intro v4 v5 f h
    rw [mX6_slides_L20] at h
    refine j_iload E 5 dX6_slides_20 rfl ?_
    refine j_bipush (v := (24 : Int32)) E dX6_slides_22 (by decide) ?_
    refine j_icmp_ge (tgt := 101) E dX6_slides_24 (by decide) (fun hc4 => ?_) (fun hc4 => ?_)
    · replace h := jt hc4 h
      refine j_iload E 4 dX6_slides_101 rfl ?_
      refine j_iconst (v := (-1 : Int32)) E dX6_slides_103 (by decide) ?_
      refine j_icmp_ne (tgt := 110) E dX6_slides_104 (by decide) (fun hc5 => ?_) (fun hc5 => ?_)
      · replace h := jf hc5 h
        refine j_aload_n E 0 dX6_slides_110 rfl rfl ?_
        obtain ⟨x6, h6, h⟩ := jb h
        refine j_getR E gX6_17 h6 dX6_slides_111 ?_
        refine j_iload E 4 dX6_slides_114 rfl ?_
        obtain ⟨x7, h7, h⟩ := jb h
        refine j_iald E h7 dX6_slides_116 ?_
        refine j_aload_n E 0 dX6_slides_117 rfl rfl ?_
        obtain ⟨x8, h8, h⟩ := jb h
        refine j_getR E gX6_13 h8 dX6_slides_118 ?_
        refine j_iload E 4 dX6_slides_121 rfl ?_
        obtain ⟨x9, h9, h⟩ := jb h
        refine j_iald E h9 dX6_slides_123 ?_
        refine j_iadd E dX6_slides_124 ?_
        refine j_iconst (v := (1 : Int32)) E dX6_slides_125 (by decide) ?_
        refine j_iadd E dX6_slides_126 ?_
        refine j_istore_n (lv' := [(3, .int ((x7 + x9) + (1 : Int32))), (0, .ref v0), (1, .int v1), (2, .int v2), (4, .int v4), (5, .int v5)]) E dX6_slides_127 rfl (by decide) rfl ?_
        refine j_aload_n E 1 dX6_slides_128 rfl rfl ?_
        obtain ⟨x10, h10, h⟩ := jb h
        refine j_getR E gX6_17 h10 dX6_slides_129 ?_
        refine j_iload E 4 dX6_slides_132 rfl ?_
        obtain ⟨x11, h11, h⟩ := jb h
        refine j_iald E h11 dX6_slides_134 ?_
        refine j_iload_n E 3 dX6_slides_135 rfl rfl ?_
        refine j_icmp_eq (tgt := 157) E dX6_slides_136 (by decide) (fun hc12 => ?_) (fun hc12 => ?_)
        · replace h := jt hc12 h
          exact j_sub [1, 2, 3, 0, 4] rfl (wX6_slides_B157 E hk4 h)
        replace h := jf hc12 h
        refine j_aload_n E 1 dX6_slides_139 rfl rfl ?_
        obtain ⟨x13, h13, h⟩ := jb h
        refine j_getR E gX6_45 h13 dX6_slides_140 ?_
        refine j_iload_n E 2 dX6_slides_143 rfl rfl ?_
        refine j_dup2 E dX6_slides_144 rfl rfl ?_
        obtain ⟨x14, h14, h⟩ := jb h
        refine j_iald E h14 dX6_slides_145 ?_
        refine j_aload_n E 1 dX6_slides_146 rfl rfl ?_
        obtain ⟨x15, h15, h⟩ := jb h
        refine j_getR E gX6_13 h15 dX6_slides_147 ?_
        refine j_iload E 4 dX6_slides_150 rfl ?_
        obtain ⟨x16, h16, h⟩ := jb h
        refine j_iald E h16 dX6_slides_152 ?_
        refine j_iconst (v := (1 : Int32)) E dX6_slides_153 (by decide) ?_
        refine j_iadd E dX6_slides_154 ?_
        refine j_iadd E dX6_slides_155 ?_
        obtain ⟨f17, h17, h⟩ := jb h
        refine j_iast E h17 dX6_slides_156 ?_
        exact j_sub [1, 2, 3, 0, 4] rfl (wX6_slides_B157 E hk4 h)
      replace h := jt hc5 h
      refine j_goto (tgt := 180) E dX6_slides_107 (by decide) ?_
      exact j_sub [0, 1, 2] rfl (wX6_slides_B180 E  h)
    replace h := jf hc4 h
    refine j_aload_n E 0 dX6_slides_27 rfl rfl ?_
    obtain ⟨x18, h18, h⟩ := jb h
    refine j_getR E gX6_23 h18 dX6_slides_28 ?_
    refine j_bipush (v := (24 : Int32)) E dX6_slides_31 (by decide) ?_
    refine j_iload_n E 1 dX6_slides_33 rfl rfl ?_
    refine j_imul E dX6_slides_34 ?_
    refine j_iload E 5 dX6_slides_35 rfl ?_
    refine j_iadd E dX6_slides_37 ?_
    obtain ⟨x19, h19, h⟩ := jb h
    refine j_zald E h19 dX6_slides_38 ?_
    refine j_if_eq (tgt := 95) E dX6_slides_39 (by decide) (fun hc20 => ?_) (fun hc20 => ?_)
    · replace h := jt hc20 h
      refine j_iinc (v := (v5 + (1 : Int32))) (lv' := [(5, .int (v5 + (1 : Int32))), (0, .ref v0), (1, .int v1), (2, .int v2), (3, .int v3), (4, .int v4)]) E 5 dX6_slides_95 rfl rfl (by decide) rfl ?_
      refine j_goto (tgt := 20) E dX6_slides_98 (by decide) ?_
      exact j_sub [1, 2, 3, 4, 5, 0] rfl (ih _ _ _ h)
    replace h := jf hc20 h
    refine j_aload_n E 0 dX6_slides_42 rfl rfl ?_
    obtain ⟨x21, h21, h⟩ := jb h
    refine j_getR E gX6_17 h21 dX6_slides_43 ?_
    refine j_bipush (v := (24 : Int32)) E dX6_slides_46 (by decide) ?_
    refine j_iload_n E 1 dX6_slides_48 rfl rfl ?_
    refine j_imul E dX6_slides_49 ?_
    refine j_iload E 5 dX6_slides_50 rfl ?_
    refine j_iadd E dX6_slides_52 ?_
    obtain ⟨x22, h22, h⟩ := jb h
    refine j_iald E h22 dX6_slides_53 ?_
    refine j_iload_n E 3 dX6_slides_54 rfl rfl ?_
    refine j_icmp_lt (tgt := 95) E dX6_slides_55 (by decide) (fun hc23 => ?_) (fun hc23 => ?_)
    · replace h := jt hc23 h
      refine j_iinc (v := (v5 + (1 : Int32))) (lv' := [(5, .int (v5 + (1 : Int32))), (0, .ref v0), (1, .int v1), (2, .int v2), (3, .int v3), (4, .int v4)]) E 5 dX6_slides_95 rfl rfl (by decide) rfl ?_
      refine j_goto (tgt := 20) E dX6_slides_98 (by decide) ?_
      exact j_sub [1, 2, 3, 4, 5, 0] rfl (ih _ _ _ h)
    replace h := jf hc23 h
    refine j_iload E 4 dX6_slides_58 rfl ?_
    refine j_iconst (v := (-1 : Int32)) E dX6_slides_60 (by decide) ?_
    refine j_icmp_eq (tgt := 86) E dX6_slides_61 (by decide) (fun hc24 => ?_) (fun hc24 => ?_)
    · replace h := jt hc24 h
      exact j_sub [0, 1, 2, 3, 5] rfl (wX6_slides_B86 E hk4 ih h)
    replace h := jf hc24 h
    refine j_aload_n E 0 dX6_slides_64 rfl rfl ?_
    obtain ⟨x25, h25, h⟩ := jb h
    refine j_getR E gX6_17 h25 dX6_slides_65 ?_
    refine j_bipush (v := (24 : Int32)) E dX6_slides_68 (by decide) ?_
    refine j_iload_n E 1 dX6_slides_70 rfl rfl ?_
    refine j_imul E dX6_slides_71 ?_
    refine j_iload E 5 dX6_slides_72 rfl ?_
    refine j_iadd E dX6_slides_74 ?_
    obtain ⟨x26, h26, h⟩ := jb h
    refine j_iald E h26 dX6_slides_75 ?_
    refine j_aload_n E 0 dX6_slides_76 rfl rfl ?_
    obtain ⟨x27, h27, h⟩ := jb h
    refine j_getR E gX6_17 h27 dX6_slides_77 ?_
    refine j_iload E 4 dX6_slides_80 rfl ?_
    obtain ⟨x28, h28, h⟩ := jb h
    refine j_iald E h28 dX6_slides_82 ?_
    refine j_icmp_ge (tgt := 95) E dX6_slides_83 (by decide) (fun hc29 => ?_) (fun hc29 => ?_)
    · replace h := jt hc29 h
      refine j_iinc (v := (v5 + (1 : Int32))) (lv' := [(5, .int (v5 + (1 : Int32))), (0, .ref v0), (1, .int v1), (2, .int v2), (3, .int v3), (4, .int v4)]) E 5 dX6_slides_95 rfl rfl (by decide) rfl ?_
      refine j_goto (tgt := 20) E dX6_slides_98 (by decide) ?_
      exact j_sub [1, 2, 3, 4, 5, 0] rfl (ih _ _ _ h)
    replace h := jf hc29 h
    exact j_sub [0, 1, 2, 3, 5] rfl (wX6_slides_B86 E hk4 ih h)
def mX6_slides_L4 (fu : Nat)  (v0 : Nat) (v1 : Int32) : Nat → Int32 → Int32 → jM → Option jM
  | 0, _, _, _ => none
  | n + 1, v2, v3, f =>
    (rdR 6 f v0 11).bind fun x1 =>
    (ldI 0 f x1 v1).bind fun x2 =>
    if x2 ≤ v3 then (
    mX6_slides_B180 fu v0 v1 v2 f) else (
    mX6_slides_L20 fu (mX6_slides_L4 fu v0 v1 n) v0 v1 v2 v3 fu (-1 : Int32) (0 : Int32) f)
set_option maxRecDepth 100000 in
set_option maxHeartbeats 4000000 in
theorem wX6_slides_L4 {c : jS} {sz : Nat} {fu : Nat}  {v0 : Nat} {v1 : Int32} {res : jM} (E : jOk c cX6_slides 6 RX6 none 0 0)  : ∀ (n : Nat) (v2 : Int32) (v3 : Int32) (f : jM), mX6_slides_L4 fu  v0 v1 n v2 v3 f = some res → J c (jZ c none res sz) f sz 0 0 4 [(0, .ref v0), (1, .int v1), (2, .int v2), (3, .int v3)] [] := by
  intro n
  induction n with
  | zero => intro v2 v3 f h; exact jn0 h
  | succ n ih =>
    intro v2 v3 f h
    rw [mX6_slides_L4] at h
    refine j_iload_n E 3 dX6_slides_4 rfl rfl ?_
    refine j_aload_n E 0 dX6_slides_5 rfl rfl ?_
    obtain ⟨x1, h1, h⟩ := jb h
    refine j_getR E gX6_42 h1 dX6_slides_6 ?_
    refine j_iload_n E 1 dX6_slides_9 rfl rfl ?_
    obtain ⟨x2, h2, h⟩ := jb h
    refine j_iald E h2 dX6_slides_10 ?_
    refine j_icmp_ge (tgt := 180) E dX6_slides_11 (by decide) (fun hc3 => ?_) (fun hc3 => ?_)
    · replace h := jt hc3 h
      exact j_sub [0, 1, 2] rfl (wX6_slides_B180 E  h)
    replace h := jf hc3 h
    refine j_iconst (v := (-1 : Int32)) E dX6_slides_14 (by decide) ?_
    refine j_istore (lv' := [(4, .int (-1 : Int32)), (0, .ref v0), (1, .int v1), (2, .int v2), (3, .int v3)]) E dX6_slides_15 (by decide) rfl ?_
    refine j_iconst (v := (0 : Int32)) E dX6_slides_17 (by decide) ?_
    refine j_istore (lv' := [(5, .int (0 : Int32)), (4, .int (-1 : Int32)), (0, .ref v0), (1, .int v1), (2, .int v2), (3, .int v3)]) E dX6_slides_18 (by decide) rfl ?_
    exact j_sub [2, 3, 4, 5, 1, 0] rfl (wX6_slides_L20 E ih _ _ _ _ h)
def mX6_slides (fu : Nat) (f : jM) (v0 : Nat) (v1 : Int32) : Option jM :=
    mX6_slides_L4 fu v0 v1 fu (0 : Int32) (0 : Int32) f
set_option maxRecDepth 100000 in
set_option maxHeartbeats 4000000 in
theorem sX6_slides {l : Launch} {D : jD} {sz : Nat} {fu : Nat} {f : jM} {v0 : Nat} {v1 : Int32} {res : jM} (h : mX6_slides fu f v0 v1 = some res) : jCt l D yX6_slides cX6_slides 6 none 0 0 [.ref v0, .int v1] f sz 0 0 none res sz := by
  refine j_start (by decide +kernel) (Nat.le_of_ble_eq_true rfl) (fun c hcl hcD hcn E => ?_)
  subst hcl
  subst hcD
  replace E : jOk c cX6_slides 6 RX6 none 0 0 := E
  show J c (jZ c none res sz) f sz 0 0 0 [(0, .ref v0), (1, .int v1)] []
  unfold mX6_slides at h
  refine j_iconst (v := (0 : Int32)) E dX6_slides_0 (by decide) ?_
  refine j_istore_n (lv' := [(2, .int (0 : Int32)), (0, .ref v0), (1, .int v1)]) E dX6_slides_1 rfl (by decide) rfl ?_
  refine j_iconst (v := (0 : Int32)) E dX6_slides_2 (by decide) ?_
  refine j_istore_n (lv' := [(3, .int (0 : Int32)), (2, .int (0 : Int32)), (0, .ref v0), (1, .int v1)]) E dX6_slides_3 rfl (by decide) rfl ?_
  exact j_sub [2, 3, 1, 0] rfl (wX6_slides_L4 E _ _ _ _ h)
def mX6_givesBack (f : jM) (v0 : Nat) (v1 : Int32) (v2 : Int32) : Option jM :=
    (rdR 6 f v0 10).bind fun x1 =>
    (ldI 0 f x1 (((120 : Int32) * v1) + v2)).bind fun x2 =>
    (chk 6 f v0).bind fun _ =>
    (mX6_sends f v0 v1 (v2 / (24 : Int32)) (2 : Int32) v2 x2 (-1 : Int32)).bind fun f4 =>
    (rdR 6 f4 v0 10).bind fun x5 =>
    (stI 0 f4 x5 (((120 : Int32) * v1) + v2) (0 : Int32)).bind fun f6 =>
    some f6
set_option maxRecDepth 100000 in
set_option maxHeartbeats 4000000 in
theorem sX6_givesBack {l : Launch} {D : jD} {sz : Nat} {f : jM} {v0 : Nat} {v1 : Int32} {v2 : Int32} {res : jM} (h : mX6_givesBack f v0 v1 v2 = some res) : jCt l D yX6_givesBack cX6_givesBack 3 none 1 26 [.ref v0, .int v1, .int v2] f sz 0 0 none res sz := by
  refine j_start (by decide +kernel) (Nat.le_of_ble_eq_true rfl) (fun c hcl hcD hcn E => ?_)
  subst hcl
  subst hcD
  replace E : jOk c cX6_givesBack 3 RX6 none 1 26 := E
  show J c (jZ c none res sz) f sz 0 0 0 [(0, .ref v0), (1, .int v1), (2, .int v2)] []
  unfold mX6_givesBack at h
  refine j_aload_n E 0 dX6_givesBack_0 rfl rfl ?_
  refine j_iload_n E 1 dX6_givesBack_1 rfl rfl ?_
  refine j_iload_n E 2 dX6_givesBack_2 rfl rfl ?_
  refine j_bipush (v := (24 : Int32)) E dX6_givesBack_3 (by decide) ?_
  refine j_idiv E dX6_givesBack_5 (by decide) ?_
  refine j_iconst (v := (2 : Int32)) E dX6_givesBack_6 (by decide) ?_
  refine j_iload_n E 2 dX6_givesBack_7 rfl rfl ?_
  refine j_aload_n E 0 dX6_givesBack_8 rfl rfl ?_
  obtain ⟨x1, h1, h⟩ := jb h
  refine j_getR E gX6_39 h1 dX6_givesBack_9 ?_
  refine j_bipush (v := (120 : Int32)) E dX6_givesBack_12 (by decide) ?_
  refine j_iload_n E 1 dX6_givesBack_14 rfl rfl ?_
  refine j_imul E dX6_givesBack_15 ?_
  refine j_iload_n E 2 dX6_givesBack_16 rfl rfl ?_
  refine j_iadd E dX6_givesBack_17 ?_
  obtain ⟨x2, h2, h⟩ := jb h
  refine j_iald E h2 dX6_givesBack_18 ?_
  refine j_iconst (v := (-1 : Int32)) E dX6_givesBack_19 (by decide) ?_
  obtain ⟨u3, h3, h⟩ := jb h
  obtain ⟨fs3, h3⟩ := chk_spec h3
  obtain ⟨f4, h4, h⟩ := jb h
  refine j_callV (As := [.int v1, .int (v2 / (24 : Int32)), .int (2 : Int32), .int v2, .int x2, .int (-1 : Int32)]) (b := v0) (rest := []) (rc := 0) (rs := 0) E (sX6_sends h4) lwX6_sends lkX6_113 imX6_sends seX6_sends rfl h3 (by decide) rfl (Nat.le_of_ble_eq_true rfl) dX6_givesBack_20 ?_
  refine j_aload_n E 0 dX6_givesBack_23 rfl rfl ?_
  obtain ⟨x5, h5, h⟩ := jb h
  refine j_getR E gX6_39 h5 dX6_givesBack_24 ?_
  refine j_bipush (v := (120 : Int32)) E dX6_givesBack_27 (by decide) ?_
  refine j_iload_n E 1 dX6_givesBack_29 rfl rfl ?_
  refine j_imul E dX6_givesBack_30 ?_
  refine j_iload_n E 2 dX6_givesBack_31 rfl rfl ?_
  refine j_iadd E dX6_givesBack_32 ?_
  refine j_iconst (v := (0 : Int32)) E dX6_givesBack_33 (by decide) ?_
  obtain ⟨f6, h6, h⟩ := jb h
  refine j_iast E h6 dX6_givesBack_34 ?_
  cases h
  exact j_vret E dX6_givesBack_35
