def mX6_goesOut (f : jM) (v0 : Nat) (v1 : Int32) : Option (Int32 × jM) :=
    (rdR 6 f v0 24).bind fun x1 =>
    (ldI 1 f x1 v1).bind fun x2 =>
    if x2 = 0 then (
    some ((0 : Int32), f)) else (
    (rdR 6 f v0 26).bind fun x4 =>
    (ldI 1 f x4 v1).bind fun x5 =>
    if x5 = 0 then (
    (rdR 6 f v0 26).bind fun x7 =>
    (stI 1 f x7 v1 (vp_nar .boolean (1 : Int32))).bind fun f8 =>
    some ((1 : Int32), f8)) else (
    some ((0 : Int32), f)))
set_option maxRecDepth 100000 in
set_option maxHeartbeats 4000000 in
theorem sX6_goesOut {l : Launch} {D : jD} {sz : Nat} {f : jM} {v0 : Nat} {v1 : Int32} {res : (Int32 × jM)} (h : mX6_goesOut f v0 v1 = some res) : jCt l D yX6_goesOut cX6_goesOut 2 (some .boolean) 0 0 [.ref v0, .int v1] f sz 0 0 (some (.int res.1)) res.2 sz := by
  refine j_start (by decide +kernel) (Nat.le_of_ble_eq_true rfl) (fun c hcl hcD hcn E => ?_)
  subst hcl
  subst hcD
  replace E : jOk c cX6_goesOut 2 RX6 (some .boolean) 0 0 := E
  show J c (jZ c (some (.int res.1)) res.2 sz) f sz 0 0 0 [(0, .ref v0), (1, .int v1)] []
  unfold mX6_goesOut at h
  refine j_aload_n E 0 dX6_goesOut_0 rfl rfl ?_
  obtain ⟨x1, h1, h⟩ := jb h
  refine j_getR E gX6_75 h1 dX6_goesOut_1 ?_
  refine j_iload_n E 1 dX6_goesOut_4 rfl rfl ?_
  obtain ⟨x2, h2, h⟩ := jb h
  refine j_zald E h2 dX6_goesOut_5 ?_
  refine j_if_eq (tgt := 18) E dX6_goesOut_6 (by decide) (fun hc3 => ?_) (fun hc3 => ?_)
  · replace h := jt hc3 h
    refine j_iconst (v := (0 : Int32)) E dX6_goesOut_18 (by decide) ?_
    cases h
    exact j_zret (v := (0 : Int32)) E (by decide +kernel) dX6_goesOut_19
  replace h := jf hc3 h
  refine j_aload_n E 0 dX6_goesOut_9 rfl rfl ?_
  obtain ⟨x4, h4, h⟩ := jb h
  refine j_getR E gX6_81 h4 dX6_goesOut_10 ?_
  refine j_iload_n E 1 dX6_goesOut_13 rfl rfl ?_
  obtain ⟨x5, h5, h⟩ := jb h
  refine j_zald E h5 dX6_goesOut_14 ?_
  refine j_if_eq (tgt := 20) E dX6_goesOut_15 (by decide) (fun hc6 => ?_) (fun hc6 => ?_)
  · replace h := jt hc6 h
    refine j_aload_n E 0 dX6_goesOut_20 rfl rfl ?_
    obtain ⟨x7, h7, h⟩ := jb h
    refine j_getR E gX6_81 h7 dX6_goesOut_21 ?_
    refine j_iload_n E 1 dX6_goesOut_24 rfl rfl ?_
    refine j_iconst (v := (1 : Int32)) E dX6_goesOut_25 (by decide) ?_
    obtain ⟨f8, h8, h⟩ := jb h
    refine j_zast E h8 dX6_goesOut_26 ?_
    refine j_iconst (v := (1 : Int32)) E dX6_goesOut_27 (by decide) ?_
    cases h
    exact j_zret (v := (1 : Int32)) E (by decide +kernel) dX6_goesOut_28
  replace h := jf hc6 h
  refine j_iconst (v := (0 : Int32)) E dX6_goesOut_18 (by decide) ?_
  cases h
  exact j_zret (v := (0 : Int32)) E (by decide +kernel) dX6_goesOut_19
def mX6_grows_B168 (fu : Nat) (k72 : Int32 → Int32 → jM → Option (Int32 × jM)) (k92 : Int32 → Int32 → jM → Option (Int32 × jM)) (v0 : Nat) (v1 : Int32) (v2 : Int32) (v3 : Int32) (v4 : Int32) (s0 : Int32) (f : jM) : Option (Int32 × jM) :=
    if s0 = 0 then (
    k92 v1 (v3 + (1 : Int32)) f) else (
    (chk 6 f v0).bind fun _ =>
    (mX6_goesOut f v0 v4).bind fun r36 =>
    if r36.1 = 0 then (
    if v1 = 0 then (
    k92 (0 : Int32) (v3 + (1 : Int32)) r36.2) else (
    k92 (1 : Int32) (v3 + (1 : Int32)) r36.2)) else (
    k92 (1 : Int32) (v3 + (1 : Int32)) r36.2))
set_option maxRecDepth 100000 in
set_option maxHeartbeats 4000000 in
theorem wX6_grows_B168 {c : jS} {sz : Nat} {fu : Nat} {k72 : Int32 → Int32 → jM → Option (Int32 × jM)} {k92 : Int32 → Int32 → jM → Option (Int32 × jM)} {v0 : Nat} {v1 : Int32} {v2 : Int32} {v3 : Int32} {v4 : Int32} {s0 : Int32} {f : jM} {res : (Int32 × jM)} (E : jOk c cX6_grows 6 RX6 (some .boolean) 1 21) (hk72 : ∀ (v1 : Int32) (v2 : Int32) (f : jM), k72 v1 v2 f = some res → J c (jZ c (some (.int res.1)) res.2 sz) f sz 0 0 72 [(0, .ref v0), (1, .int v1), (2, .int v2)] []) (hk92 : ∀ (v1 : Int32) (v3 : Int32) (f : jM), k92 v1 v3 f = some res → J c (jZ c (some (.int res.1)) res.2 sz) f sz 0 0 92 [(0, .ref v0), (1, .int v1), (2, .int v2), (3, .int v3)] []) (h : mX6_grows_B168 fu k72 k92 v0 v1 v2 v3 v4 s0 f = some res) : J c (jZ c (some (.int res.1)) res.2 sz) f sz 0 0 168 [(0, .ref v0), (1, .int v1), (2, .int v2), (3, .int v3), (4, .int v4)] [.int s0] := by
  unfold mX6_grows_B168 at h
  refine j_istore (lv' := [(5, .int s0), (0, .ref v0), (1, .int v1), (2, .int v2), (3, .int v3), (4, .int v4)]) E dX6_grows_168 (by decide) rfl ?_
  refine j_iload E 0 dX6_grows_170 rfl ?_
  refine j_if_eq (tgt := 194) E dX6_grows_172 (by decide) (fun hc34 => ?_) (fun hc34 => ?_)
  · replace h := jt hc34 h
    refine j_iinc (v := (v3 + (1 : Int32))) (lv' := [(3, .int (v3 + (1 : Int32))), (5, .int s0), (0, .ref v0), (1, .int v1), (2, .int v2), (4, .int v4)]) E 4 dX6_grows_194 rfl rfl (by decide) rfl ?_
    refine j_goto (tgt := 92) E dX6_grows_197 (by decide) ?_
    exact j_sub [2, 3, 4, 0] rfl (hk92 _ _ _ h)
  replace h := jf hc34 h
  refine j_aload_n E 1 dX6_grows_175 rfl rfl ?_
  refine j_iload E 5 dX6_grows_176 rfl ?_
  obtain ⟨u35, h35, h⟩ := jb h
  obtain ⟨fs35, h35⟩ := chk_spec h35
  obtain ⟨r36, h36, h⟩ := jb h
  refine j_callV (As := [.int v4]) (b := v0) (rest := []) (rc := 0) (rs := 0) E (sX6_goesOut h36) lwX6_goesOut lkX6_170 imX6_goesOut seX6_goesOut rfl h35 (by decide) rfl (Nat.le_of_ble_eq_true rfl) dX6_grows_178 ?_
  refine j_if_ne (tgt := 188) E dX6_grows_181 (by decide) (fun hc37 => ?_) (fun hc37 => ?_)
  · replace h := jf hc37 h
    refine j_iconst (v := (1 : Int32)) E dX6_grows_188 (by decide) ?_
    refine j_goto (tgt := 193) E dX6_grows_189 (by decide) ?_
    refine j_istore_n (lv' := [(1, .int (1 : Int32)), (5, .int s0), (0, .ref v0), (2, .int v2), (3, .int v3), (4, .int v4)]) E dX6_grows_193 rfl (by decide) rfl ?_
    refine j_iinc (v := (v3 + (1 : Int32))) (lv' := [(3, .int (v3 + (1 : Int32))), (1, .int (1 : Int32)), (5, .int s0), (0, .ref v0), (2, .int v2), (4, .int v4)]) E 4 dX6_grows_194 rfl rfl (by decide) rfl ?_
    refine j_goto (tgt := 92) E dX6_grows_197 (by decide) ?_
    exact j_sub [3, 1, 4, 0] rfl (hk92 _ _ _ h)
  replace h := jt hc37 h
  refine j_iload_n E 2 dX6_grows_184 rfl rfl ?_
  refine j_if_eq (tgt := 192) E dX6_grows_185 (by decide) (fun hc38 => ?_) (fun hc38 => ?_)
  · replace h := jt hc38 h
    refine j_iconst (v := (0 : Int32)) E dX6_grows_192 (by decide) ?_
    refine j_istore_n (lv' := [(1, .int (0 : Int32)), (5, .int s0), (0, .ref v0), (2, .int v2), (3, .int v3), (4, .int v4)]) E dX6_grows_193 rfl (by decide) rfl ?_
    refine j_iinc (v := (v3 + (1 : Int32))) (lv' := [(3, .int (v3 + (1 : Int32))), (1, .int (0 : Int32)), (5, .int s0), (0, .ref v0), (2, .int v2), (4, .int v4)]) E 4 dX6_grows_194 rfl rfl (by decide) rfl ?_
    refine j_goto (tgt := 92) E dX6_grows_197 (by decide) ?_
    exact j_sub [3, 1, 4, 0] rfl (hk92 _ _ _ h)
  replace h := jf hc38 h
  refine j_iconst (v := (1 : Int32)) E dX6_grows_188 (by decide) ?_
  refine j_goto (tgt := 193) E dX6_grows_189 (by decide) ?_
  refine j_istore_n (lv' := [(1, .int (1 : Int32)), (5, .int s0), (0, .ref v0), (2, .int v2), (3, .int v3), (4, .int v4)]) E dX6_grows_193 rfl (by decide) rfl ?_
  refine j_iinc (v := (v3 + (1 : Int32))) (lv' := [(3, .int (v3 + (1 : Int32))), (1, .int (1 : Int32)), (5, .int s0), (0, .ref v0), (2, .int v2), (4, .int v4)]) E 4 dX6_grows_194 rfl rfl (by decide) rfl ?_
  refine j_goto (tgt := 92) E dX6_grows_197 (by decide) ?_
  exact j_sub [3, 1, 4, 0] rfl (hk92 _ _ _ h)
def mX6_grows_L205 (fu : Nat) (k72 : Int32 → Int32 → jM → Option (Int32 × jM)) (v0 : Nat) (v1 : Int32) (v2 : Int32) : Nat → Int32 → Int32 → jM → Option (Int32 × jM)
  | 0, _, _, _ => none
  | n + 1, v3, v4, f =>
    (rdI 6 f v0 1).bind fun x39 =>
    if x39 ≤ v4 then (
    (rdR 6 f v0 4).bind fun x41 =>
    (ldI 0 f x41 v2).bind fun x42 =>
    if x42 ≤ 0 then (
    k72 v1 (v2 + (1 : Int32)) f) else (
    (rdR 6 f v0 4).bind fun x44 =>
    (ldI 0 f x44 v2).bind fun x45 =>
    if x45 = v3 then (
    k72 v1 (v2 + (1 : Int32)) f) else (
    (chk 6 f v0).bind fun _ =>
    (mX6_goesOut f v0 v2).bind fun r48 =>
    if r48.1 = 0 then (
    if v1 = 0 then (
    k72 (0 : Int32) (v2 + (1 : Int32)) r48.2) else (
    k72 (1 : Int32) (v2 + (1 : Int32)) r48.2)) else (
    k72 (1 : Int32) (v2 + (1 : Int32)) r48.2)))) else (
    (rdR 6 f v0 25).bind fun x51 =>
    (ldI 1 f x51 (((120 : Int32) * v4) + v2)).bind fun x52 =>
    if x52 = 0 then (
    mX6_grows_L205 fu k72 v0 v1 v2 n v3 (v4 + (1 : Int32)) f) else (
    (rdR 6 f v0 10).bind fun x54 =>
    (ldI 0 f x54 (((120 : Int32) * v4) + v2)).bind fun x55 =>
    mX6_grows_L205 fu k72 v0 v1 v2 n (v3 + x55) (v4 + (1 : Int32)) f))
set_option maxRecDepth 100000 in
set_option maxHeartbeats 4000000 in
theorem wX6_grows_L205 {c : jS} {sz : Nat} {fu : Nat} {k72 : Int32 → Int32 → jM → Option (Int32 × jM)} {v0 : Nat} {v1 : Int32} {v2 : Int32} {res : (Int32 × jM)} (E : jOk c cX6_grows 6 RX6 (some .boolean) 1 21) (hk72 : ∀ (v1 : Int32) (v2 : Int32) (f : jM), k72 v1 v2 f = some res → J c (jZ c (some (.int res.1)) res.2 sz) f sz 0 0 72 [(0, .ref v0), (1, .int v1), (2, .int v2)] []) : ∀ (n : Nat) (v3 : Int32) (v4 : Int32) (f : jM), mX6_grows_L205 fu k72 v0 v1 v2 n v3 v4 f = some res → J c (jZ c (some (.int res.1)) res.2 sz) f sz 0 0 205 [(0, .ref v0), (1, .int v1), (2, .int v2), (3, .int v3), (4, .int v4)] [] := by
  intro n
  induction n with
  | zero => intro v3 v4 f h; exact jn0 h
  | succ n ih =>
    intro v3 v4 f h
    rw [mX6_grows_L205] at h
    refine j_iload E 4 dX6_grows_205 rfl ?_
    refine j_aload_n E 0 dX6_grows_207 rfl rfl ?_
    obtain ⟨x39, h39, h⟩ := jb h
    refine j_getI E gX6_87 h39 dX6_grows_208 ?_
    refine j_icmp_ge (tgt := 250) E dX6_grows_211 (by decide) (fun hc40 => ?_) (fun hc40 => ?_)
    · replace h := jt hc40 h
      refine j_aload_n E 0 dX6_grows_250 rfl rfl ?_
      obtain ⟨x41, h41, h⟩ := jb h
      refine j_getR E gX6_20 h41 dX6_grows_251 ?_
      refine j_iload_n E 2 dX6_grows_254 rfl rfl ?_
      obtain ⟨x42, h42, h⟩ := jb h
      refine j_iald E h42 dX6_grows_255 ?_
      refine j_if_le (tgt := 287) E dX6_grows_256 (by decide) (fun hc43 => ?_) (fun hc43 => ?_)
      · replace h := jt hc43 h
        refine j_iinc (v := (v2 + (1 : Int32))) (lv' := [(2, .int (v2 + (1 : Int32))), (0, .ref v0), (1, .int v1), (3, .int v3), (4, .int v4)]) E 2 dX6_grows_287 rfl rfl (by decide) rfl ?_
        refine j_goto (tgt := 72) E dX6_grows_290 (by decide) ?_
        exact j_sub [1, 2, 0] rfl (hk72 _ _ _ h)
      replace h := jf hc43 h
      refine j_aload_n E 0 dX6_grows_259 rfl rfl ?_
      obtain ⟨x44, h44, h⟩ := jb h
      refine j_getR E gX6_20 h44 dX6_grows_260 ?_
      refine j_iload_n E 2 dX6_grows_263 rfl rfl ?_
      obtain ⟨x45, h45, h⟩ := jb h
      refine j_iald E h45 dX6_grows_264 ?_
      refine j_iload_n E 3 dX6_grows_265 rfl rfl ?_
      refine j_icmp_eq (tgt := 287) E dX6_grows_266 (by decide) (fun hc46 => ?_) (fun hc46 => ?_)
      · replace h := jt hc46 h
        refine j_iinc (v := (v2 + (1 : Int32))) (lv' := [(2, .int (v2 + (1 : Int32))), (0, .ref v0), (1, .int v1), (3, .int v3), (4, .int v4)]) E 2 dX6_grows_287 rfl rfl (by decide) rfl ?_
        refine j_goto (tgt := 72) E dX6_grows_290 (by decide) ?_
        exact j_sub [1, 2, 0] rfl (hk72 _ _ _ h)
      replace h := jf hc46 h
      refine j_aload_n E 0 dX6_grows_269 rfl rfl ?_
      refine j_iload_n E 2 dX6_grows_270 rfl rfl ?_
      obtain ⟨u47, h47, h⟩ := jb h
      obtain ⟨fs47, h47⟩ := chk_spec h47
      obtain ⟨r48, h48, h⟩ := jb h
      refine j_callV (As := [.int v2]) (b := v0) (rest := []) (rc := 0) (rs := 0) E (sX6_goesOut h48) lwX6_goesOut lkX6_170 imX6_goesOut seX6_goesOut rfl h47 (by decide) rfl (Nat.le_of_ble_eq_true rfl) dX6_grows_271 ?_
      refine j_if_ne (tgt := 281) E dX6_grows_274 (by decide) (fun hc49 => ?_) (fun hc49 => ?_)
      · replace h := jf hc49 h
        refine j_iconst (v := (1 : Int32)) E dX6_grows_281 (by decide) ?_
        refine j_goto (tgt := 286) E dX6_grows_282 (by decide) ?_
        refine j_istore_n (lv' := [(1, .int (1 : Int32)), (0, .ref v0), (2, .int v2), (3, .int v3), (4, .int v4)]) E dX6_grows_286 rfl (by decide) rfl ?_
        refine j_iinc (v := (v2 + (1 : Int32))) (lv' := [(2, .int (v2 + (1 : Int32))), (1, .int (1 : Int32)), (0, .ref v0), (3, .int v3), (4, .int v4)]) E 2 dX6_grows_287 rfl rfl (by decide) rfl ?_
        refine j_goto (tgt := 72) E dX6_grows_290 (by decide) ?_
        exact j_sub [2, 1, 0] rfl (hk72 _ _ _ h)
      replace h := jt hc49 h
      refine j_iload_n E 1 dX6_grows_277 rfl rfl ?_
      refine j_if_eq (tgt := 285) E dX6_grows_278 (by decide) (fun hc50 => ?_) (fun hc50 => ?_)
      · replace h := jt hc50 h
        refine j_iconst (v := (0 : Int32)) E dX6_grows_285 (by decide) ?_
        refine j_istore_n (lv' := [(1, .int (0 : Int32)), (0, .ref v0), (2, .int v2), (3, .int v3), (4, .int v4)]) E dX6_grows_286 rfl (by decide) rfl ?_
        refine j_iinc (v := (v2 + (1 : Int32))) (lv' := [(2, .int (v2 + (1 : Int32))), (1, .int (0 : Int32)), (0, .ref v0), (3, .int v3), (4, .int v4)]) E 2 dX6_grows_287 rfl rfl (by decide) rfl ?_
        refine j_goto (tgt := 72) E dX6_grows_290 (by decide) ?_
        exact j_sub [2, 1, 0] rfl (hk72 _ _ _ h)
      replace h := jf hc50 h
      refine j_iconst (v := (1 : Int32)) E dX6_grows_281 (by decide) ?_
      refine j_goto (tgt := 286) E dX6_grows_282 (by decide) ?_
      refine j_istore_n (lv' := [(1, .int (1 : Int32)), (0, .ref v0), (2, .int v2), (3, .int v3), (4, .int v4)]) E dX6_grows_286 rfl (by decide) rfl ?_
      refine j_iinc (v := (v2 + (1 : Int32))) (lv' := [(2, .int (v2 + (1 : Int32))), (1, .int (1 : Int32)), (0, .ref v0), (3, .int v3), (4, .int v4)]) E 2 dX6_grows_287 rfl rfl (by decide) rfl ?_
      refine j_goto (tgt := 72) E dX6_grows_290 (by decide) ?_
      exact j_sub [2, 1, 0] rfl (hk72 _ _ _ h)
    replace h := jf hc40 h
    refine j_aload_n E 0 dX6_grows_214 rfl rfl ?_
    obtain ⟨x51, h51, h⟩ := jb h
    refine j_getR E gX6_78 h51 dX6_grows_215 ?_
    refine j_bipush (v := (120 : Int32)) E dX6_grows_218 (by decide) ?_
    refine j_iload E 4 dX6_grows_220 rfl ?_
    refine j_imul E dX6_grows_222 ?_
    refine j_iload_n E 2 dX6_grows_223 rfl rfl ?_
    refine j_iadd E dX6_grows_224 ?_
    obtain ⟨x52, h52, h⟩ := jb h
    refine j_zald E h52 dX6_grows_225 ?_
    refine j_if_eq (tgt := 244) E dX6_grows_226 (by decide) (fun hc53 => ?_) (fun hc53 => ?_)
    · replace h := jt hc53 h
      refine j_iinc (v := (v4 + (1 : Int32))) (lv' := [(4, .int (v4 + (1 : Int32))), (0, .ref v0), (1, .int v1), (2, .int v2), (3, .int v3)]) E 4 dX6_grows_244 rfl rfl (by decide) rfl ?_
      refine j_goto (tgt := 205) E dX6_grows_247 (by decide) ?_
      exact j_sub [1, 2, 3, 4, 0] rfl (ih _ _ _ h)
    replace h := jf hc53 h
    refine j_iload_n E 3 dX6_grows_229 rfl rfl ?_
    refine j_aload_n E 0 dX6_grows_230 rfl rfl ?_
    obtain ⟨x54, h54, h⟩ := jb h
    refine j_getR E gX6_39 h54 dX6_grows_231 ?_
    refine j_bipush (v := (120 : Int32)) E dX6_grows_234 (by decide) ?_
    refine j_iload E 4 dX6_grows_236 rfl ?_
    refine j_imul E dX6_grows_238 ?_
    refine j_iload_n E 2 dX6_grows_239 rfl rfl ?_
    refine j_iadd E dX6_grows_240 ?_
    obtain ⟨x55, h55, h⟩ := jb h
    refine j_iald E h55 dX6_grows_241 ?_
    refine j_iadd E dX6_grows_242 ?_
    refine j_istore_n (lv' := [(3, .int (v3 + x55)), (0, .ref v0), (1, .int v1), (2, .int v2), (4, .int v4)]) E dX6_grows_243 rfl (by decide) rfl ?_
    refine j_iinc (v := (v4 + (1 : Int32))) (lv' := [(4, .int (v4 + (1 : Int32))), (3, .int (v3 + x55)), (0, .ref v0), (1, .int v1), (2, .int v2)]) E 4 dX6_grows_244 rfl rfl (by decide) rfl ?_
    refine j_goto (tgt := 205) E dX6_grows_247 (by decide) ?_
    exact j_sub [2, 3, 4, 1, 0] rfl (ih _ _ _ h)
def mX6_grows_L92 (fu : Nat) (k72 : Int32 → Int32 → jM → Option (Int32 × jM)) (v0 : Nat) (v2 : Int32) : Nat → Int32 → Int32 → jM → Option (Int32 × jM)
  | 0, _, _, _ => none
  | n + 1, v1, v3, f =>
    (rdR 6 f v0 2).bind fun x20 =>
    (ldI 0 f x20 v2).bind fun x21 =>
    if x21 ≤ v3 then (
    mX6_grows_L205 fu k72 v0 v1 v2 fu (0 : Int32) (0 : Int32) f) else (
    (rdR 6 f v0 6).bind fun x23 =>
    (ldI 0 f x23 (((12 : Int32) * v2) + v3)).bind fun x24 =>
    if x24 = (2 : Int32) then (
    (rdR 6 f v0 7).bind fun x26 =>
    (ldI 0 f x26 (((12 : Int32) * v2) + v3)).bind fun x27 =>
    (rdR 6 f v0 24).bind fun x28 =>
    (ldI 1 f x28 v2).bind fun x29 =>
    if x29 = 0 then (
    if (x27 / (24 : Int32)) = (v2 / (24 : Int32)) then (
    mX6_grows_B168 fu k72 (mX6_grows_L92 fu k72 v0 v2 n) v0 v1 v2 v3 x27 (1 : Int32) f) else (
    mX6_grows_B168 fu k72 (mX6_grows_L92 fu k72 v0 v2 n) v0 v1 v2 v3 x27 (0 : Int32) f)) else (
    (rdR 6 f v0 26).bind fun x32 =>
    (ldI 1 f x32 v2).bind fun x33 =>
    mX6_grows_B168 fu k72 (mX6_grows_L92 fu k72 v0 v2 n) v0 v1 v2 v3 x27 x33 f)) else (
    mX6_grows_L92 fu k72 v0 v2 n v1 (v3 + (1 : Int32)) f))
set_option maxRecDepth 100000 in
set_option maxHeartbeats 4000000 in
theorem wX6_grows_L92 {c : jS} {sz : Nat} {fu : Nat} {k72 : Int32 → Int32 → jM → Option (Int32 × jM)} {v0 : Nat} {v2 : Int32} {res : (Int32 × jM)} (E : jOk c cX6_grows 6 RX6 (some .boolean) 1 21) (hk72 : ∀ (v1 : Int32) (v2 : Int32) (f : jM), k72 v1 v2 f = some res → J c (jZ c (some (.int res.1)) res.2 sz) f sz 0 0 72 [(0, .ref v0), (1, .int v1), (2, .int v2)] []) : ∀ (n : Nat) (v1 : Int32) (v3 : Int32) (f : jM), mX6_grows_L92 fu k72 v0 v2 n v1 v3 f = some res → J c (jZ c (some (.int res.1)) res.2 sz) f sz 0 0 92 [(0, .ref v0), (1, .int v1), (2, .int v2), (3, .int v3)] [] := by
  intro n
  induction n with
  | zero => intro v1 v3 f h; exact jn0 h
  | succ n ih =>
    intro v1 v3 f h
    rw [mX6_grows_L92] at h
    refine j_iload_n E 3 dX6_grows_92 rfl rfl ?_
    refine j_aload_n E 0 dX6_grows_93 rfl rfl ?_
    obtain ⟨x20, h20, h⟩ := jb h
    refine j_getR E gX6_13 h20 dX6_grows_94 ?_
    refine j_iload_n E 2 dX6_grows_97 rfl rfl ?_
    obtain ⟨x21, h21, h⟩ := jb h
    refine j_iald E h21 dX6_grows_98 ?_
    refine j_icmp_ge (tgt := 200) E dX6_grows_99 (by decide) (fun hc22 => ?_) (fun hc22 => ?_)
    · replace h := jt hc22 h
      refine j_iconst (v := (0 : Int32)) E dX6_grows_200 (by decide) ?_
      refine j_istore_n (lv' := [(3, .int (0 : Int32)), (0, .ref v0), (1, .int v1), (2, .int v2)]) E dX6_grows_201 rfl (by decide) rfl ?_
      refine j_iconst (v := (0 : Int32)) E dX6_grows_202 (by decide) ?_
      refine j_istore (lv' := [(4, .int (0 : Int32)), (3, .int (0 : Int32)), (0, .ref v0), (1, .int v1), (2, .int v2)]) E dX6_grows_203 (by decide) rfl ?_
      exact j_sub [2, 3, 4, 1, 0] rfl (wX6_grows_L205 E hk72 _ _ _ _ h)
    replace h := jf hc22 h
    refine j_aload_n E 0 dX6_grows_102 rfl rfl ?_
    obtain ⟨x23, h23, h⟩ := jb h
    refine j_getR E gX6_27 h23 dX6_grows_103 ?_
    refine j_bipush (v := (12 : Int32)) E dX6_grows_106 (by decide) ?_
    refine j_iload_n E 2 dX6_grows_108 rfl rfl ?_
    refine j_imul E dX6_grows_109 ?_
    refine j_iload_n E 3 dX6_grows_110 rfl rfl ?_
    refine j_iadd E dX6_grows_111 ?_
    obtain ⟨x24, h24, h⟩ := jb h
    refine j_iald E h24 dX6_grows_112 ?_
    refine j_iconst (v := (2 : Int32)) E dX6_grows_113 (by decide) ?_
    refine j_icmp_eq (tgt := 120) E dX6_grows_114 (by decide) (fun hc25 => ?_) (fun hc25 => ?_)
    · replace h := jt hc25 h
      refine j_aload_n E 0 dX6_grows_120 rfl rfl ?_
      obtain ⟨x26, h26, h⟩ := jb h
      refine j_getR E gX6_30 h26 dX6_grows_121 ?_
      refine j_bipush (v := (12 : Int32)) E dX6_grows_124 (by decide) ?_
      refine j_iload_n E 2 dX6_grows_126 rfl rfl ?_
      refine j_imul E dX6_grows_127 ?_
      refine j_iload_n E 3 dX6_grows_128 rfl rfl ?_
      refine j_iadd E dX6_grows_129 ?_
      obtain ⟨x27, h27, h⟩ := jb h
      refine j_iald E h27 dX6_grows_130 ?_
      refine j_istore (lv' := [(4, .int x27), (0, .ref v0), (1, .int v1), (2, .int v2), (3, .int v3)]) E dX6_grows_131 (by decide) rfl ?_
      refine j_aload_n E 1 dX6_grows_133 rfl rfl ?_
      obtain ⟨x28, h28, h⟩ := jb h
      refine j_getR E gX6_75 h28 dX6_grows_134 ?_
      refine j_iload_n E 3 dX6_grows_137 rfl rfl ?_
      obtain ⟨x29, h29, h⟩ := jb h
      refine j_zald E h29 dX6_grows_138 ?_
      refine j_if_eq (tgt := 151) E dX6_grows_139 (by decide) (fun hc30 => ?_) (fun hc30 => ?_)
      · replace h := jt hc30 h
        refine j_iload E 0 dX6_grows_151 rfl ?_
        refine j_bipush (v := (24 : Int32)) E dX6_grows_153 (by decide) ?_
        refine j_idiv E dX6_grows_155 (by decide) ?_
        refine j_iload_n E 3 dX6_grows_156 rfl rfl ?_
        refine j_bipush (v := (24 : Int32)) E dX6_grows_157 (by decide) ?_
        refine j_idiv E dX6_grows_159 (by decide) ?_
        refine j_icmp_ne (tgt := 167) E dX6_grows_160 (by decide) (fun hc31 => ?_) (fun hc31 => ?_)
        · replace h := jf hc31 h
          refine j_iconst (v := (0 : Int32)) E dX6_grows_167 (by decide) ?_
          exact j_sub [1, 2, 3, 4, 0] rfl (wX6_grows_B168 E hk72 ih h)
        replace h := jt hc31 h
        refine j_iconst (v := (1 : Int32)) E dX6_grows_163 (by decide) ?_
        refine j_goto (tgt := 168) E dX6_grows_164 (by decide) ?_
        exact j_sub [1, 2, 3, 4, 0] rfl (wX6_grows_B168 E hk72 ih h)
      replace h := jf hc30 h
      refine j_aload_n E 1 dX6_grows_142 rfl rfl ?_
      obtain ⟨x32, h32, h⟩ := jb h
      refine j_getR E gX6_81 h32 dX6_grows_143 ?_
      refine j_iload_n E 3 dX6_grows_146 rfl rfl ?_
      obtain ⟨x33, h33, h⟩ := jb h
      refine j_zald E h33 dX6_grows_147 ?_
      refine j_goto (tgt := 168) E dX6_grows_148 (by decide) ?_
      exact j_sub [1, 2, 3, 4, 0] rfl (wX6_grows_B168 E hk72 ih h)
    replace h := jf hc25 h
    refine j_goto (tgt := 194) E dX6_grows_117 (by decide) ?_
    refine j_iinc (v := (v3 + (1 : Int32))) (lv' := [(3, .int (v3 + (1 : Int32))), (0, .ref v0), (1, .int v1), (2, .int v2)]) E 3 dX6_grows_194 rfl rfl (by decide) rfl ?_
    refine j_goto (tgt := 92) E dX6_grows_197 (by decide) ?_
    exact j_sub [1, 2, 3, 0] rfl (ih _ _ _ h)
def mX6_grows_L72 (fu : Nat)  (v0 : Nat) : Nat → Int32 → Int32 → jM → Option (Int32 × jM)
  | 0, _, _, _ => none
  | n + 1, v1, v2, f =>
    if (120 : Int32) ≤ v2 then (
    (jbl v1).bind fun _ =>
    some (v1, f)) else (
    (rdR 6 f v0 5).bind fun x17 =>
    (ldI 1 f x17 v2).bind fun x18 =>
    if x18 = 0 then (
    mX6_grows_L72 fu v0 n v1 (v2 + (1 : Int32)) f) else (
    mX6_grows_L92 fu (mX6_grows_L72 fu v0 n) v0 v2 fu v1 (0 : Int32) f))
set_option maxRecDepth 100000 in
set_option maxHeartbeats 4000000 in
theorem wX6_grows_L72 {c : jS} {sz : Nat} {fu : Nat}  {v0 : Nat} {res : (Int32 × jM)} (E : jOk c cX6_grows 6 RX6 (some .boolean) 1 21)  : ∀ (n : Nat) (v1 : Int32) (v2 : Int32) (f : jM), mX6_grows_L72 fu  v0 n v1 v2 f = some res → J c (jZ c (some (.int res.1)) res.2 sz) f sz 0 0 72 [(0, .ref v0), (1, .int v1), (2, .int v2)] [] := by
  intro n
  induction n with
  | zero => intro v1 v2 f h; exact jn0 h
  | succ n ih =>
    intro v1 v2 f h
    rw [mX6_grows_L72] at h
    refine j_iload_n E 2 dX6_grows_72 rfl rfl ?_
    refine j_bipush (v := (120 : Int32)) E dX6_grows_73 (by decide) ?_
    refine j_icmp_ge (tgt := 293) E dX6_grows_75 (by decide) (fun hc15 => ?_) (fun hc15 => ?_)
    · replace h := jt hc15 h
      refine j_iload_n E 1 dX6_grows_293 rfl rfl ?_
      obtain ⟨u16, h16, h⟩ := jb h
      cases h
      exact j_zret E (jbl_spec h16) dX6_grows_294
    replace h := jf hc15 h
    refine j_aload_n E 0 dX6_grows_78 rfl rfl ?_
    obtain ⟨x17, h17, h⟩ := jb h
    refine j_getR E gX6_23 h17 dX6_grows_79 ?_
    refine j_iload_n E 2 dX6_grows_82 rfl rfl ?_
    obtain ⟨x18, h18, h⟩ := jb h
    refine j_zald E h18 dX6_grows_83 ?_
    refine j_if_ne (tgt := 90) E dX6_grows_84 (by decide) (fun hc19 => ?_) (fun hc19 => ?_)
    · replace h := jf hc19 h
      refine j_iconst (v := (0 : Int32)) E dX6_grows_90 (by decide) ?_
      refine j_istore_n (lv' := [(3, .int (0 : Int32)), (0, .ref v0), (1, .int v1), (2, .int v2)]) E dX6_grows_91 rfl (by decide) rfl ?_
      exact j_sub [1, 2, 3, 0] rfl (wX6_grows_L92 E ih _ _ _ _ h)
    replace h := jt hc19 h
    refine j_goto (tgt := 287) E dX6_grows_87 (by decide) ?_
    refine j_iinc (v := (v2 + (1 : Int32))) (lv' := [(2, .int (v2 + (1 : Int32))), (0, .ref v0), (1, .int v1)]) E 2 dX6_grows_287 rfl rfl (by decide) rfl ?_
    refine j_goto (tgt := 72) E dX6_grows_290 (by decide) ?_
    exact j_sub [1, 2, 0] rfl (ih _ _ _ h)
def mX6_grows_L4 (fu : Nat)  (v0 : Nat) : Nat → Int32 → Int32 → jM → Option (Int32 × jM)
  | 0, _, _, _ => none
  | n + 1, v1, v2, f =>
    (rdI 6 f v0 1).bind fun x1 =>
    if ((6 : Int32) * x1) ≤ v2 then (
    mX6_grows_L72 fu v0 fu v1 (0 : Int32) f) else (
    (rdR 6 f v0 8).bind fun x3 =>
    (ldI 0 f x3 v2).bind fun x4 =>
    if x4 = (2 : Int32) then (
    (rdR 6 f v0 9).bind fun x6 =>
    (ldI 0 f x6 v2).bind fun x7 =>
    if (x7 / (24 : Int32)) = (v2 / (6 : Int32)) then (
    (rdR 6 f v0 9).bind fun x9 =>
    (ldI 0 f x9 v2).bind fun x10 =>
    (chk 6 f v0).bind fun _ =>
    (mX6_goesOut f v0 x10).bind fun r12 =>
    if r12.1 = 0 then (
    if v1 = 0 then (
    mX6_grows_L4 fu v0 n (0 : Int32) (v2 + (1 : Int32)) r12.2) else (
    mX6_grows_L4 fu v0 n (1 : Int32) (v2 + (1 : Int32)) r12.2)) else (
    mX6_grows_L4 fu v0 n (1 : Int32) (v2 + (1 : Int32)) r12.2)) else (
    mX6_grows_L4 fu v0 n v1 (v2 + (1 : Int32)) f)) else (
    mX6_grows_L4 fu v0 n v1 (v2 + (1 : Int32)) f))
set_option maxRecDepth 100000 in
set_option maxHeartbeats 4000000 in
theorem wX6_grows_L4 {c : jS} {sz : Nat} {fu : Nat}  {v0 : Nat} {res : (Int32 × jM)} (E : jOk c cX6_grows 6 RX6 (some .boolean) 1 21)  : ∀ (n : Nat) (v1 : Int32) (v2 : Int32) (f : jM), mX6_grows_L4 fu  v0 n v1 v2 f = some res → J c (jZ c (some (.int res.1)) res.2 sz) f sz 0 0 4 [(0, .ref v0), (1, .int v1), (2, .int v2)] [] := by
  intro n
  induction n with
  | zero => intro v1 v2 f h; exact jn0 h
  | succ n ih =>
    intro v1 v2 f h
    rw [mX6_grows_L4] at h
    refine j_iload_n E 2 dX6_grows_4 rfl rfl ?_
    refine j_bipush (v := (6 : Int32)) E dX6_grows_5 (by decide) ?_
    refine j_aload_n E 0 dX6_grows_7 rfl rfl ?_
    obtain ⟨x1, h1, h⟩ := jb h
    refine j_getI E gX6_87 h1 dX6_grows_8 ?_
    refine j_imul E dX6_grows_11 ?_
    refine j_icmp_ge (tgt := 70) E dX6_grows_12 (by decide) (fun hc2 => ?_) (fun hc2 => ?_)
    · replace h := jt hc2 h
      refine j_iconst (v := (0 : Int32)) E dX6_grows_70 (by decide) ?_
      refine j_istore_n (lv' := [(2, .int (0 : Int32)), (0, .ref v0), (1, .int v1)]) E dX6_grows_71 rfl (by decide) rfl ?_
      exact j_sub [1, 2, 0] rfl (wX6_grows_L72 E _ _ _ _ h)
    replace h := jf hc2 h
    refine j_aload_n E 0 dX6_grows_15 rfl rfl ?_
    obtain ⟨x3, h3, h⟩ := jb h
    refine j_getR E gX6_33 h3 dX6_grows_16 ?_
    refine j_iload_n E 2 dX6_grows_19 rfl rfl ?_
    obtain ⟨x4, h4, h⟩ := jb h
    refine j_iald E h4 dX6_grows_20 ?_
    refine j_iconst (v := (2 : Int32)) E dX6_grows_21 (by decide) ?_
    refine j_icmp_ne (tgt := 64) E dX6_grows_22 (by decide) (fun hc5 => ?_) (fun hc5 => ?_)
    · replace h := jf hc5 h
      refine j_iinc (v := (v2 + (1 : Int32))) (lv' := [(2, .int (v2 + (1 : Int32))), (0, .ref v0), (1, .int v1)]) E 2 dX6_grows_64 rfl rfl (by decide) rfl ?_
      refine j_goto (tgt := 4) E dX6_grows_67 (by decide) ?_
      exact j_sub [1, 2, 0] rfl (ih _ _ _ h)
    replace h := jt hc5 h
    refine j_aload_n E 0 dX6_grows_25 rfl rfl ?_
    obtain ⟨x6, h6, h⟩ := jb h
    refine j_getR E gX6_36 h6 dX6_grows_26 ?_
    refine j_iload_n E 2 dX6_grows_29 rfl rfl ?_
    obtain ⟨x7, h7, h⟩ := jb h
    refine j_iald E h7 dX6_grows_30 ?_
    refine j_bipush (v := (24 : Int32)) E dX6_grows_31 (by decide) ?_
    refine j_idiv E dX6_grows_33 (by decide) ?_
    refine j_iload_n E 2 dX6_grows_34 rfl rfl ?_
    refine j_bipush (v := (6 : Int32)) E dX6_grows_35 (by decide) ?_
    refine j_idiv E dX6_grows_37 (by decide) ?_
    refine j_icmp_ne (tgt := 64) E dX6_grows_38 (by decide) (fun hc8 => ?_) (fun hc8 => ?_)
    · replace h := jf hc8 h
      refine j_iinc (v := (v2 + (1 : Int32))) (lv' := [(2, .int (v2 + (1 : Int32))), (0, .ref v0), (1, .int v1)]) E 2 dX6_grows_64 rfl rfl (by decide) rfl ?_
      refine j_goto (tgt := 4) E dX6_grows_67 (by decide) ?_
      exact j_sub [1, 2, 0] rfl (ih _ _ _ h)
    replace h := jt hc8 h
    refine j_aload_n E 0 dX6_grows_41 rfl rfl ?_
    refine j_aload_n E 0 dX6_grows_42 rfl rfl ?_
    obtain ⟨x9, h9, h⟩ := jb h
    refine j_getR E gX6_36 h9 dX6_grows_43 ?_
    refine j_iload_n E 2 dX6_grows_46 rfl rfl ?_
    obtain ⟨x10, h10, h⟩ := jb h
    refine j_iald E h10 dX6_grows_47 ?_
    obtain ⟨u11, h11, h⟩ := jb h
    obtain ⟨fs11, h11⟩ := chk_spec h11
    obtain ⟨r12, h12, h⟩ := jb h
    refine j_callV (As := [.int x10]) (b := v0) (rest := []) (rc := 0) (rs := 0) E (sX6_goesOut h12) lwX6_goesOut lkX6_170 imX6_goesOut seX6_goesOut rfl h11 (by decide) rfl (Nat.le_of_ble_eq_true rfl) dX6_grows_48 ?_
    refine j_if_ne (tgt := 58) E dX6_grows_51 (by decide) (fun hc13 => ?_) (fun hc13 => ?_)
    · replace h := jf hc13 h
      refine j_iconst (v := (1 : Int32)) E dX6_grows_58 (by decide) ?_
      refine j_goto (tgt := 63) E dX6_grows_59 (by decide) ?_
      refine j_istore_n (lv' := [(1, .int (1 : Int32)), (0, .ref v0), (2, .int v2)]) E dX6_grows_63 rfl (by decide) rfl ?_
      refine j_iinc (v := (v2 + (1 : Int32))) (lv' := [(2, .int (v2 + (1 : Int32))), (1, .int (1 : Int32)), (0, .ref v0)]) E 2 dX6_grows_64 rfl rfl (by decide) rfl ?_
      refine j_goto (tgt := 4) E dX6_grows_67 (by decide) ?_
      exact j_sub [2, 1, 0] rfl (ih _ _ _ h)
    replace h := jt hc13 h
    refine j_iload_n E 1 dX6_grows_54 rfl rfl ?_
    refine j_if_eq (tgt := 62) E dX6_grows_55 (by decide) (fun hc14 => ?_) (fun hc14 => ?_)
    · replace h := jt hc14 h
      refine j_iconst (v := (0 : Int32)) E dX6_grows_62 (by decide) ?_
      refine j_istore_n (lv' := [(1, .int (0 : Int32)), (0, .ref v0), (2, .int v2)]) E dX6_grows_63 rfl (by decide) rfl ?_
      refine j_iinc (v := (v2 + (1 : Int32))) (lv' := [(2, .int (v2 + (1 : Int32))), (1, .int (0 : Int32)), (0, .ref v0)]) E 2 dX6_grows_64 rfl rfl (by decide) rfl ?_
      refine j_goto (tgt := 4) E dX6_grows_67 (by decide) ?_
      exact j_sub [2, 1, 0] rfl (ih _ _ _ h)
    replace h := jf hc14 h
    refine j_iconst (v := (1 : Int32)) E dX6_grows_58 (by decide) ?_
    refine j_goto (tgt := 63) E dX6_grows_59 (by decide) ?_
    refine j_istore_n (lv' := [(1, .int (1 : Int32)), (0, .ref v0), (2, .int v2)]) E dX6_grows_63 rfl (by decide) rfl ?_
    refine j_iinc (v := (v2 + (1 : Int32))) (lv' := [(2, .int (v2 + (1 : Int32))), (1, .int (1 : Int32)), (0, .ref v0)]) E 2 dX6_grows_64 rfl rfl (by decide) rfl ?_
    refine j_goto (tgt := 4) E dX6_grows_67 (by decide) ?_
    exact j_sub [2, 1, 0] rfl (ih _ _ _ h)
def mX6_grows (fu : Nat) (f : jM) (v0 : Nat) : Option (Int32 × jM) :=
    mX6_grows_L4 fu v0 fu (0 : Int32) (0 : Int32) f
set_option maxRecDepth 100000 in
set_option maxHeartbeats 4000000 in
theorem sX6_grows {l : Launch} {D : jD} {sz : Nat} {fu : Nat} {f : jM} {v0 : Nat} {res : (Int32 × jM)} (h : mX6_grows fu f v0 = some res) : jCt l D yX6_grows cX6_grows 6 (some .boolean) 1 21 [.ref v0] f sz 0 0 (some (.int res.1)) res.2 sz := by
  refine j_start (by decide +kernel) (Nat.le_of_ble_eq_true rfl) (fun c hcl hcD hcn E => ?_)
  subst hcl
  subst hcD
  replace E : jOk c cX6_grows 6 RX6 (some .boolean) 1 21 := E
  show J c (jZ c (some (.int res.1)) res.2 sz) f sz 0 0 0 [(0, .ref v0)] []
  unfold mX6_grows at h
  refine j_iconst (v := (0 : Int32)) E dX6_grows_0 (by decide) ?_
  refine j_istore_n (lv' := [(1, .int (0 : Int32)), (0, .ref v0)]) E dX6_grows_1 rfl (by decide) rfl ?_
  refine j_iconst (v := (0 : Int32)) E dX6_grows_2 (by decide) ?_
  refine j_istore_n (lv' := [(2, .int (0 : Int32)), (1, .int (0 : Int32)), (0, .ref v0)]) E dX6_grows_3 rfl (by decide) rfl ?_
  exact j_sub [2, 1, 0] rfl (wX6_grows_L4 E _ _ _ _ h)
def mX6_tries_L66 (fu : Nat) (k33 : Int32 → jM → Option (Int32 × jM)) (v0 : Nat) (v1 : Int32) (v2 : Int32) (v3 : Int32) : Nat → Int32 → jM → Option (Int32 × jM)
  | 0, _, _ => none
  | n + 1, v4, f =>
    (rdR 6 f v0 2).bind fun x14 =>
    (ldI 0 f x14 v3).bind fun x15 =>
    if x15 ≤ v4 then (
    k33 v2 f) else (
    (rdR 6 f v0 6).bind fun x17 =>
    (ldI 0 f x17 (((12 : Int32) * v3) + v4)).bind fun x18 =>
    if x18 = (2 : Int32) then (
    (rdR 6 f v0 7).bind fun x20 =>
    (ldI 0 f x20 (((12 : Int32) * v3) + v4)).bind fun x21 =>
    (chk 6 f v0).bind fun _ =>
    (mX6_grays f v0 x21).bind fun f23 =>
    mX6_tries_L66 fu k33 v0 v1 v2 v3 n (v4 + (1 : Int32)) f23) else (
    mX6_tries_L66 fu k33 v0 v1 v2 v3 n (v4 + (1 : Int32)) f))
set_option maxRecDepth 100000 in
set_option maxHeartbeats 4000000 in
theorem wX6_tries_L66 {c : jS} {sz : Nat} {fu : Nat} {k33 : Int32 → jM → Option (Int32 × jM)} {v0 : Nat} {v1 : Int32} {v2 : Int32} {v3 : Int32} {res : (Int32 × jM)} (E : jOk c cX6_tries 7 RX6 (some .int) 2 48) (hk33 : ∀ (v2 : Int32) (f : jM), k33 v2 f = some res → J c (jZ c (some (.int res.1)) res.2 sz) f sz 0 0 33 [(0, .ref v0), (1, .int v1), (2, .int v2)] []) : ∀ (n : Nat) (v4 : Int32) (f : jM), mX6_tries_L66 fu k33 v0 v1 v2 v3 n v4 f = some res → J c (jZ c (some (.int res.1)) res.2 sz) f sz 0 0 66 [(0, .ref v0), (1, .int v1), (2, .int v2), (3, .int v3), (4, .int v4)] [] := by
  intro n
  induction n with
  | zero => intro v4 f h; exact jn0 h
  | succ n ih =>
    intro v4 f h
    rw [mX6_tries_L66] at h
    refine j_iload E 4 dX6_tries_66 rfl ?_
    refine j_aload_n E 0 dX6_tries_68 rfl rfl ?_
    obtain ⟨x14, h14, h⟩ := jb h
    refine j_getR E gX6_13 h14 dX6_tries_69 ?_
    refine j_iload_n E 3 dX6_tries_72 rfl rfl ?_
    obtain ⟨x15, h15, h⟩ := jb h
    refine j_iald E h15 dX6_tries_73 ?_
    refine j_icmp_ge (tgt := 115) E dX6_tries_74 (by decide) (fun hc16 => ?_) (fun hc16 => ?_)
    · replace h := jt hc16 h
      refine j_goto (tgt := 33) E dX6_tries_115 (by decide) ?_
      exact j_sub [0, 1, 2] rfl (hk33 _ _ h)
    replace h := jf hc16 h
    refine j_aload_n E 0 dX6_tries_77 rfl rfl ?_
    obtain ⟨x17, h17, h⟩ := jb h
    refine j_getR E gX6_27 h17 dX6_tries_78 ?_
    refine j_bipush (v := (12 : Int32)) E dX6_tries_81 (by decide) ?_
    refine j_iload_n E 3 dX6_tries_83 rfl rfl ?_
    refine j_imul E dX6_tries_84 ?_
    refine j_iload E 4 dX6_tries_85 rfl ?_
    refine j_iadd E dX6_tries_87 ?_
    obtain ⟨x18, h18, h⟩ := jb h
    refine j_iald E h18 dX6_tries_88 ?_
    refine j_iconst (v := (2 : Int32)) E dX6_tries_89 (by decide) ?_
    refine j_icmp_ne (tgt := 109) E dX6_tries_90 (by decide) (fun hc19 => ?_) (fun hc19 => ?_)
    · replace h := jf hc19 h
      refine j_iinc (v := (v4 + (1 : Int32))) (lv' := [(4, .int (v4 + (1 : Int32))), (0, .ref v0), (1, .int v1), (2, .int v2), (3, .int v3)]) E 4 dX6_tries_109 rfl rfl (by decide) rfl ?_
      refine j_goto (tgt := 66) E dX6_tries_112 (by decide) ?_
      exact j_sub [1, 2, 3, 4, 0] rfl (ih _ _ h)
    replace h := jt hc19 h
    refine j_aload_n E 0 dX6_tries_93 rfl rfl ?_
    refine j_aload_n E 0 dX6_tries_94 rfl rfl ?_
    obtain ⟨x20, h20, h⟩ := jb h
    refine j_getR E gX6_30 h20 dX6_tries_95 ?_
    refine j_bipush (v := (12 : Int32)) E dX6_tries_98 (by decide) ?_
    refine j_iload_n E 3 dX6_tries_100 rfl rfl ?_
    refine j_imul E dX6_tries_101 ?_
    refine j_iload E 4 dX6_tries_102 rfl ?_
    refine j_iadd E dX6_tries_104 ?_
    obtain ⟨x21, h21, h⟩ := jb h
    refine j_iald E h21 dX6_tries_105 ?_
    obtain ⟨u22, h22, h⟩ := jb h
    obtain ⟨fs22, h22⟩ := chk_spec h22
    obtain ⟨f23, h23, h⟩ := jb h
    refine j_callV (As := [.int x21]) (b := v0) (rest := []) (rc := 0) (rs := 0) E (sX6_grays h23) lwX6_grays lkX6_160 imX6_grays seX6_grays rfl h22 (by decide) rfl (Nat.le_of_ble_eq_true rfl) dX6_tries_106 ?_
    refine j_iinc (v := (v4 + (1 : Int32))) (lv' := [(4, .int (v4 + (1 : Int32))), (0, .ref v0), (1, .int v1), (2, .int v2), (3, .int v3)]) E 4 dX6_tries_109 rfl rfl (by decide) rfl ?_
    refine j_goto (tgt := 66) E dX6_tries_112 (by decide) ?_
    exact j_sub [1, 2, 3, 4, 0] rfl (ih _ _ h)
def mX6_tries_L261 (fu : Nat) (k215 : Int32 → Int32 → jM → Option (Int32 × jM)) (v0 : Nat) (v2 : Int32) (v5 : Int32) : Nat → Int32 → jM → Option (Int32 × jM)
  | 0, _, _ => none
  | n + 1, v6, f =>
    (rdR 6 f v0 2).bind fun x50 =>
    (ldI 0 f x50 v5).bind fun x51 =>
    if x51 ≤ v6 then (
    k215 v2 (v5 + (1 : Int32)) f) else (
    (rdR 6 f v0 6).bind fun x53 =>
    (stI 0 f x53 (((12 : Int32) * v5) + v6) (0 : Int32)).bind fun f54 =>
    (rdR 6 f54 v0 7).bind fun x55 =>
    (stI 0 f54 x55 (((12 : Int32) * v5) + v6) (0 : Int32)).bind fun f56 =>
    mX6_tries_L261 fu k215 v0 v2 v5 n (v6 + (1 : Int32)) f56)
set_option maxRecDepth 100000 in
set_option maxHeartbeats 4000000 in
theorem wX6_tries_L261 {c : jS} {sz : Nat} {fu : Nat} {k215 : Int32 → Int32 → jM → Option (Int32 × jM)} {v0 : Nat} {v2 : Int32} {v5 : Int32} {res : (Int32 × jM)} (E : jOk c cX6_tries 7 RX6 (some .int) 2 48) (hk215 : ∀ (v2 : Int32) (v5 : Int32) (f : jM), k215 v2 v5 f = some res → J c (jZ c (some (.int res.1)) res.2 sz) f sz 0 0 215 [(0, .ref v0), (2, .int v2), (5, .int v5)] []) : ∀ (n : Nat) (v6 : Int32) (f : jM), mX6_tries_L261 fu k215 v0 v2 v5 n v6 f = some res → J c (jZ c (some (.int res.1)) res.2 sz) f sz 0 0 261 [(0, .ref v0), (2, .int v2), (5, .int v5), (6, .int v6)] [] := by
  intro n
  induction n with
  | zero => intro v6 f h; exact jn0 h
  | succ n ih =>
    intro v6 f h
    rw [mX6_tries_L261] at h
    refine j_iload E 3 dX6_tries_261 rfl ?_
    refine j_aload_n E 0 dX6_tries_263 rfl rfl ?_
    obtain ⟨x50, h50, h⟩ := jb h
    refine j_getR E gX6_13 h50 dX6_tries_264 ?_
    refine j_iload E 2 dX6_tries_267 rfl ?_
    obtain ⟨x51, h51, h⟩ := jb h
    refine j_iald E h51 dX6_tries_269 ?_
    refine j_icmp_ge (tgt := 307) E dX6_tries_270 (by decide) (fun hc52 => ?_) (fun hc52 => ?_)
    · replace h := jt hc52 h
      refine j_iinc (v := (v5 + (1 : Int32))) (lv' := [(5, .int (v5 + (1 : Int32))), (0, .ref v0), (2, .int v2), (6, .int v6)]) E 2 dX6_tries_307 rfl rfl (by decide) rfl ?_
      refine j_goto (tgt := 215) E dX6_tries_310 (by decide) ?_
      exact j_sub [1, 2, 0] rfl (hk215 _ _ _ h)
    replace h := jf hc52 h
    refine j_aload_n E 0 dX6_tries_273 rfl rfl ?_
    obtain ⟨x53, h53, h⟩ := jb h
    refine j_getR E gX6_27 h53 dX6_tries_274 ?_
    refine j_bipush (v := (12 : Int32)) E dX6_tries_277 (by decide) ?_
    refine j_iload E 2 dX6_tries_279 rfl ?_
    refine j_imul E dX6_tries_281 ?_
    refine j_iload E 3 dX6_tries_282 rfl ?_
    refine j_iadd E dX6_tries_284 ?_
    refine j_iconst (v := (0 : Int32)) E dX6_tries_285 (by decide) ?_
    obtain ⟨f54, h54, h⟩ := jb h
    refine j_iast E h54 dX6_tries_286 ?_
    refine j_aload_n E 0 dX6_tries_287 rfl rfl ?_
    obtain ⟨x55, h55, h⟩ := jb h
    refine j_getR E gX6_30 h55 dX6_tries_288 ?_
    refine j_bipush (v := (12 : Int32)) E dX6_tries_291 (by decide) ?_
    refine j_iload E 2 dX6_tries_293 rfl ?_
    refine j_imul E dX6_tries_295 ?_
    refine j_iload E 3 dX6_tries_296 rfl ?_
    refine j_iadd E dX6_tries_298 ?_
    refine j_iconst (v := (0 : Int32)) E dX6_tries_299 (by decide) ?_
    obtain ⟨f56, h56, h⟩ := jb h
    refine j_iast E h56 dX6_tries_300 ?_
    refine j_iinc (v := (v6 + (1 : Int32))) (lv' := [(6, .int (v6 + (1 : Int32))), (0, .ref v0), (2, .int v2), (5, .int v5)]) E 3 dX6_tries_301 rfl rfl (by decide) rfl ?_
    refine j_goto (tgt := 261) E dX6_tries_304 (by decide) ?_
    exact j_sub [1, 2, 3, 0] rfl (ih _ _ h)
def mX6_tries_L316 (fu : Nat)  (v0 : Nat) (v2 : Int32) : Nat → Int32 → jM → Option (Int32 × jM)
  | 0, _, _ => none
  | n + 1, v5, f =>
    if (600 : Int32) ≤ v5 then (
    some (v2, f)) else (
    (rdR 6 f v0 25).bind fun x58 =>
    (ldI 1 f x58 v5).bind fun x59 =>
    if x59 = 0 then (
    mX6_tries_L316 fu v0 v2 n (v5 + (1 : Int32)) f) else (
    (chk 6 f v0).bind fun _ =>
    (mX6_givesBack f v0 (v5 / (120 : Int32)) (v5 - v5 / (120 : Int32) * (120 : Int32))).bind fun f62 =>
    mX6_tries_L316 fu v0 v2 n (v5 + (1 : Int32)) f62))
set_option maxRecDepth 100000 in
set_option maxHeartbeats 4000000 in
theorem wX6_tries_L316 {c : jS} {sz : Nat} {fu : Nat}  {v0 : Nat} {v2 : Int32} {res : (Int32 × jM)} (E : jOk c cX6_tries 7 RX6 (some .int) 2 48)  : ∀ (n : Nat) (v5 : Int32) (f : jM), mX6_tries_L316 fu  v0 v2 n v5 f = some res → J c (jZ c (some (.int res.1)) res.2 sz) f sz 0 0 316 [(0, .ref v0), (2, .int v2), (5, .int v5)] [] := by
  intro n
  induction n with
  | zero => intro v5 f h; exact jn0 h
  | succ n ih =>
    intro v5 f h
    rw [mX6_tries_L316] at h
    refine j_iload E 2 dX6_tries_316 rfl ?_
    refine j_sipush (v := (600 : Int32)) E dX6_tries_318 (by decide) ?_
    refine j_icmp_ge (tgt := 354) E dX6_tries_321 (by decide) (fun hc57 => ?_) (fun hc57 => ?_)
    · replace h := jt hc57 h
      refine j_iload_n E 1 dX6_tries_354 rfl rfl ?_
      cases h
      exact j_iret E dX6_tries_355
    replace h := jf hc57 h
    refine j_aload_n E 0 dX6_tries_324 rfl rfl ?_
    obtain ⟨x58, h58, h⟩ := jb h
    refine j_getR E gX6_78 h58 dX6_tries_325 ?_
    refine j_iload E 2 dX6_tries_328 rfl ?_
    obtain ⟨x59, h59, h⟩ := jb h
    refine j_zald E h59 dX6_tries_330 ?_
    refine j_if_eq (tgt := 348) E dX6_tries_331 (by decide) (fun hc60 => ?_) (fun hc60 => ?_)
    · replace h := jt hc60 h
      refine j_iinc (v := (v5 + (1 : Int32))) (lv' := [(5, .int (v5 + (1 : Int32))), (0, .ref v0), (2, .int v2)]) E 2 dX6_tries_348 rfl rfl (by decide) rfl ?_
      refine j_goto (tgt := 316) E dX6_tries_351 (by decide) ?_
      exact j_sub [1, 2, 0] rfl (ih _ _ h)
    replace h := jf hc60 h
    refine j_aload_n E 0 dX6_tries_334 rfl rfl ?_
    refine j_iload E 2 dX6_tries_335 rfl ?_
    refine j_bipush (v := (120 : Int32)) E dX6_tries_337 (by decide) ?_
    refine j_idiv E dX6_tries_339 (by decide) ?_
    refine j_iload E 2 dX6_tries_340 rfl ?_
    refine j_bipush (v := (120 : Int32)) E dX6_tries_342 (by decide) ?_
    refine j_irem E dX6_tries_344 (by decide) ?_
    obtain ⟨u61, h61, h⟩ := jb h
    obtain ⟨fs61, h61⟩ := chk_spec h61
    obtain ⟨f62, h62, h⟩ := jb h
    refine j_callV (As := [.int (v5 / (120 : Int32)), .int (v5 - v5 / (120 : Int32) * (120 : Int32))]) (b := v0) (rest := []) (rc := 0) (rs := 0) E (sX6_givesBack h62) lwX6_givesBack lkX6_147 imX6_givesBack seX6_givesBack rfl h61 (by decide) rfl (Nat.le_of_ble_eq_true rfl) dX6_tries_345 ?_
    refine j_iinc (v := (v5 + (1 : Int32))) (lv' := [(5, .int (v5 + (1 : Int32))), (0, .ref v0), (2, .int v2)]) E 2 dX6_tries_348 rfl rfl (by decide) rfl ?_
    refine j_goto (tgt := 316) E dX6_tries_351 (by decide) ?_
    exact j_sub [1, 2, 0] rfl (ih _ _ h)
def mX6_tries_L215 (fu : Nat)  (v0 : Nat) : Nat → Int32 → Int32 → jM → Option (Int32 × jM)
  | 0, _, _, _ => none
  | n + 1, v2, v5, f =>
    if (120 : Int32) ≤ v5 then (
    mX6_tries_L316 fu v0 v2 fu (0 : Int32) f) else (
    (rdR 6 f v0 5).bind fun x41 =>
    (ldI 1 f x41 v5).bind fun x42 =>
    if x42 = 0 then (
    mX6_tries_L215 fu v0 n v2 (v5 + (1 : Int32)) f) else (
    (rdR 6 f v0 24).bind fun x44 =>
    (ldI 1 f x44 v5).bind fun x45 =>
    if x45 = 0 then (
    mX6_tries_L215 fu v0 n v2 (v5 + (1 : Int32)) f) else (
    (rdR 6 f v0 26).bind fun x47 =>
    (ldI 1 f x47 v5).bind fun x48 =>
    if x48 = 0 then (
    mX6_tries_L261 fu (mX6_tries_L215 fu v0 n) v0 (v2 + (1 : Int32)) v5 fu (0 : Int32) f) else (
    mX6_tries_L215 fu v0 n v2 (v5 + (1 : Int32)) f))))
set_option maxRecDepth 100000 in
set_option maxHeartbeats 4000000 in
theorem wX6_tries_L215 {c : jS} {sz : Nat} {fu : Nat}  {v0 : Nat} {res : (Int32 × jM)} (E : jOk c cX6_tries 7 RX6 (some .int) 2 48)  : ∀ (n : Nat) (v2 : Int32) (v5 : Int32) (f : jM), mX6_tries_L215 fu  v0 n v2 v5 f = some res → J c (jZ c (some (.int res.1)) res.2 sz) f sz 0 0 215 [(0, .ref v0), (2, .int v2), (5, .int v5)] [] := by
  intro n
  induction n with
  | zero => intro v2 v5 f h; exact jn0 h
  | succ n ih =>
    intro v2 v5 f h
    rw [mX6_tries_L215] at h
    refine j_iload E 2 dX6_tries_215 rfl ?_
    refine j_bipush (v := (120 : Int32)) E dX6_tries_217 (by decide) ?_
    refine j_icmp_ge (tgt := 313) E dX6_tries_219 (by decide) (fun hc40 => ?_) (fun hc40 => ?_)
    · replace h := jt hc40 h
      refine j_iconst (v := (0 : Int32)) E dX6_tries_313 (by decide) ?_
      refine j_istore (lv' := [(5, .int (0 : Int32)), (0, .ref v0), (2, .int v2)]) E dX6_tries_314 (by decide) rfl ?_
      exact j_sub [1, 2, 0] rfl (wX6_tries_L316 E _ _ _ h)
    replace h := jf hc40 h
    refine j_aload_n E 0 dX6_tries_222 rfl rfl ?_
    obtain ⟨x41, h41, h⟩ := jb h
    refine j_getR E gX6_23 h41 dX6_tries_223 ?_
    refine j_iload E 2 dX6_tries_226 rfl ?_
    obtain ⟨x42, h42, h⟩ := jb h
    refine j_zald E h42 dX6_tries_228 ?_
    refine j_if_eq (tgt := 307) E dX6_tries_229 (by decide) (fun hc43 => ?_) (fun hc43 => ?_)
    · replace h := jt hc43 h
      refine j_iinc (v := (v5 + (1 : Int32))) (lv' := [(5, .int (v5 + (1 : Int32))), (0, .ref v0), (2, .int v2)]) E 2 dX6_tries_307 rfl rfl (by decide) rfl ?_
      refine j_goto (tgt := 215) E dX6_tries_310 (by decide) ?_
      exact j_sub [1, 2, 0] rfl (ih _ _ _ h)
    replace h := jf hc43 h
    refine j_aload_n E 0 dX6_tries_232 rfl rfl ?_
    obtain ⟨x44, h44, h⟩ := jb h
    refine j_getR E gX6_75 h44 dX6_tries_233 ?_
    refine j_iload E 2 dX6_tries_236 rfl ?_
    obtain ⟨x45, h45, h⟩ := jb h
    refine j_zald E h45 dX6_tries_238 ?_
    refine j_if_eq (tgt := 307) E dX6_tries_239 (by decide) (fun hc46 => ?_) (fun hc46 => ?_)
    · replace h := jt hc46 h
      refine j_iinc (v := (v5 + (1 : Int32))) (lv' := [(5, .int (v5 + (1 : Int32))), (0, .ref v0), (2, .int v2)]) E 2 dX6_tries_307 rfl rfl (by decide) rfl ?_
      refine j_goto (tgt := 215) E dX6_tries_310 (by decide) ?_
      exact j_sub [1, 2, 0] rfl (ih _ _ _ h)
    replace h := jf hc46 h
    refine j_aload_n E 0 dX6_tries_242 rfl rfl ?_
    obtain ⟨x47, h47, h⟩ := jb h
    refine j_getR E gX6_81 h47 dX6_tries_243 ?_
    refine j_iload E 2 dX6_tries_246 rfl ?_
    obtain ⟨x48, h48, h⟩ := jb h
    refine j_zald E h48 dX6_tries_248 ?_
    refine j_if_eq (tgt := 255) E dX6_tries_249 (by decide) (fun hc49 => ?_) (fun hc49 => ?_)
    · replace h := jt hc49 h
      refine j_iinc (v := (v2 + (1 : Int32))) (lv' := [(2, .int (v2 + (1 : Int32))), (0, .ref v0), (5, .int v5)]) E 1 dX6_tries_255 rfl rfl (by decide) rfl ?_
      refine j_iconst (v := (0 : Int32)) E dX6_tries_258 (by decide) ?_
      refine j_istore (lv' := [(6, .int (0 : Int32)), (2, .int (v2 + (1 : Int32))), (0, .ref v0), (5, .int v5)]) E dX6_tries_259 (by decide) rfl ?_
      exact j_sub [2, 1, 3, 0] rfl (wX6_tries_L261 E ih _ _ _ h)
    replace h := jf hc49 h
    refine j_goto (tgt := 307) E dX6_tries_252 (by decide) ?_
    refine j_iinc (v := (v5 + (1 : Int32))) (lv' := [(5, .int (v5 + (1 : Int32))), (0, .ref v0), (2, .int v2)]) E 2 dX6_tries_307 rfl rfl (by decide) rfl ?_
    refine j_goto (tgt := 215) E dX6_tries_310 (by decide) ?_
    exact j_sub [1, 2, 0] rfl (ih _ _ _ h)
def mX6_tries_L174 (fu : Nat)  (v0 : Nat) : Nat → Int32 → Int32 → jM → Option (Int32 × jM)
  | 0, _, _, _ => none
  | n + 1, v4, v5, f =>
    if (600 : Int32) ≤ v5 then (
    if v4 ≤ (60 : Int32) then (
    mX6_tries_L215 fu v0 fu (0 : Int32) (0 : Int32) f) else (
    some ((0 : Int32), f))) else (
    (rdR 6 f v0 25).bind fun x37 =>
    (ldI 1 f x37 v5).bind fun x38 =>
    if x38 = 0 then (
    mX6_tries_L174 fu v0 n v4 (v5 + (1 : Int32)) f) else (
    mX6_tries_L174 fu v0 n (v4 + (1 : Int32)) (v5 + (1 : Int32)) f))
set_option maxRecDepth 100000 in
set_option maxHeartbeats 4000000 in
theorem wX6_tries_L174 {c : jS} {sz : Nat} {fu : Nat}  {v0 : Nat} {res : (Int32 × jM)} (E : jOk c cX6_tries 7 RX6 (some .int) 2 48)  : ∀ (n : Nat) (v4 : Int32) (v5 : Int32) (f : jM), mX6_tries_L174 fu  v0 n v4 v5 f = some res → J c (jZ c (some (.int res.1)) res.2 sz) f sz 0 0 174 [(0, .ref v0), (4, .int v4), (5, .int v5)] [] := by
  intro n
  induction n with
  | zero => intro v4 v5 f h; exact jn0 h
  | succ n ih =>
    intro v4 v5 f h
    rw [mX6_tries_L174] at h
    refine j_iload E 2 dX6_tries_174 rfl ?_
    refine j_sipush (v := (600 : Int32)) E dX6_tries_176 (by decide) ?_
    refine j_icmp_ge (tgt := 201) E dX6_tries_179 (by decide) (fun hc35 => ?_) (fun hc35 => ?_)
    · replace h := jt hc35 h
      refine j_iload E 1 dX6_tries_201 rfl ?_
      refine j_bipush (v := (60 : Int32)) E dX6_tries_203 (by decide) ?_
      refine j_icmp_le (tgt := 210) E dX6_tries_205 (by decide) (fun hc36 => ?_) (fun hc36 => ?_)
      · replace h := jt hc36 h
        refine j_iconst (v := (0 : Int32)) E dX6_tries_210 (by decide) ?_
        refine j_istore_n (lv' := [(2, .int (0 : Int32)), (0, .ref v0), (4, .int v4), (5, .int v5)]) E dX6_tries_211 rfl (by decide) rfl ?_
        refine j_iconst (v := (0 : Int32)) E dX6_tries_212 (by decide) ?_
        refine j_istore (lv' := [(5, .int (0 : Int32)), (2, .int (0 : Int32)), (0, .ref v0), (4, .int v4)]) E dX6_tries_213 (by decide) rfl ?_
        exact j_sub [2, 1, 0] rfl (wX6_tries_L215 E _ _ _ _ h)
      replace h := jf hc36 h
      refine j_iconst (v := (0 : Int32)) E dX6_tries_208 (by decide) ?_
      cases h
      exact j_iret E dX6_tries_209
    replace h := jf hc35 h
    refine j_aload_n E 0 dX6_tries_182 rfl rfl ?_
    obtain ⟨x37, h37, h⟩ := jb h
    refine j_getR E gX6_78 h37 dX6_tries_183 ?_
    refine j_iload E 2 dX6_tries_186 rfl ?_
    obtain ⟨x38, h38, h⟩ := jb h
    refine j_zald E h38 dX6_tries_188 ?_
    refine j_if_eq (tgt := 195) E dX6_tries_189 (by decide) (fun hc39 => ?_) (fun hc39 => ?_)
    · replace h := jt hc39 h
      refine j_iinc (v := (v5 + (1 : Int32))) (lv' := [(5, .int (v5 + (1 : Int32))), (0, .ref v0), (4, .int v4)]) E 2 dX6_tries_195 rfl rfl (by decide) rfl ?_
      refine j_goto (tgt := 174) E dX6_tries_198 (by decide) ?_
      exact j_sub [1, 2, 0] rfl (ih _ _ _ h)
    replace h := jf hc39 h
    refine j_iinc (v := (v4 + (1 : Int32))) (lv' := [(4, .int (v4 + (1 : Int32))), (0, .ref v0), (5, .int v5)]) E 1 dX6_tries_192 rfl rfl (by decide) rfl ?_
    refine j_iinc (v := (v5 + (1 : Int32))) (lv' := [(5, .int (v5 + (1 : Int32))), (4, .int (v4 + (1 : Int32))), (0, .ref v0)]) E 2 dX6_tries_195 rfl rfl (by decide) rfl ?_
    refine j_goto (tgt := 174) E dX6_tries_198 (by decide) ?_
    exact j_sub [2, 1, 0] rfl (ih _ _ _ h)
def mX6_tries_L141 (fu : Nat)  (v0 : Nat) (v1 : Int32) : Nat → Int32 → jM → Option (Int32 × jM)
  | 0, _, _ => none
  | n + 1, v3, f =>
    if v3 = 0 then (
    (rdR 6 f v0 26).bind fun x28 =>
    (ldI 1 f x28 v1).bind fun x29 =>
    if x29 = 0 then (
    mX6_tries_L174 fu v0 fu (0 : Int32) (0 : Int32) f) else (
    some ((0 : Int32), f))) else (
    (chk 6 f v0).bind fun _ =>
    (mX6_judges fu f v0).bind fun f32 =>
    (chk 6 f32 v0).bind fun _ =>
    (mX6_grows fu f32 v0).bind fun r34 =>
    mX6_tries_L141 fu v0 v1 n r34.1 r34.2)
set_option maxRecDepth 100000 in
set_option maxHeartbeats 4000000 in
theorem wX6_tries_L141 {c : jS} {sz : Nat} {fu : Nat}  {v0 : Nat} {v1 : Int32} {res : (Int32 × jM)} (E : jOk c cX6_tries 7 RX6 (some .int) 2 48)  : ∀ (n : Nat) (v3 : Int32) (f : jM), mX6_tries_L141 fu  v0 v1 n v3 f = some res → J c (jZ c (some (.int res.1)) res.2 sz) f sz 0 0 141 [(0, .ref v0), (1, .int v1), (3, .int v3)] [] := by
  intro n
  induction n with
  | zero => intro v3 f h; exact jn0 h
  | succ n ih =>
    intro v3 f h
    rw [mX6_tries_L141] at h
    refine j_iload_n E 2 dX6_tries_141 rfl rfl ?_
    refine j_if_eq (tgt := 157) E dX6_tries_142 (by decide) (fun hc27 => ?_) (fun hc27 => ?_)
    · replace h := jt hc27 h
      refine j_aload_n E 0 dX6_tries_157 rfl rfl ?_
      obtain ⟨x28, h28, h⟩ := jb h
      refine j_getR E gX6_81 h28 dX6_tries_158 ?_
      refine j_iload_n E 1 dX6_tries_161 rfl rfl ?_
      obtain ⟨x29, h29, h⟩ := jb h
      refine j_zald E h29 dX6_tries_162 ?_
      refine j_if_eq (tgt := 168) E dX6_tries_163 (by decide) (fun hc30 => ?_) (fun hc30 => ?_)
      · replace h := jt hc30 h
        refine j_iconst (v := (0 : Int32)) E dX6_tries_168 (by decide) ?_
        refine j_istore (lv' := [(4, .int (0 : Int32)), (0, .ref v0), (1, .int v1), (3, .int v3)]) E dX6_tries_169 (by decide) rfl ?_
        refine j_iconst (v := (0 : Int32)) E dX6_tries_171 (by decide) ?_
        refine j_istore (lv' := [(5, .int (0 : Int32)), (4, .int (0 : Int32)), (0, .ref v0), (1, .int v1), (3, .int v3)]) E dX6_tries_172 (by decide) rfl ?_
        exact j_sub [2, 1, 0] rfl (wX6_tries_L174 E _ _ _ _ h)
      replace h := jf hc30 h
      refine j_iconst (v := (0 : Int32)) E dX6_tries_166 (by decide) ?_
      cases h
      exact j_iret E dX6_tries_167
    replace h := jf hc27 h
    refine j_aload_n E 0 dX6_tries_145 rfl rfl ?_
    obtain ⟨u31, h31, h⟩ := jb h
    obtain ⟨fs31, h31⟩ := chk_spec h31
    obtain ⟨f32, h32, h⟩ := jb h
    refine j_callV (As := []) (b := v0) (rest := []) (rc := 0) (rs := 0) E (sX6_judges h32) lwX6_judges lkX6_163 imX6_judges seX6_judges rfl h31 (by decide) rfl (Nat.le_of_ble_eq_true rfl) dX6_tries_146 ?_
    refine j_aload_n E 0 dX6_tries_149 rfl rfl ?_
    obtain ⟨u33, h33, h⟩ := jb h
    obtain ⟨fs33, h33⟩ := chk_spec h33
    obtain ⟨r34, h34, h⟩ := jb h
    refine j_callV (As := []) (b := v0) (rest := []) (rc := 0) (rs := 0) E (sX6_grows h34) lwX6_grows lkX6_166 imX6_grows seX6_grows rfl h33 (by decide) rfl (Nat.le_of_ble_eq_true rfl) dX6_tries_150 ?_
    refine j_istore_n (lv' := [(3, .int r34.1), (0, .ref v0), (1, .int v1)]) E dX6_tries_153 rfl (by decide) rfl ?_
    refine j_goto (tgt := 141) E dX6_tries_154 (by decide) ?_
    exact j_sub [1, 2, 0] rfl (ih _ _ h)
def mX6_tries_L120 (fu : Nat)  (v0 : Nat) (v1 : Int32) : Nat → Int32 → jM → Option (Int32 × jM)
  | 0, _, _ => none
  | n + 1, v3, f =>
    if (120 : Int32) ≤ v3 then (
    mX6_tries_L141 fu v0 v1 fu (1 : Int32) f) else (
    (rdR 6 f v0 26).bind fun x25 =>
    (stI 1 f x25 v3 (vp_nar .boolean (0 : Int32))).bind fun f26 =>
    mX6_tries_L120 fu v0 v1 n (v3 + (1 : Int32)) f26)
set_option maxRecDepth 100000 in
set_option maxHeartbeats 4000000 in
theorem wX6_tries_L120 {c : jS} {sz : Nat} {fu : Nat}  {v0 : Nat} {v1 : Int32} {res : (Int32 × jM)} (E : jOk c cX6_tries 7 RX6 (some .int) 2 48)  : ∀ (n : Nat) (v3 : Int32) (f : jM), mX6_tries_L120 fu  v0 v1 n v3 f = some res → J c (jZ c (some (.int res.1)) res.2 sz) f sz 0 0 120 [(0, .ref v0), (1, .int v1), (3, .int v3)] [] := by
  intro n
  induction n with
  | zero => intro v3 f h; exact jn0 h
  | succ n ih =>
    intro v3 f h
    rw [mX6_tries_L120] at h
    refine j_iload_n E 2 dX6_tries_120 rfl rfl ?_
    refine j_bipush (v := (120 : Int32)) E dX6_tries_121 (by decide) ?_
    refine j_icmp_ge (tgt := 139) E dX6_tries_123 (by decide) (fun hc24 => ?_) (fun hc24 => ?_)
    · replace h := jt hc24 h
      refine j_iconst (v := (1 : Int32)) E dX6_tries_139 (by decide) ?_
      refine j_istore_n (lv' := [(3, .int (1 : Int32)), (0, .ref v0), (1, .int v1)]) E dX6_tries_140 rfl (by decide) rfl ?_
      exact j_sub [1, 2, 0] rfl (wX6_tries_L141 E _ _ _ h)
    replace h := jf hc24 h
    refine j_aload_n E 0 dX6_tries_126 rfl rfl ?_
    obtain ⟨x25, h25, h⟩ := jb h
    refine j_getR E gX6_81 h25 dX6_tries_127 ?_
    refine j_iload_n E 2 dX6_tries_130 rfl rfl ?_
    refine j_iconst (v := (0 : Int32)) E dX6_tries_131 (by decide) ?_
    obtain ⟨f26, h26, h⟩ := jb h
    refine j_zast E h26 dX6_tries_132 ?_
    refine j_iinc (v := (v3 + (1 : Int32))) (lv' := [(3, .int (v3 + (1 : Int32))), (0, .ref v0), (1, .int v1)]) E 2 dX6_tries_133 rfl rfl (by decide) rfl ?_
    refine j_goto (tgt := 120) E dX6_tries_136 (by decide) ?_
    exact j_sub [1, 2, 0] rfl (ih _ _ h)
def mX6_tries_L33 (fu : Nat)  (v0 : Nat) (v1 : Int32) : Nat → Int32 → jM → Option (Int32 × jM)
  | 0, _, _ => none
  | n + 1, v2, f =>
    (rdI 6 f v0 22).bind fun x7 =>
    if x7 ≤ 0 then (
    mX6_tries_L120 fu v0 v1 fu (0 : Int32) f) else (
    (rdI 6 f v0 22).bind fun x9 =>
    (wrV 6 f v0 22 (.int (x9 - (1 : Int32)))).bind fun f10 =>
    (rdR 6 f10 v0 23).bind fun x11 =>
    (rdI 6 f10 v0 22).bind fun x12 =>
    (ldI 0 f10 x11 x12).bind fun x13 =>
    mX6_tries_L66 fu (mX6_tries_L33 fu v0 v1 n) v0 v1 (v2 + (1 : Int32)) x13 fu (0 : Int32) f10)
set_option maxRecDepth 100000 in
set_option maxHeartbeats 4000000 in
theorem wX6_tries_L33 {c : jS} {sz : Nat} {fu : Nat}  {v0 : Nat} {v1 : Int32} {res : (Int32 × jM)} (E : jOk c cX6_tries 7 RX6 (some .int) 2 48)  : ∀ (n : Nat) (v2 : Int32) (f : jM), mX6_tries_L33 fu  v0 v1 n v2 f = some res → J c (jZ c (some (.int res.1)) res.2 sz) f sz 0 0 33 [(0, .ref v0), (1, .int v1), (2, .int v2)] [] := by
  intro n
  induction n with
  | zero => intro v2 f h; exact jn0 h
  | succ n ih =>
    intro v2 f h
    rw [mX6_tries_L33] at h
    refine j_aload_n E 0 dX6_tries_33 rfl rfl ?_
    obtain ⟨x7, h7, h⟩ := jb h
    refine j_getI E gX6_137 h7 dX6_tries_34 ?_
    refine j_if_le (tgt := 118) E dX6_tries_37 (by decide) (fun hc8 => ?_) (fun hc8 => ?_)
    · replace h := jt hc8 h
      refine j_iconst (v := (0 : Int32)) E dX6_tries_118 (by decide) ?_
      refine j_istore_n (lv' := [(3, .int (0 : Int32)), (0, .ref v0), (1, .int v1), (2, .int v2)]) E dX6_tries_119 rfl (by decide) rfl ?_
      exact j_sub [1, 2, 0] rfl (wX6_tries_L120 E _ _ _ h)
    replace h := jf hc8 h
    refine j_aload_n E 0 dX6_tries_40 rfl rfl ?_
    refine j_dup E dX6_tries_41 rfl ?_
    obtain ⟨x9, h9, h⟩ := jb h
    refine j_getI E gX6_137 h9 dX6_tries_42 ?_
    refine j_iconst (v := (1 : Int32)) E dX6_tries_45 (by decide) ?_
    refine j_isub E dX6_tries_46 ?_
    obtain ⟨f10, h10, h⟩ := jb h
    refine j_putV E gpX6_137 h10 rfl rfl dX6_tries_47 ?_
    refine j_aload_n E 0 dX6_tries_50 rfl rfl ?_
    obtain ⟨x11, h11, h⟩ := jb h
    refine j_getR E gX6_72 h11 dX6_tries_51 ?_
    refine j_aload_n E 0 dX6_tries_54 rfl rfl ?_
    obtain ⟨x12, h12, h⟩ := jb h
    refine j_getI E gX6_137 h12 dX6_tries_55 ?_
    obtain ⟨x13, h13, h⟩ := jb h
    refine j_iald E h13 dX6_tries_58 ?_
    refine j_istore_n (lv' := [(3, .int x13), (0, .ref v0), (1, .int v1), (2, .int v2)]) E dX6_tries_59 rfl (by decide) rfl ?_
    refine j_iinc (v := (v2 + (1 : Int32))) (lv' := [(2, .int (v2 + (1 : Int32))), (3, .int x13), (0, .ref v0), (1, .int v1)]) E 3 dX6_tries_60 rfl rfl (by decide) rfl ?_
    refine j_iconst (v := (0 : Int32)) E dX6_tries_63 (by decide) ?_
    refine j_istore (lv' := [(4, .int (0 : Int32)), (2, .int (v2 + (1 : Int32))), (3, .int x13), (0, .ref v0), (1, .int v1)]) E dX6_tries_64 (by decide) rfl ?_
    exact j_sub [3, 4, 1, 2, 0] rfl (wX6_tries_L66 E ih _ _ _ h)
def mX6_tries_L2 (fu : Nat)  (v0 : Nat) (v1 : Int32) : Nat → Int32 → jM → Option (Int32 × jM)
  | 0, _, _ => none
  | n + 1, v2, f =>
    if (120 : Int32) ≤ v2 then (
    (wrV 6 f v0 22 (.int (0 : Int32))).bind fun f2 =>
    (chk 6 f2 v0).bind fun _ =>
    (mX6_grays f2 v0 v1).bind fun f4 =>
    mX6_tries_L33 fu v0 v1 fu (0 : Int32) f4) else (
    (rdR 6 f v0 24).bind fun x5 =>
    (stI 1 f x5 v2 (vp_nar .boolean (0 : Int32))).bind fun f6 =>
    mX6_tries_L2 fu v0 v1 n (v2 + (1 : Int32)) f6)
set_option maxRecDepth 100000 in
set_option maxHeartbeats 4000000 in
theorem wX6_tries_L2 {c : jS} {sz : Nat} {fu : Nat}  {v0 : Nat} {v1 : Int32} {res : (Int32 × jM)} (E : jOk c cX6_tries 7 RX6 (some .int) 2 48)  : ∀ (n : Nat) (v2 : Int32) (f : jM), mX6_tries_L2 fu  v0 v1 n v2 f = some res → J c (jZ c (some (.int res.1)) res.2 sz) f sz 0 0 2 [(0, .ref v0), (1, .int v1), (2, .int v2)] [] := by
  intro n
  induction n with
  | zero => intro v2 f h; exact jn0 h
  | succ n ih =>
    intro v2 f h
    rw [mX6_tries_L2] at h
    refine j_iload_n E 2 dX6_tries_2 rfl rfl ?_
    refine j_bipush (v := (120 : Int32)) E dX6_tries_3 (by decide) ?_
    refine j_icmp_ge (tgt := 21) E dX6_tries_5 (by decide) (fun hc1 => ?_) (fun hc1 => ?_)
    · replace h := jt hc1 h
      refine j_aload_n E 0 dX6_tries_21 rfl rfl ?_
      refine j_iconst (v := (0 : Int32)) E dX6_tries_22 (by decide) ?_
      obtain ⟨f2, h2, h⟩ := jb h
      refine j_putV E gpX6_137 h2 rfl rfl dX6_tries_23 ?_
      refine j_aload_n E 0 dX6_tries_26 rfl rfl ?_
      refine j_iload_n E 1 dX6_tries_27 rfl rfl ?_
      obtain ⟨u3, h3, h⟩ := jb h
      obtain ⟨fs3, h3⟩ := chk_spec h3
      obtain ⟨f4, h4, h⟩ := jb h
      refine j_callV (As := [.int v1]) (b := v0) (rest := []) (rc := 0) (rs := 0) E (sX6_grays h4) lwX6_grays lkX6_160 imX6_grays seX6_grays rfl h3 (by decide) rfl (Nat.le_of_ble_eq_true rfl) dX6_tries_28 ?_
      refine j_iconst (v := (0 : Int32)) E dX6_tries_31 (by decide) ?_
      refine j_istore_n (lv' := [(2, .int (0 : Int32)), (0, .ref v0), (1, .int v1)]) E dX6_tries_32 rfl (by decide) rfl ?_
      exact j_sub [1, 2, 0] rfl (wX6_tries_L33 E _ _ _ h)
    replace h := jf hc1 h
    refine j_aload_n E 0 dX6_tries_8 rfl rfl ?_
    obtain ⟨x5, h5, h⟩ := jb h
    refine j_getR E gX6_75 h5 dX6_tries_9 ?_
    refine j_iload_n E 2 dX6_tries_12 rfl rfl ?_
    refine j_iconst (v := (0 : Int32)) E dX6_tries_13 (by decide) ?_
    obtain ⟨f6, h6, h⟩ := jb h
    refine j_zast E h6 dX6_tries_14 ?_
    refine j_iinc (v := (v2 + (1 : Int32))) (lv' := [(2, .int (v2 + (1 : Int32))), (0, .ref v0), (1, .int v1)]) E 2 dX6_tries_15 rfl rfl (by decide) rfl ?_
    refine j_goto (tgt := 2) E dX6_tries_18 (by decide) ?_
    exact j_sub [1, 2, 0] rfl (ih _ _ h)
def mX6_tries (fu : Nat) (f : jM) (v0 : Nat) (v1 : Int32) : Option (Int32 × jM) :=
    mX6_tries_L2 fu v0 v1 fu (0 : Int32) f
set_option maxRecDepth 100000 in
set_option maxHeartbeats 4000000 in
theorem sX6_tries {l : Launch} {D : jD} {sz : Nat} {fu : Nat} {f : jM} {v0 : Nat} {v1 : Int32} {res : (Int32 × jM)} (h : mX6_tries fu f v0 v1 = some res) : jCt l D yX6_tries cX6_tries 7 (some .int) 2 48 [.ref v0, .int v1] f sz 0 0 (some (.int res.1)) res.2 sz := by
  refine j_start (by decide +kernel) (Nat.le_of_ble_eq_true rfl) (fun c hcl hcD hcn E => ?_)
  subst hcl
  subst hcD
  replace E : jOk c cX6_tries 7 RX6 (some .int) 2 48 := E
  show J c (jZ c (some (.int res.1)) res.2 sz) f sz 0 0 0 [(0, .ref v0), (1, .int v1)] []
  unfold mX6_tries at h
  refine j_iconst (v := (0 : Int32)) E dX6_tries_0 (by decide) ?_
  refine j_istore_n (lv' := [(2, .int (0 : Int32)), (0, .ref v0), (1, .int v1)]) E dX6_tries_1 rfl (by decide) rfl ?_
  exact j_sub [1, 2, 0] rfl (wX6_tries_L2 E _ _ _ h)
def mX6_trial (fu : Nat) (f : jM) (v0 : Nat) (v1 : Int32) (v2 : Int32) : Option (Int32 × jM) :=
    (chk 6 f v0).bind fun _ =>
    (mX6_isObject f v0 v1 v2).bind fun r2 =>
    if r2.1 = 0 then (
    some ((-1 : Int32), r2.2)) else (
    (rdR 6 r2.2 v0 4).bind fun x4 =>
    (ldI 0 r2.2 x4 (((24 : Int32) * v1) + v2)).bind fun x5 =>
    if x5 = 0 then (
    some ((-1 : Int32), r2.2)) else (
    (rdI 6 r2.2 v0 13).bind fun x7 =>
    if x7 ≤ 0 then (
    (chk 6 r2.2 v0).bind fun _ =>
    (mX6_tries fu r2.2 v0 (((24 : Int32) * v1) + v2)).bind fun r10 =>
    some (r10.1, r10.2)) else (
    some ((-1 : Int32), r2.2))))
set_option maxRecDepth 100000 in
set_option maxHeartbeats 4000000 in
theorem sX6_trial {l : Launch} {D : jD} {sz : Nat} {fu : Nat} {f : jM} {v0 : Nat} {v1 : Int32} {v2 : Int32} {res : (Int32 × jM)} (h : mX6_trial fu f v0 v1 v2 = some res) : jCt l D yX6_trial cX6_trial 3 (some .int) 3 74 [.ref v0, .int v1, .int v2] f sz 0 0 (some (.int res.1)) res.2 sz := by
  refine j_start (by decide +kernel) (Nat.le_of_ble_eq_true rfl) (fun c hcl hcD hcn E => ?_)
  subst hcl
  subst hcD
  replace E : jOk c cX6_trial 3 RX6 (some .int) 3 74 := E
  show J c (jZ c (some (.int res.1)) res.2 sz) f sz 0 0 0 [(0, .ref v0), (1, .int v1), (2, .int v2)] []
  unfold mX6_trial at h
  refine j_aload_n E 0 dX6_trial_0 rfl rfl ?_
  refine j_iload_n E 1 dX6_trial_1 rfl rfl ?_
  refine j_iload_n E 2 dX6_trial_2 rfl rfl ?_
  obtain ⟨u1, h1, h⟩ := jb h
  obtain ⟨fs1, h1⟩ := chk_spec h1
  obtain ⟨r2, h2, h⟩ := jb h
  refine j_callV (As := [.int v1, .int v2]) (b := v0) (rest := []) (rc := 0) (rs := 0) E (sX6_isObject h2) lwX6_isObject lkX6_154 imX6_isObject seX6_isObject rfl h1 (by decide) rfl (Nat.le_of_ble_eq_true rfl) dX6_trial_3 ?_
  refine j_if_eq (tgt := 30) E dX6_trial_6 (by decide) (fun hc3 => ?_) (fun hc3 => ?_)
  · replace h := jt hc3 h
    refine j_iconst (v := (-1 : Int32)) E dX6_trial_30 (by decide) ?_
    cases h
    exact j_iret E dX6_trial_31
  replace h := jf hc3 h
  refine j_aload_n E 0 dX6_trial_9 rfl rfl ?_
  obtain ⟨x4, h4, h⟩ := jb h
  refine j_getR E gX6_20 h4 dX6_trial_10 ?_
  refine j_bipush (v := (24 : Int32)) E dX6_trial_13 (by decide) ?_
  refine j_iload_n E 1 dX6_trial_15 rfl rfl ?_
  refine j_imul E dX6_trial_16 ?_
  refine j_iload_n E 2 dX6_trial_17 rfl rfl ?_
  refine j_iadd E dX6_trial_18 ?_
  obtain ⟨x5, h5, h⟩ := jb h
  refine j_iald E h5 dX6_trial_19 ?_
  refine j_if_eq (tgt := 30) E dX6_trial_20 (by decide) (fun hc6 => ?_) (fun hc6 => ?_)
  · replace h := jt hc6 h
    refine j_iconst (v := (-1 : Int32)) E dX6_trial_30 (by decide) ?_
    cases h
    exact j_iret E dX6_trial_31
  replace h := jf hc6 h
  refine j_aload_n E 0 dX6_trial_23 rfl rfl ?_
  obtain ⟨x7, h7, h⟩ := jb h
  refine j_getI E gX6_110 h7 dX6_trial_24 ?_
  refine j_if_le (tgt := 32) E dX6_trial_27 (by decide) (fun hc8 => ?_) (fun hc8 => ?_)
  · replace h := jt hc8 h
    refine j_aload_n E 0 dX6_trial_32 rfl rfl ?_
    refine j_bipush (v := (24 : Int32)) E dX6_trial_33 (by decide) ?_
    refine j_iload_n E 1 dX6_trial_35 rfl rfl ?_
    refine j_imul E dX6_trial_36 ?_
    refine j_iload_n E 2 dX6_trial_37 rfl rfl ?_
    refine j_iadd E dX6_trial_38 ?_
    obtain ⟨u9, h9, h⟩ := jb h
    obtain ⟨fs9, h9⟩ := chk_spec h9
    obtain ⟨r10, h10, h⟩ := jb h
    refine j_callV (As := [.int (((24 : Int32) * v1) + v2)]) (b := v0) (rest := []) (rc := 0) (rs := 0) E (sX6_tries h10) lwX6_tries lkX6_157 imX6_tries seX6_tries rfl h9 (by decide) rfl (Nat.le_of_ble_eq_true rfl) dX6_trial_39 ?_
    cases h
    exact j_iret E dX6_trial_42
  replace h := jf hc8 h
  refine j_iconst (v := (-1 : Int32)) E dX6_trial_30 (by decide) ?_
  cases h
  exact j_iret E dX6_trial_31
