
/-! THE CLAIM OUT OF ONE WALK OF THE LAW'S BODY. Your part is whole_start (and what it stands on); all else here is the same for every law, but numbers. -/
def R_law : String := "FarHeapsLaw"
def lw_P (b : Addr) (xs : List Int32) (args : Array Value) (s : State) : Prop := args = #[.ref b] ∧ s.IntsAt b xs ∧ xs.length ≤ 2561 ∧ (Jvm.Cond.and given_1 narrow_1).before args s = true
def lw_Q (_ : Array Value) (s : State) (o : Outcome) (t : State) : Prop := o = .returned (some (.int 1)) ∧ Framed s o t [] 600000 7302250
def lw_Z (below : List Frame) (a : Array Value) (s : State) : State → Prop := fun t => ∃ o, t.status = .running ∧ Ended t below o ∧ lw_Q a s o t
/-- the law's own end, with 1 on the stack, nothing written that was there before, its room as the claim has it -/
theorem lw_ret {p : Program} {l : Launch} {e : Env} {s : State} {m : MethodId} {below : List Frame} {meth : Method} {c : Code} {b : Nat} (hx : p.tables.exec = Jvm.exec) (hb : c.code = code) (hr : meth.sig.returnType = ret) (hlocks : meth.locks = false) {pc : Nat} {H : Heap} {ls : Array Slot} (hdg : decode code pc = .ok (.ireturn, 1)) : W p l e room_1 s m #[Value.ref b] below meth c H [] 600000 7302250 (lw_Z below #[Value.ref b] s) (F0 m pc ls [.int 1]) := by
  intro T hT X
  obtain ⟨fs, hret, hrun, hended, hW, hframe⟩ := X.leave (v := some (.int 1)) (hlocks := hlocks) (fun h => by rw [hr] at h; cases h)
  have hmeth' : T.vm.method? m = some meth := X.method'
  refine ⟨T.setFrames fs, ?_, .returned (some (.int 1)), hrun, hended, rfl, ⟨_, rfl⟩, hW, hframe⟩
  jvm_step X.here [X.here.top, hx, hb, hdg, hmeth', hr, ret, narrow_b1]
  (try refine ⟨rfl, ?_⟩); (try refine ⟨rfl, ?_⟩)
  first | (intro acts; rw [hret _ acts rfl rfl rfl]) | rw [hret _ _ rfl rfl rfl]
  exact Steps.refl _
/-- what holds at the law's entry: the machine, the code, the tables' words (any of lw_tbl by 'hts w (by decide +kernel)'), the script of L ints xs at the cell b, what the Statement gives of the start (any of its parts by flat_of_before) -/
def lw_At (p : Program) (s : State) (m : MethodId) (meth : Method) (c : Code) (b L : Nat) (xs : Nat → Int32) : Prop :=
  p.tables.exec = Jvm.exec ∧ c.code = code ∧ meth.sig.returnType = ret ∧ c.maxLocals = 4 ∧ s.vm.findClass R_law = some m.cls ∧ (∀ w ∈ lw_tbl, w.before #[Value.ref b] s = true) ∧ va_X b L xs s s.heap ∧ b < s.heap.size ∧ meth.locks = false ∧ (Jvm.Cond.and given_1 narrow_1).before #[Value.ref b] s = true
/-! the law's own rows: the script (a cell that is not of our making), its end -/
abbrev jRL : Type := Int32 × Nat × Nat × Nat
def jScr (c : jS) (b L : Nat) (xs : Nat → Int32) : Prop := va_X b L xs (j_s c) (j_s c).heap ∧ b < (j_s c).heap.size ∧ ¬ j_A c b ∧ L ≤ 2561
def jLaw (c : jS) (b : Nat) : Prop := j_R c = room_1 ∧ j_a c = #[Value.ref b] ∧ j_mc c = 600000 ∧ j_ms c = 7302250 ∧ ∀ q, j_A c q → (j_s c).heap.size ≤ q
def jsl (L : Nat) (xs : Nat → Int32) (i : Int32) : Option Int32 := if i < 0 ∨ L ≤ i.toNatClampNeg then none else some (xs i.toNatClampNeg)
theorem jsl_spec {L : Nat} {xs : Nat → Int32} {i x : Int32} (h : jsl L xs i = some x) : vp_in i L ∧ x = xs i.toNatClampNeg := by
  unfold jsl at h
  split at h
  · cases h
  · next hc => exact ⟨hc, (Option.some.inj h).symm⟩
def jscr (L : Nat) (xs : Nat → Int32) : Int32 := if L = 0 then 0 else xs 0
section LW
variable {c : jS} {Q : State → Prop} {f : jM} {sz rc rs pc : Nat} {lv : List (Nat × Value)} {st : List Value} {cc : ByteArray} {nL : Nat} {own : String} {ret : Option FieldType} {fr lc b L : Nat} {xs : Nat → Int32}
theorem j_sld (E : jOk c cc nL own ret fr lc) (X : jScr c b L xs) {i x : Int32} (h : jsl L xs i = some x) (hd : decode cc pc = .ok (.iaload, 1)) (K : J c Q f sz rc rs (pc + 1) lv (.int x :: st)) : J c Q f sz rc rs pc lv (.int i :: .ref b :: st) := by
  intro H locs cells slots ls hw hc hs hl
  obtain ⟨hin, rfl⟩ := jsl_spec h
  exact va_sld E.1 E.2.1 X.1 X.2.1 X.2.2.1 hw.2.2.2 hin hd (K H locs cells slots ls hw hc hs hl)
theorem j_slen (E : jOk c cc nL own ret fr lc) (X : jScr c b L xs) (hd : decode cc pc = .ok (.arraylength, 1)) (K : J c Q f sz rc rs (pc + 1) lv (.int (Int32.ofNat L) :: st)) : J c Q f sz rc rs pc lv (.ref b :: st) := by
  intro H locs cells slots ls hw hc hs hl
  exact va_slen E.1 E.2.1 X.1 X.2.1 X.2.2.1 hw.2.2.2 hd (K H locs cells slots ls hw hc hs hl)
theorem j_lret (E : jOk c cL_law nL own (some .boolean) fr lc) (HL : jLaw c b) (hd : decode cL_law pc = .ok (.ireturn, 1)) : J c (lw_Z (j_b c) (j_a c) (j_s c)) f sz 0 0 pc lv [.int 1] := by
  intro H locs cells slots ls hw hc hs hl
  obtain ⟨⟨p, l, e, R, s, m, a, bl, me, co⟩, D, A, n, mc, ms⟩ := c
  obtain ⟨h1, h2, h3, h4, h5⟩ := HL
  dsimp only [j_R, j_a, j_mc, j_ms] at h1 h2 h3 h4
  subst h1; subst h2; subst h3; subst h4
  refine va_forget (fun q hq => h5 _ (hw.2.2.2.2.2 q hq)) ?_
  refine W.widen (k := 600000) (n := 7302250) (by simpa using hc) (by simpa using hs) ?_
  exact lw_ret E.1 E.2.1 E.2.2.2.2.2.2.2.1 E.2.2.2.2.2.2.2.2.1 hd
/-- FarHeapsLaw.cell(script, 0) -/
theorem sL_cell {l : Launch} {D : jD} {f : jM} {sz b L : Nat} {xs : Nat → Int32} (hL : L ≤ 2561) : Met l yL_cell (Cond.code yL_cell cL_cell 2 (some .int) :: jAC) { frames := 0, cells := 0, slots := 0, locals := 0 } (fun a U => jPc D [.ref b, .int 0] f sz a U ∧ va_X b L xs U U.heap ∧ f b = none ∧ b < sz) (jQc D (jA f sz) (some (.int (jscr L xs))) f sz) 0 0 (jA f sz) := by
  refine Met.ofW (cc := cL_cell) (maxL := 2) (ret := (some .int)) (by decide +kernel) rfl ?_
  intro p e s m args below meth co s₁ B hml hv
  obtain ⟨⟨rfl, hsz, hP, hK⟩, hX, hfb, hbs⟩ := hv
  have hts := atoms_spec (ws := Cond.code yL_cell cL_cell 2 (some .int) :: jAC) B.pre
  have hown : s.vm.findClass RL = some m.cls := findClass_of_methodNamed B.named
  have hl := lv_entry ([.ref b, .int 0]) (n := 2) (Nat.le_of_ble_eq_true rfl)
  rw [lg_entry_eq]
  have key : ∀ c : jS, c = ((p, l, e, { frames := 0, cells := 0, slots := 0, locals := 0 }, s, m, ([.ref b, .int 0] : List Value).toArray, below, meth, co), D, jA f sz, 2, 0, 0) → J c (jZ c (some (.int (jscr L xs))) f sz) f sz 0 0 0 [(0, .ref b), (1, .int 0)] [] := by
    intro c hc
    have E : jOk c cL_cell 2 RL (some .int) 0 0 := by
      subst hc
      exact ⟨B.exec, B.bytes, ⟨hml, rfl⟩, hown, hK, fun q h => Or.inr (by rw [← hsz]; exact h), ⟨Nat.le_refl _, Nat.le_refl _, Nat.le_refl _, Nat.le_refl _⟩, B.returns, B.notSynchronized, fun w h => hts w (List.mem_cons_of_mem _ h)⟩
    have X : jScr c b L xs := by
      subst hc
      exact ⟨hX, by show b < s.heap.size; omega, fun q => q.elim (fun q => q hfb) (fun q => by omega), hL⟩
    refine j_iload_n E 1 dL_cell_0 rfl rfl ?_
    refine j_aload_n E 0 dL_cell_1 rfl rfl ?_
    refine j_slen E X dL_cell_2 ?_
    refine j_icmp_ge (tgt := 12) E dL_cell_3 (by decide) (fun hc1 => ?_) (fun hc1 => ?_)
    · have h0 : L = 0 := by
        rcases Nat.eq_zero_or_pos L with h | h
        · exact h
        · exact absurd hc1 (nI_nle h (by omega))
      have hr : jscr L xs = 0 := by rw [jscr, if_pos h0]
      rw [hr]
      refine j_iconst (v := 0) E dL_cell_12 (by decide) ?_
      exact j_iret E dL_cell_13
    · have h0 : 0 < L := by
        rcases Nat.eq_zero_or_pos L with h | h
        · subst h; exact absurd (by decide) hc1
        · exact h
      have hr : jscr L xs = xs 0 := by rw [jscr, if_neg (by omega)]
      rw [hr]
      refine j_aload_n E 0 dL_cell_6 rfl rfl ?_
      refine j_iload_n E 1 dL_cell_7 rfl rfl ?_
      refine j_sld E X (x := xs 0) ?_ dL_cell_8 ?_
      · rw [jsl, if_neg (by show ¬ ((0 : Int32) < 0 ∨ L ≤ 0); rintro (q | q); exact absurd q (by decide); omega)]
        rfl
      refine j_goto (tgt := 13) E dL_cell_9 (by decide) ?_
      exact j_iret E dL_cell_13
  exact key _ rfl s.heap [] 0 0 _ ⟨hP, hsz, fun a h => Or.inl h, va_S.rf⟩ (Nat.le_refl _) (Nat.le_refl _) hl
theorem j_scell (E : jOk c cL_law 4 RL ret fr lc) (X : jScr c b L xs) {rest : List Value} (hrm : 0 + 1 ≤ fr ∧ 8 + (2 + 11) + 0 ≤ lc) (hcat : (rest.map fun v => v.category).sum ≤ 8) (hd : decode cL_law pc = .ok (.invokestatic 9, 3)) (K : J c Q f sz rc rs (pc + 3) lv (.int (jscr L xs) :: rest)) : J c Q f sz rc rs pc lv (.int 0 :: .ref b :: rest) := by
  refine j_less (rc' := 0 + rc) (rs' := 0 + rs) (by omega) (by omega) ?_
  refine j_run E (r := some (.int (jscr L xs))) (rest := rest) (a := ([.ref b, .int 0] : List Value).toArray) (fun H locs cells slots ls hw hc hs hl => ?_) K
  obtain ⟨hcw, hini, hy1, hy2, hdl⟩ := lwL_cell
  obtain ⟨r1, r2, r3, r4⟩ := E.2.2.2.2.2.2.1
  have hlen : ∀ sig, parseMethodDescriptor yL_cell.desc = some sig → 2 = sig.parameters.length := fun sig h => by rw [h] at hdl; exact (Option.some.inj hdl).symm
  have hS := hw.2.2.2
  have hfb : f b = none := by
    rcases h : f b with _ | q
    · rfl
    · exact absurd (hw.2.2.1 b (by rw [h]; exact fun q => by cases q)) X.2.2.1
  have hbs : b < sz := by have := X.2.1; have := hS.1; have := hw.2.1; omega
  have hp : PreS (j_s c) H (fun a U => jPc (j_D c) [.ref b, .int 0] f sz a U ∧ va_X b L xs U U.heap ∧ f b = none ∧ b < sz) [.ref b, .int 0] :=
    ⟨fun a U g mk h => ⟨jPc.blind a U g mk h.1, va_X.moved (u := U) (U := U.calling g mk a) (Vm.Alike.refl U.vm) h.2.1, h.2.2⟩, fun U hU hW => ⟨⟨rfl, by rw [hU]; exact hw.2.1, by rw [hU]; exact hw.1, E.K.warm hW⟩, (X.1.kept (by rw [hU]; exact hS.2.1 b X.2.1 X.2.2.1)).moved hW.alike, hfb, hbs⟩⟩
  have hfix : CallFix (j_p c) (j_m c) (j_c c) cL_law 4 (j_s c) (j_a c) [] RL := ⟨E.1, E.2.1, E.2.2.1.1, E.own, fun w h => by cases h⟩
  rcases lkL_9 with hl1 | ⟨host, hl1⟩
  · exact va_runS hfix (sL_cell X.2.2.2) ⟨⟨rfl, rfl, by show 0 + 1 ≤ _; omega, by show 8 + (2 + 11) + 0 ≤ _; omega, fun w hw0 a' U hW => j_warm E hcw hw0 a' U hW, List.mem_cons_self, E.K.use hcw, E.K.use hini, ⟨hy1, hy2⟩, hlen, E.K.use hl1⟩, E.K.use stL_cell⟩ hp rfl rfl (by rw [← E.2.2.1.2]; exact hl.1) rfl (lv_room hcat) hd ⟨by omega, by omega⟩
  · exact va_runSN hfix (sL_cell X.2.2.2) ⟨⟨⟨rfl, rfl, by show 0 + 1 ≤ _; omega, by show 8 + (2 + 11) + 0 ≤ _; omega, fun w hw0 a' U hW => j_warm E hcw hw0 a' U hW, List.mem_cons_self⟩, E.K.use hcw, E.K.use hini, ⟨hy1, hy2⟩, hlen, E.K.use hl1⟩, E.K.use stL_cell, trivial⟩ hp rfl rfl (by rw [← E.2.2.1.2]; exact hl.1) rfl (lv_room hcat) hd ⟨by omega, by omega⟩
end LW
def mL_law_L28 (fu L : Nat) (xs : Nat → Int32) (v1 : Nat) (v2 : Nat) : Nat → Int32 → jM → Nat → Option jRL
  | 0, _, _, _ => none
  | n + 1, v3, f, sz =>
    if ((Int32.ofNat L) - (5 : Int32)) < v3 then (
    some ((1 : Int32), sz, 0, 0)) else (
    (jsl L xs v3).bind fun x2 =>
    if (x2 &&& (31 : Int32)) = (0 : Int32) then (
    (jsl L xs (v3 + (1 : Int32))).bind fun x4 =>
    (jsl L xs (v3 + (2 : Int32))).bind fun x5 =>
    (jsl L xs (v3 + (3 : Int32))).bind fun x6 =>
    (chk 5 f v1).bind fun _ =>
    (mX5_make fu f v1 x4 x5 x6).bind fun r8 =>
    (jsl L xs (v3 + (1 : Int32))).bind fun x9 =>
    (jsl L xs (v3 + (2 : Int32))).bind fun x10 =>
    (jsl L xs (v3 + (3 : Int32))).bind fun x11 =>
    (chk 6 r8.2 v2).bind fun _ =>
    (mX6_make fu r8.2 v2 x9 x10 x11).bind fun r13 =>
    if r8.1 = r13.1 then (
    mL_law_L28 fu L xs v1 v2 n (v3 + (5 : Int32)) r13.2 sz) else (
    some ((0 : Int32), sz, 0, 0))) else (if (x2 &&& (31 : Int32)) = (1 : Int32) then (
    (jsl L xs (v3 + (1 : Int32))).bind fun x16 =>
    (jsl L xs (v3 + (2 : Int32))).bind fun x17 =>
    (jsl L xs (v3 + (3 : Int32))).bind fun x18 =>
    (jsl L xs (v3 + (4 : Int32))).bind fun x19 =>
    (chk 5 f v1).bind fun _ =>
    (mX5_set f v1 x16 x17 x18 x19).bind fun r21 =>
    (jsl L xs (v3 + (1 : Int32))).bind fun x22 =>
    (jsl L xs (v3 + (2 : Int32))).bind fun x23 =>
    (jsl L xs (v3 + (3 : Int32))).bind fun x24 =>
    (jsl L xs (v3 + (4 : Int32))).bind fun x25 =>
    (chk 6 r21.2 v2).bind fun _ =>
    (mX6_set r21.2 v2 x22 x23 x24 x25).bind fun r27 =>
    if r21.1 = r27.1 then (
    mL_law_L28 fu L xs v1 v2 n (v3 + (5 : Int32)) r27.2 sz) else (
    some ((0 : Int32), sz, 0, 0))) else (if (x2 &&& (31 : Int32)) = (2 : Int32) then (
    (jsl L xs (v3 + (1 : Int32))).bind fun x30 =>
    (jsl L xs (v3 + (2 : Int32))).bind fun x31 =>
    (jsl L xs (v3 + (3 : Int32))).bind fun x32 =>
    (jsl L xs (v3 + (4 : Int32))).bind fun x33 =>
    (chk 5 f v1).bind fun _ =>
    (mX5_get f v1 x30 x31 x32 x33).bind fun r35 =>
    (jsl L xs (v3 + (1 : Int32))).bind fun x36 =>
    (jsl L xs (v3 + (2 : Int32))).bind fun x37 =>
    (jsl L xs (v3 + (3 : Int32))).bind fun x38 =>
    (jsl L xs (v3 + (4 : Int32))).bind fun x39 =>
    (chk 6 r35.2 v2).bind fun _ =>
    (mX6_get r35.2 v2 x36 x37 x38 x39).bind fun r41 =>
    if r35.1 = r41.1 then (
    mL_law_L28 fu L xs v1 v2 n (v3 + (5 : Int32)) r41.2 sz) else (
    some ((0 : Int32), sz, 0, 0))) else (if (x2 &&& (31 : Int32)) = (3 : Int32) then (
    (jsl L xs (v3 + (1 : Int32))).bind fun x44 =>
    (jsl L xs (v3 + (2 : Int32))).bind fun x45 =>
    (jsl L xs (v3 + (3 : Int32))).bind fun x46 =>
    (chk 5 f v1).bind fun _ =>
    (mX5_number f v1 x44 x45 x46).bind fun r48 =>
    (jsl L xs (v3 + (1 : Int32))).bind fun x49 =>
    (jsl L xs (v3 + (2 : Int32))).bind fun x50 =>
    (jsl L xs (v3 + (3 : Int32))).bind fun x51 =>
    (chk 6 r48.2 v2).bind fun _ =>
    (mX6_number r48.2 v2 x49 x50 x51).bind fun r53 =>
    if r48.1 = r53.1 then (
    mL_law_L28 fu L xs v1 v2 n (v3 + (5 : Int32)) r53.2 sz) else (
    some ((0 : Int32), sz, 0, 0))) else (if (x2 &&& (31 : Int32)) = (4 : Int32) then (
    (jsl L xs (v3 + (1 : Int32))).bind fun x56 =>
    (jsl L xs (v3 + (2 : Int32))).bind fun x57 =>
    (chk 5 f v1).bind fun _ =>
    (mX5_drop f v1 x56 x57).bind fun r59 =>
    (jsl L xs (v3 + (1 : Int32))).bind fun x60 =>
    (jsl L xs (v3 + (2 : Int32))).bind fun x61 =>
    (chk 6 r59.2 v2).bind fun _ =>
    (mX6_drop r59.2 v2 x60 x61).bind fun r63 =>
    if r59.1 = r63.1 then (
    mL_law_L28 fu L xs v1 v2 n (v3 + (5 : Int32)) r63.2 sz) else (
    some ((0 : Int32), sz, 0, 0))) else (if (x2 &&& (31 : Int32)) = (5 : Int32) then (
    (jsl L xs (v3 + (1 : Int32))).bind fun x66 =>
    (jsl L xs (v3 + (2 : Int32))).bind fun x67 =>
    (jsl L xs (v3 + (3 : Int32))).bind fun x68 =>
    (jsl L xs (v3 + (4 : Int32))).bind fun x69 =>
    (chk 5 f v1).bind fun _ =>
    (mX5_send f v1 x66 x67 x68 x69).bind fun r71 =>
    (jsl L xs (v3 + (1 : Int32))).bind fun x72 =>
    (jsl L xs (v3 + (2 : Int32))).bind fun x73 =>
    (jsl L xs (v3 + (3 : Int32))).bind fun x74 =>
    (jsl L xs (v3 + (4 : Int32))).bind fun x75 =>
    (chk 6 r71.2 v2).bind fun _ =>
    (mX6_send r71.2 v2 x72 x73 x74 x75).bind fun r77 =>
    if r71.1 = r77.1 then (
    mL_law_L28 fu L xs v1 v2 n (v3 + (5 : Int32)) r77.2 sz) else (
    some ((0 : Int32), sz, 0, 0))) else (if (x2 &&& (31 : Int32)) = (6 : Int32) then (
    (jsl L xs (v3 + (1 : Int32))).bind fun x80 =>
    (jsl L xs (v3 + (2 : Int32))).bind fun x81 =>
    (chk 5 f v1).bind fun _ =>
    (mX5_ask f v1 x80 x81).bind fun r83 =>
    (jsl L xs (v3 + (1 : Int32))).bind fun x84 =>
    (jsl L xs (v3 + (2 : Int32))).bind fun x85 =>
    (chk 6 r83.2 v2).bind fun _ =>
    (mX6_ask r83.2 v2 x84 x85).bind fun r87 =>
    if r83.1 = r87.1 then (
    mL_law_L28 fu L xs v1 v2 n (v3 + (5 : Int32)) r87.2 sz) else (
    some ((0 : Int32), sz, 0, 0))) else (if (x2 &&& (31 : Int32)) = (7 : Int32) then (
    (jsl L xs (v3 + (1 : Int32))).bind fun x90 =>
    (jsl L xs (v3 + (2 : Int32))).bind fun x91 =>
    (chk 5 f v1).bind fun _ =>
    (mX5_come fu f v1 x90 x91).bind fun r93 =>
    (jsl L xs (v3 + (1 : Int32))).bind fun x94 =>
    (jsl L xs (v3 + (2 : Int32))).bind fun x95 =>
    (chk 6 r93.2 v2).bind fun _ =>
    (mX6_come fu r93.2 v2 x94 x95).bind fun r97 =>
    if r93.1 = r97.1 then (
    mL_law_L28 fu L xs v1 v2 n (v3 + (5 : Int32)) r97.2 sz) else (
    some ((0 : Int32), sz, 0, 0))) else (if (x2 &&& (31 : Int32)) = (8 : Int32) then (
    (jsl L xs (v3 + (1 : Int32))).bind fun x100 =>
    (chk 5 f v1).bind fun _ =>
    (mX5_drain fu f v1 x100).bind fun r102 =>
    (jsl L xs (v3 + (1 : Int32))).bind fun x103 =>
    (chk 6 r102.2 v2).bind fun _ =>
    (mX6_drain fu r102.2 v2 x103).bind fun r105 =>
    if r102.1 = r105.1 then (
    mL_law_L28 fu L xs v1 v2 n (v3 + (5 : Int32)) r105.2 sz) else (
    some ((0 : Int32), sz, 0, 0))) else (if (x2 &&& (31 : Int32)) = (9 : Int32) then (
    (jsl L xs (v3 + (1 : Int32))).bind fun x108 =>
    (chk 5 f v1).bind fun _ =>
    (mX5_collect fu f v1 x108).bind fun r110 =>
    (jsl L xs (v3 + (1 : Int32))).bind fun x111 =>
    (chk 6 r110.2 v2).bind fun _ =>
    (mX6_collect fu r110.2 v2 x111).bind fun r113 =>
    if r110.1 = r113.1 then (
    mL_law_L28 fu L xs v1 v2 n (v3 + (5 : Int32)) r113.2 sz) else (
    some ((0 : Int32), sz, 0, 0))) else (if (x2 &&& (31 : Int32)) = (10 : Int32) then (
    (jsl L xs (v3 + (1 : Int32))).bind fun x116 =>
    (jsl L xs (v3 + (2 : Int32))).bind fun x117 =>
    (chk 5 f v1).bind fun _ =>
    (mX5_trial fu f v1 x116 x117).bind fun r119 =>
    (jsl L xs (v3 + (1 : Int32))).bind fun x120 =>
    (jsl L xs (v3 + (2 : Int32))).bind fun x121 =>
    (chk 6 r119.2 v2).bind fun _ =>
    (mX6_trial fu r119.2 v2 x120 x121).bind fun r123 =>
    if r119.1 = r123.1 then (
    mL_law_L28 fu L xs v1 v2 n (v3 + (5 : Int32)) r123.2 sz) else (
    some ((0 : Int32), sz, 0, 0))) else (if (x2 &&& (31 : Int32)) = (11 : Int32) then (
    (chk 5 f v1).bind fun _ =>
    (mX5_settle fu f v1).bind fun r127 =>
    (chk 6 r127.2 v2).bind fun _ =>
    (mX6_settle fu r127.2 v2).bind fun r129 =>
    if r127.1 = r129.1 then (
    mL_law_L28 fu L xs v1 v2 n (v3 + (5 : Int32)) r129.2 sz) else (
    some ((0 : Int32), sz, 0, 0))) else (if (x2 &&& (31 : Int32)) = (12 : Int32) then (
    (chk 5 f v1).bind fun _ =>
    (mX5_pass fu f v1).bind fun r133 =>
    (chk 6 r133.2 v2).bind fun _ =>
    (mX6_pass fu r133.2 v2).bind fun r135 =>
    if r133.1 = r135.1 then (
    mL_law_L28 fu L xs v1 v2 n (v3 + (5 : Int32)) r135.2 sz) else (
    some ((0 : Int32), sz, 0, 0))) else (if (x2 &&& (31 : Int32)) = (13 : Int32) then (
    (jsl L xs (v3 + (1 : Int32))).bind fun x138 =>
    (jsl L xs (v3 + (2 : Int32))).bind fun x139 =>
    (jsl L xs (v3 + (3 : Int32))).bind fun x140 =>
    (chk 5 f v1).bind fun _ =>
    (mX5_register f v1 x138 x139 x140).bind fun r142 =>
    (jsl L xs (v3 + (1 : Int32))).bind fun x143 =>
    (jsl L xs (v3 + (2 : Int32))).bind fun x144 =>
    (jsl L xs (v3 + (3 : Int32))).bind fun x145 =>
    (chk 6 r142.2 v2).bind fun _ =>
    (mX6_register r142.2 v2 x143 x144 x145).bind fun r147 =>
    if r142.1 = r147.1 then (
    mL_law_L28 fu L xs v1 v2 n (v3 + (5 : Int32)) r147.2 sz) else (
    some ((0 : Int32), sz, 0, 0))) else (if (x2 &&& (31 : Int32)) = (14 : Int32) then (
    (jsl L xs (v3 + (1 : Int32))).bind fun x150 =>
    (jsl L xs (v3 + (2 : Int32))).bind fun x151 =>
    (jsl L xs (v3 + (3 : Int32))).bind fun x152 =>
    (jsl L xs (v3 + (4 : Int32))).bind fun x153 =>
    (chk 5 f v1).bind fun _ =>
    (mX5_field f v1 x150 x151 x152 x153).bind fun r155 =>
    (jsl L xs (v3 + (1 : Int32))).bind fun x156 =>
    (jsl L xs (v3 + (2 : Int32))).bind fun x157 =>
    (jsl L xs (v3 + (3 : Int32))).bind fun x158 =>
    (jsl L xs (v3 + (4 : Int32))).bind fun x159 =>
    (chk 6 r155.2 v2).bind fun _ =>
    (mX6_field r155.2 v2 x156 x157 x158 x159).bind fun r161 =>
    if r155.1 = r161.1 then (
    mL_law_L28 fu L xs v1 v2 n (v3 + (5 : Int32)) r161.2 sz) else (
    some ((0 : Int32), sz, 0, 0))) else (if (x2 &&& (31 : Int32)) = (15 : Int32) then (
    (jsl L xs (v3 + (1 : Int32))).bind fun x164 =>
    (jsl L xs (v3 + (2 : Int32))).bind fun x165 =>
    (jsl L xs (v3 + (3 : Int32))).bind fun x166 =>
    (chk 5 f v1).bind fun _ =>
    (mX5_cell fu f v1 x164 x165 x166).bind fun r168 =>
    (jsl L xs (v3 + (1 : Int32))).bind fun x169 =>
    (jsl L xs (v3 + (2 : Int32))).bind fun x170 =>
    (jsl L xs (v3 + (3 : Int32))).bind fun x171 =>
    (chk 6 r168.2 v2).bind fun _ =>
    (mX6_cell fu r168.2 v2 x169 x170 x171).bind fun r173 =>
    if r168.1 = r173.1 then (
    mL_law_L28 fu L xs v1 v2 n (v3 + (5 : Int32)) r173.2 sz) else (
    some ((0 : Int32), sz, 0, 0))) else (if (x2 &&& (31 : Int32)) = (16 : Int32) then (
    (jsl L xs (v3 + (1 : Int32))).bind fun x176 =>
    (jsl L xs (v3 + (2 : Int32))).bind fun x177 =>
    (jsl L xs (v3 + (3 : Int32))).bind fun x178 =>
    (chk 5 f v1).bind fun _ =>
    (mX5_object fu f v1 x176 x177 x178).bind fun r180 =>
    (jsl L xs (v3 + (1 : Int32))).bind fun x181 =>
    (jsl L xs (v3 + (2 : Int32))).bind fun x182 =>
    (jsl L xs (v3 + (3 : Int32))).bind fun x183 =>
    (chk 6 r180.2 v2).bind fun _ =>
    (mX6_object fu r180.2 v2 x181 x182 x183).bind fun r185 =>
    if r180.1 = r185.1 then (
    mL_law_L28 fu L xs v1 v2 n (v3 + (5 : Int32)) r185.2 sz) else (
    some ((0 : Int32), sz, 0, 0))) else (if (x2 &&& (31 : Int32)) = (17 : Int32) then (
    (jsl L xs (v3 + (1 : Int32))).bind fun x188 =>
    (jsl L xs (v3 + (2 : Int32))).bind fun x189 =>
    (jsl L xs (v3 + (3 : Int32))).bind fun x190 =>
    (chk 5 f v1).bind fun _ =>
    (mX5_weight f v1 x188 x189 x190).bind fun r192 =>
    (jsl L xs (v3 + (1 : Int32))).bind fun x193 =>
    (jsl L xs (v3 + (2 : Int32))).bind fun x194 =>
    (jsl L xs (v3 + (3 : Int32))).bind fun x195 =>
    (chk 6 r192.2 v2).bind fun _ =>
    (mX6_weight r192.2 v2 x193 x194 x195).bind fun r197 =>
    if r192.1 = r197.1 then (
    mL_law_L28 fu L xs v1 v2 n (v3 + (5 : Int32)) r197.2 sz) else (
    some ((0 : Int32), sz, 0, 0))) else (if (x2 &&& (31 : Int32)) = (18 : Int32) then (
    (jsl L xs (v3 + (1 : Int32))).bind fun x200 =>
    (jsl L xs (v3 + (2 : Int32))).bind fun x201 =>
    (jsl L xs (v3 + (3 : Int32))).bind fun x202 =>
    (jsl L xs (v3 + (4 : Int32))).bind fun x203 =>
    (chk 5 f v1).bind fun _ =>
    (mX5_message fu f v1 x200 x201 x202 x203).bind fun r205 =>
    (jsl L xs (v3 + (1 : Int32))).bind fun x206 =>
    (jsl L xs (v3 + (2 : Int32))).bind fun x207 =>
    (jsl L xs (v3 + (3 : Int32))).bind fun x208 =>
    (jsl L xs (v3 + (4 : Int32))).bind fun x209 =>
    (chk 6 r205.2 v2).bind fun _ =>
    (mX6_message fu r205.2 v2 x206 x207 x208 x209).bind fun r211 =>
    if r205.1 = r211.1 then (
    mL_law_L28 fu L xs v1 v2 n (v3 + (5 : Int32)) r211.2 sz) else (
    some ((0 : Int32), sz, 0, 0))) else (if (x2 &&& (31 : Int32)) = (19 : Int32) then (
    (jsl L xs (v3 + (1 : Int32))).bind fun x214 =>
    (jsl L xs (v3 + (2 : Int32))).bind fun x215 =>
    (chk 5 f v1).bind fun _ =>
    (mX5_count fu f v1 x214 x215).bind fun r217 =>
    (jsl L xs (v3 + (1 : Int32))).bind fun x218 =>
    (jsl L xs (v3 + (2 : Int32))).bind fun x219 =>
    (chk 6 r217.2 v2).bind fun _ =>
    (mX6_count fu r217.2 v2 x218 x219).bind fun r221 =>
    if r217.1 = r221.1 then (
    mL_law_L28 fu L xs v1 v2 n (v3 + (5 : Int32)) r221.2 sz) else (
    some ((0 : Int32), sz, 0, 0))) else (if (x2 &&& (31 : Int32)) = (20 : Int32) then (
    (chk 5 f v1).bind fun _ =>
    (mX5_isEven fu f v1).bind fun r225 =>
    (chk 6 r225.2 v2).bind fun _ =>
    (mX6_isEven fu r225.2 v2).bind fun r227 =>
    if r225.1 = r227.1 then (
    mL_law_L28 fu L xs v1 v2 n (v3 + (5 : Int32)) r227.2 sz) else (
    some ((0 : Int32), sz, 0, 0))) else (
    mL_law_L28 fu L xs v1 v2 n (v3 + (5 : Int32)) f sz))))))))))))))))))))))
set_option maxRecDepth 100000 in
set_option maxHeartbeats 8000000 in
theorem wL_law_L28 {c : jS} {fu b L : Nat} {xs : Nat → Int32} {v1 : Nat} {v2 : Nat} (E : jOk c cL_law 4 RL (some .boolean) 8 193) (X : jScr c b L xs) (HL : jLaw c b) : ∀ (n : Nat) (v3 : Int32) (f : jM) (sz : Nat) (res : jRL), mL_law_L28 fu L xs v1 v2 n v3 f sz = some res → res.1 = 1 → J c (lw_Z (j_b c) (j_a c) (j_s c)) f sz res.2.2.1 res.2.2.2 28 [(0, .ref b), (1, .ref v1), (2, .ref v2), (3, .int v3)] [] := by
  intro n
  induction n with
  | zero => intro v3 f sz res h; exact jn0 h
  | succ n ih =>
    intro v3 f sz res h hr1
    rw [mL_law_L28] at h
    refine j_iload_n E 3 dL_law_28 rfl rfl ?_
    refine j_aload_n E 0 dL_law_29 rfl rfl ?_
    refine j_slen E X dL_law_30 ?_
    refine j_iconst (v := (5 : Int32)) E dL_law_31 (by decide) ?_
    refine j_isub E dL_law_32 ?_
    refine j_icmp_gt (tgt := 919) E dL_law_33 (by decide) (fun hc1 => ?_) (fun hc1 => ?_)
    · replace h := jt hc1 h
      refine j_iconst (v := (1 : Int32)) E dL_law_919 (by decide) ?_
      cases h
      exact j_lret E HL dL_law_920
    replace h := jf hc1 h
    refine j_aload_n E 0 dL_law_36 rfl rfl ?_
    refine j_iload_n E 3 dL_law_37 rfl rfl ?_
    obtain ⟨x2, h2, h⟩ := jb h
    refine j_sld E X h2 dL_law_38 ?_
    refine j_bipush (v := (31 : Int32)) E dL_law_39 (by decide) ?_
    refine j_iand E dL_law_41 ?_
    by_cases hc3 : (x2 &&& (31 : Int32)) = (0 : Int32)
    · replace h := jt hc3 h
      refine j_tableIn (off := 98) (tgt := 140) E dL_law_42 (by rw [hc3]; decide) (by rw [hc3]; decide) (by rw [hc3]; rfl) (by decide) ?_
      refine j_aload_n E 1 dL_law_140 rfl rfl ?_
      refine j_aload_n E 0 dL_law_141 rfl rfl ?_
      refine j_iload_n E 3 dL_law_142 rfl rfl ?_
      refine j_iconst (v := (1 : Int32)) E dL_law_143 (by decide) ?_
      refine j_iadd E dL_law_144 ?_
      obtain ⟨x4, h4, h⟩ := jb h
      refine j_sld E X h4 dL_law_145 ?_
      refine j_aload_n E 0 dL_law_146 rfl rfl ?_
      refine j_iload_n E 3 dL_law_147 rfl rfl ?_
      refine j_iconst (v := (2 : Int32)) E dL_law_148 (by decide) ?_
      refine j_iadd E dL_law_149 ?_
      obtain ⟨x5, h5, h⟩ := jb h
      refine j_sld E X h5 dL_law_150 ?_
      refine j_aload_n E 0 dL_law_151 rfl rfl ?_
      refine j_iload_n E 3 dL_law_152 rfl rfl ?_
      refine j_iconst (v := (3 : Int32)) E dL_law_153 (by decide) ?_
      refine j_iadd E dL_law_154 ?_
      obtain ⟨x6, h6, h⟩ := jb h
      refine j_sld E X h6 dL_law_155 ?_
      obtain ⟨u7, h7, h⟩ := jb h
      obtain ⟨fs7, h7⟩ := chk_spec h7
      obtain ⟨r8, h8, h⟩ := jb h
      refine j_less (Nat.le_of_eq (Nat.zero_add _)) (Nat.le_of_eq (Nat.zero_add _)) ?_
      refine j_callV (As := [.int x4, .int x5, .int x6]) (b := v1) (rest := []) (mc1 := 0) (ms1 := 0) E (sX5_make h8) lwX5_make lkL_21 imX5_make seX5_make rfl h7 (by decide) rfl (Nat.le_of_ble_eq_true rfl) dL_law_156 ?_
      refine j_aload_n E 2 dL_law_159 rfl rfl ?_
      refine j_aload_n E 0 dL_law_160 rfl rfl ?_
      refine j_iload_n E 3 dL_law_161 rfl rfl ?_
      refine j_iconst (v := (1 : Int32)) E dL_law_162 (by decide) ?_
      refine j_iadd E dL_law_163 ?_
      obtain ⟨x9, h9, h⟩ := jb h
      refine j_sld E X h9 dL_law_164 ?_
      refine j_aload_n E 0 dL_law_165 rfl rfl ?_
      refine j_iload_n E 3 dL_law_166 rfl rfl ?_
      refine j_iconst (v := (2 : Int32)) E dL_law_167 (by decide) ?_
      refine j_iadd E dL_law_168 ?_
      obtain ⟨x10, h10, h⟩ := jb h
      refine j_sld E X h10 dL_law_169 ?_
      refine j_aload_n E 0 dL_law_170 rfl rfl ?_
      refine j_iload_n E 3 dL_law_171 rfl rfl ?_
      refine j_iconst (v := (3 : Int32)) E dL_law_172 (by decide) ?_
      refine j_iadd E dL_law_173 ?_
      obtain ⟨x11, h11, h⟩ := jb h
      refine j_sld E X h11 dL_law_174 ?_
      obtain ⟨u12, h12, h⟩ := jb h
      obtain ⟨fs12, h12⟩ := chk_spec h12
      obtain ⟨r13, h13, h⟩ := jb h
      refine j_less (Nat.le_of_eq (Nat.zero_add _)) (Nat.le_of_eq (Nat.zero_add _)) ?_
      refine j_callV (As := [.int x9, .int x10, .int x11]) (b := v2) (rest := [.int r8.1]) (mc1 := 0) (ms1 := 0) E (sX6_make h13) lwX6_make lkL_25 imX6_make seX6_make rfl h12 (by decide) rfl (Nat.le_of_ble_eq_true rfl) dL_law_175 ?_
      refine j_icmp_eq (tgt := 913) E dL_law_178 (by decide) (fun hc14 => ?_) (fun hc14 => ?_)
      · replace h := jt hc14 h
        refine j_iinc (v := (v3 + (5 : Int32))) (lv' := [(3, .int (v3 + (5 : Int32))), (0, .ref b), (1, .ref v1), (2, .ref v2)]) E 3 dL_law_913 rfl rfl (by decide) rfl ?_
        refine j_goto (tgt := 28) E dL_law_916 (by decide) ?_
        exact j_sub [1, 2, 3, 0] rfl (ih _ _ _ _ h hr1)
      replace h := jf hc14 h
      refine j_iconst (v := (0 : Int32)) E dL_law_181 (by decide) ?_
      cases h
      exact absurd hr1 (by show ¬ (0 : Int32) = 1; decide)
    replace h := jf hc3 h
    by_cases hc15 : (x2 &&& (31 : Int32)) = (1 : Int32)
    · replace h := jt hc15 h
      refine j_tableIn (off := 141) (tgt := 183) E dL_law_42 (by rw [hc15]; decide) (by rw [hc15]; decide) (by rw [hc15]; rfl) (by decide) ?_
      refine j_aload_n E 1 dL_law_183 rfl rfl ?_
      refine j_aload_n E 0 dL_law_184 rfl rfl ?_
      refine j_iload_n E 3 dL_law_185 rfl rfl ?_
      refine j_iconst (v := (1 : Int32)) E dL_law_186 (by decide) ?_
      refine j_iadd E dL_law_187 ?_
      obtain ⟨x16, h16, h⟩ := jb h
      refine j_sld E X h16 dL_law_188 ?_
      refine j_aload_n E 0 dL_law_189 rfl rfl ?_
      refine j_iload_n E 3 dL_law_190 rfl rfl ?_
      refine j_iconst (v := (2 : Int32)) E dL_law_191 (by decide) ?_
      refine j_iadd E dL_law_192 ?_
      obtain ⟨x17, h17, h⟩ := jb h
      refine j_sld E X h17 dL_law_193 ?_
      refine j_aload_n E 0 dL_law_194 rfl rfl ?_
      refine j_iload_n E 3 dL_law_195 rfl rfl ?_
      refine j_iconst (v := (3 : Int32)) E dL_law_196 (by decide) ?_
      refine j_iadd E dL_law_197 ?_
      obtain ⟨x18, h18, h⟩ := jb h
      refine j_sld E X h18 dL_law_198 ?_
      refine j_aload_n E 0 dL_law_199 rfl rfl ?_
      refine j_iload_n E 3 dL_law_200 rfl rfl ?_
      refine j_iconst (v := (4 : Int32)) E dL_law_201 (by decide) ?_
      refine j_iadd E dL_law_202 ?_
      obtain ⟨x19, h19, h⟩ := jb h
      refine j_sld E X h19 dL_law_203 ?_
      obtain ⟨u20, h20, h⟩ := jb h
      obtain ⟨fs20, h20⟩ := chk_spec h20
      obtain ⟨r21, h21, h⟩ := jb h
      refine j_less (Nat.le_of_eq (Nat.zero_add _)) (Nat.le_of_eq (Nat.zero_add _)) ?_
      refine j_callV (As := [.int x16, .int x17, .int x18, .int x19]) (b := v1) (rest := []) (mc1 := 0) (ms1 := 0) E (sX5_set h21) lwX5_set lkL_26 imX5_set seX5_set rfl h20 (by decide) rfl (Nat.le_of_ble_eq_true rfl) dL_law_204 ?_
      refine j_aload_n E 2 dL_law_207 rfl rfl ?_
      refine j_aload_n E 0 dL_law_208 rfl rfl ?_
      refine j_iload_n E 3 dL_law_209 rfl rfl ?_
      refine j_iconst (v := (1 : Int32)) E dL_law_210 (by decide) ?_
      refine j_iadd E dL_law_211 ?_
      obtain ⟨x22, h22, h⟩ := jb h
      refine j_sld E X h22 dL_law_212 ?_
      refine j_aload_n E 0 dL_law_213 rfl rfl ?_
      refine j_iload_n E 3 dL_law_214 rfl rfl ?_
      refine j_iconst (v := (2 : Int32)) E dL_law_215 (by decide) ?_
      refine j_iadd E dL_law_216 ?_
      obtain ⟨x23, h23, h⟩ := jb h
      refine j_sld E X h23 dL_law_217 ?_
      refine j_aload_n E 0 dL_law_218 rfl rfl ?_
      refine j_iload_n E 3 dL_law_219 rfl rfl ?_
      refine j_iconst (v := (3 : Int32)) E dL_law_220 (by decide) ?_
      refine j_iadd E dL_law_221 ?_
      obtain ⟨x24, h24, h⟩ := jb h
      refine j_sld E X h24 dL_law_222 ?_
      refine j_aload_n E 0 dL_law_223 rfl rfl ?_
      refine j_iload_n E 3 dL_law_224 rfl rfl ?_
      refine j_iconst (v := (4 : Int32)) E dL_law_225 (by decide) ?_
      refine j_iadd E dL_law_226 ?_
      obtain ⟨x25, h25, h⟩ := jb h
      refine j_sld E X h25 dL_law_227 ?_
      obtain ⟨u26, h26, h⟩ := jb h
      obtain ⟨fs26, h26⟩ := chk_spec h26
      obtain ⟨r27, h27, h⟩ := jb h
      refine j_less (Nat.le_of_eq (Nat.zero_add _)) (Nat.le_of_eq (Nat.zero_add _)) ?_
      refine j_callV (As := [.int x22, .int x23, .int x24, .int x25]) (b := v2) (rest := [.int r21.1]) (mc1 := 0) (ms1 := 0) E (sX6_set h27) lwX6_set lkL_30 imX6_set seX6_set rfl h26 (by decide) rfl (Nat.le_of_ble_eq_true rfl) dL_law_228 ?_
      refine j_icmp_eq (tgt := 913) E dL_law_231 (by decide) (fun hc28 => ?_) (fun hc28 => ?_)
      · replace h := jt hc28 h
        refine j_iinc (v := (v3 + (5 : Int32))) (lv' := [(3, .int (v3 + (5 : Int32))), (0, .ref b), (1, .ref v1), (2, .ref v2)]) E 3 dL_law_913 rfl rfl (by decide) rfl ?_
        refine j_goto (tgt := 28) E dL_law_916 (by decide) ?_
        exact j_sub [1, 2, 3, 0] rfl (ih _ _ _ _ h hr1)
      replace h := jf hc28 h
      refine j_iconst (v := (0 : Int32)) E dL_law_234 (by decide) ?_
      cases h
      exact absurd hr1 (by show ¬ (0 : Int32) = 1; decide)
    replace h := jf hc15 h
    by_cases hc29 : (x2 &&& (31 : Int32)) = (2 : Int32)
    · replace h := jt hc29 h
      refine j_tableIn (off := 194) (tgt := 236) E dL_law_42 (by rw [hc29]; decide) (by rw [hc29]; decide) (by rw [hc29]; rfl) (by decide) ?_
      refine j_aload_n E 1 dL_law_236 rfl rfl ?_
      refine j_aload_n E 0 dL_law_237 rfl rfl ?_
      refine j_iload_n E 3 dL_law_238 rfl rfl ?_
      refine j_iconst (v := (1 : Int32)) E dL_law_239 (by decide) ?_
      refine j_iadd E dL_law_240 ?_
      obtain ⟨x30, h30, h⟩ := jb h
      refine j_sld E X h30 dL_law_241 ?_
      refine j_aload_n E 0 dL_law_242 rfl rfl ?_
      refine j_iload_n E 3 dL_law_243 rfl rfl ?_
      refine j_iconst (v := (2 : Int32)) E dL_law_244 (by decide) ?_
      refine j_iadd E dL_law_245 ?_
      obtain ⟨x31, h31, h⟩ := jb h
      refine j_sld E X h31 dL_law_246 ?_
      refine j_aload_n E 0 dL_law_247 rfl rfl ?_
      refine j_iload_n E 3 dL_law_248 rfl rfl ?_
      refine j_iconst (v := (3 : Int32)) E dL_law_249 (by decide) ?_
      refine j_iadd E dL_law_250 ?_
      obtain ⟨x32, h32, h⟩ := jb h
      refine j_sld E X h32 dL_law_251 ?_
      refine j_aload_n E 0 dL_law_252 rfl rfl ?_
      refine j_iload_n E 3 dL_law_253 rfl rfl ?_
      refine j_iconst (v := (4 : Int32)) E dL_law_254 (by decide) ?_
      refine j_iadd E dL_law_255 ?_
      obtain ⟨x33, h33, h⟩ := jb h
      refine j_sld E X h33 dL_law_256 ?_
      obtain ⟨u34, h34, h⟩ := jb h
      obtain ⟨fs34, h34⟩ := chk_spec h34
      obtain ⟨r35, h35, h⟩ := jb h
      refine j_less (Nat.le_of_eq (Nat.zero_add _)) (Nat.le_of_eq (Nat.zero_add _)) ?_
      refine j_callV (As := [.int x30, .int x31, .int x32, .int x33]) (b := v1) (rest := []) (mc1 := 0) (ms1 := 0) E (sX5_get h35) lwX5_get lkL_31 imX5_get seX5_get rfl h34 (by decide) rfl (Nat.le_of_ble_eq_true rfl) dL_law_257 ?_
      refine j_aload_n E 2 dL_law_260 rfl rfl ?_
      refine j_aload_n E 0 dL_law_261 rfl rfl ?_
      refine j_iload_n E 3 dL_law_262 rfl rfl ?_
      refine j_iconst (v := (1 : Int32)) E dL_law_263 (by decide) ?_
      refine j_iadd E dL_law_264 ?_
      obtain ⟨x36, h36, h⟩ := jb h
      refine j_sld E X h36 dL_law_265 ?_
      refine j_aload_n E 0 dL_law_266 rfl rfl ?_
      refine j_iload_n E 3 dL_law_267 rfl rfl ?_
      refine j_iconst (v := (2 : Int32)) E dL_law_268 (by decide) ?_
      refine j_iadd E dL_law_269 ?_
      obtain ⟨x37, h37, h⟩ := jb h
      refine j_sld E X h37 dL_law_270 ?_
      refine j_aload_n E 0 dL_law_271 rfl rfl ?_
      refine j_iload_n E 3 dL_law_272 rfl rfl ?_
      refine j_iconst (v := (3 : Int32)) E dL_law_273 (by decide) ?_
      refine j_iadd E dL_law_274 ?_
      obtain ⟨x38, h38, h⟩ := jb h
      refine j_sld E X h38 dL_law_275 ?_
      refine j_aload_n E 0 dL_law_276 rfl rfl ?_
      refine j_iload_n E 3 dL_law_277 rfl rfl ?_
      refine j_iconst (v := (4 : Int32)) E dL_law_278 (by decide) ?_
      refine j_iadd E dL_law_279 ?_
      obtain ⟨x39, h39, h⟩ := jb h
      refine j_sld E X h39 dL_law_280 ?_
      obtain ⟨u40, h40, h⟩ := jb h
      obtain ⟨fs40, h40⟩ := chk_spec h40
      obtain ⟨r41, h41, h⟩ := jb h
      refine j_less (Nat.le_of_eq (Nat.zero_add _)) (Nat.le_of_eq (Nat.zero_add _)) ?_
      refine j_callV (As := [.int x36, .int x37, .int x38, .int x39]) (b := v2) (rest := [.int r35.1]) (mc1 := 0) (ms1 := 0) E (sX6_get h41) lwX6_get lkL_34 imX6_get seX6_get rfl h40 (by decide) rfl (Nat.le_of_ble_eq_true rfl) dL_law_281 ?_
      refine j_icmp_eq (tgt := 913) E dL_law_284 (by decide) (fun hc42 => ?_) (fun hc42 => ?_)
      · replace h := jt hc42 h
        refine j_iinc (v := (v3 + (5 : Int32))) (lv' := [(3, .int (v3 + (5 : Int32))), (0, .ref b), (1, .ref v1), (2, .ref v2)]) E 3 dL_law_913 rfl rfl (by decide) rfl ?_
        refine j_goto (tgt := 28) E dL_law_916 (by decide) ?_
        exact j_sub [1, 2, 3, 0] rfl (ih _ _ _ _ h hr1)
      replace h := jf hc42 h
      refine j_iconst (v := (0 : Int32)) E dL_law_287 (by decide) ?_
      cases h
      exact absurd hr1 (by show ¬ (0 : Int32) = 1; decide)
    replace h := jf hc29 h
    by_cases hc43 : (x2 &&& (31 : Int32)) = (3 : Int32)
    · replace h := jt hc43 h
      refine j_tableIn (off := 247) (tgt := 289) E dL_law_42 (by rw [hc43]; decide) (by rw [hc43]; decide) (by rw [hc43]; rfl) (by decide) ?_
      refine j_aload_n E 1 dL_law_289 rfl rfl ?_
      refine j_aload_n E 0 dL_law_290 rfl rfl ?_
      refine j_iload_n E 3 dL_law_291 rfl rfl ?_
      refine j_iconst (v := (1 : Int32)) E dL_law_292 (by decide) ?_
      refine j_iadd E dL_law_293 ?_
      obtain ⟨x44, h44, h⟩ := jb h
      refine j_sld E X h44 dL_law_294 ?_
      refine j_aload_n E 0 dL_law_295 rfl rfl ?_
      refine j_iload_n E 3 dL_law_296 rfl rfl ?_
      refine j_iconst (v := (2 : Int32)) E dL_law_297 (by decide) ?_
      refine j_iadd E dL_law_298 ?_
      obtain ⟨x45, h45, h⟩ := jb h
      refine j_sld E X h45 dL_law_299 ?_
      refine j_aload_n E 0 dL_law_300 rfl rfl ?_
      refine j_iload_n E 3 dL_law_301 rfl rfl ?_
      refine j_iconst (v := (3 : Int32)) E dL_law_302 (by decide) ?_
      refine j_iadd E dL_law_303 ?_
      obtain ⟨x46, h46, h⟩ := jb h
      refine j_sld E X h46 dL_law_304 ?_
      obtain ⟨u47, h47, h⟩ := jb h
      obtain ⟨fs47, h47⟩ := chk_spec h47
      obtain ⟨r48, h48, h⟩ := jb h
      refine j_less (Nat.le_of_eq (Nat.zero_add _)) (Nat.le_of_eq (Nat.zero_add _)) ?_
      refine j_callV (As := [.int x44, .int x45, .int x46]) (b := v1) (rest := []) (mc1 := 0) (ms1 := 0) E (sX5_number h48) lwX5_number lkL_35 imX5_number seX5_number rfl h47 (by decide) rfl (Nat.le_of_ble_eq_true rfl) dL_law_305 ?_
      refine j_aload_n E 2 dL_law_308 rfl rfl ?_
      refine j_aload_n E 0 dL_law_309 rfl rfl ?_
      refine j_iload_n E 3 dL_law_310 rfl rfl ?_
      refine j_iconst (v := (1 : Int32)) E dL_law_311 (by decide) ?_
      refine j_iadd E dL_law_312 ?_
      obtain ⟨x49, h49, h⟩ := jb h
      refine j_sld E X h49 dL_law_313 ?_
      refine j_aload_n E 0 dL_law_314 rfl rfl ?_
      refine j_iload_n E 3 dL_law_315 rfl rfl ?_
      refine j_iconst (v := (2 : Int32)) E dL_law_316 (by decide) ?_
      refine j_iadd E dL_law_317 ?_
      obtain ⟨x50, h50, h⟩ := jb h
      refine j_sld E X h50 dL_law_318 ?_
      refine j_aload_n E 0 dL_law_319 rfl rfl ?_
      refine j_iload_n E 3 dL_law_320 rfl rfl ?_
      refine j_iconst (v := (3 : Int32)) E dL_law_321 (by decide) ?_
      refine j_iadd E dL_law_322 ?_
      obtain ⟨x51, h51, h⟩ := jb h
      refine j_sld E X h51 dL_law_323 ?_
      obtain ⟨u52, h52, h⟩ := jb h
      obtain ⟨fs52, h52⟩ := chk_spec h52
      obtain ⟨r53, h53, h⟩ := jb h
      refine j_less (Nat.le_of_eq (Nat.zero_add _)) (Nat.le_of_eq (Nat.zero_add _)) ?_
      refine j_callV (As := [.int x49, .int x50, .int x51]) (b := v2) (rest := [.int r48.1]) (mc1 := 0) (ms1 := 0) E (sX6_number h53) lwX6_number lkL_39 imX6_number seX6_number rfl h52 (by decide) rfl (Nat.le_of_ble_eq_true rfl) dL_law_324 ?_
      refine j_icmp_eq (tgt := 913) E dL_law_327 (by decide) (fun hc54 => ?_) (fun hc54 => ?_)
      · replace h := jt hc54 h
        refine j_iinc (v := (v3 + (5 : Int32))) (lv' := [(3, .int (v3 + (5 : Int32))), (0, .ref b), (1, .ref v1), (2, .ref v2)]) E 3 dL_law_913 rfl rfl (by decide) rfl ?_
        refine j_goto (tgt := 28) E dL_law_916 (by decide) ?_
        exact j_sub [1, 2, 3, 0] rfl (ih _ _ _ _ h hr1)
      replace h := jf hc54 h
      refine j_iconst (v := (0 : Int32)) E dL_law_330 (by decide) ?_
      cases h
      exact absurd hr1 (by show ¬ (0 : Int32) = 1; decide)
    replace h := jf hc43 h
    by_cases hc55 : (x2 &&& (31 : Int32)) = (4 : Int32)
    · replace h := jt hc55 h
      refine j_tableIn (off := 290) (tgt := 332) E dL_law_42 (by rw [hc55]; decide) (by rw [hc55]; decide) (by rw [hc55]; rfl) (by decide) ?_
      refine j_aload_n E 1 dL_law_332 rfl rfl ?_
      refine j_aload_n E 0 dL_law_333 rfl rfl ?_
      refine j_iload_n E 3 dL_law_334 rfl rfl ?_
      refine j_iconst (v := (1 : Int32)) E dL_law_335 (by decide) ?_
      refine j_iadd E dL_law_336 ?_
      obtain ⟨x56, h56, h⟩ := jb h
      refine j_sld E X h56 dL_law_337 ?_
      refine j_aload_n E 0 dL_law_338 rfl rfl ?_
      refine j_iload_n E 3 dL_law_339 rfl rfl ?_
      refine j_iconst (v := (2 : Int32)) E dL_law_340 (by decide) ?_
      refine j_iadd E dL_law_341 ?_
      obtain ⟨x57, h57, h⟩ := jb h
      refine j_sld E X h57 dL_law_342 ?_
      obtain ⟨u58, h58, h⟩ := jb h
      obtain ⟨fs58, h58⟩ := chk_spec h58
      obtain ⟨r59, h59, h⟩ := jb h
      refine j_less (Nat.le_of_eq (Nat.zero_add _)) (Nat.le_of_eq (Nat.zero_add _)) ?_
      refine j_callV (As := [.int x56, .int x57]) (b := v1) (rest := []) (mc1 := 0) (ms1 := 0) E (sX5_drop h59) lwX5_drop lkL_40 imX5_drop seX5_drop rfl h58 (by decide) rfl (Nat.le_of_ble_eq_true rfl) dL_law_343 ?_
      refine j_aload_n E 2 dL_law_346 rfl rfl ?_
      refine j_aload_n E 0 dL_law_347 rfl rfl ?_
      refine j_iload_n E 3 dL_law_348 rfl rfl ?_
      refine j_iconst (v := (1 : Int32)) E dL_law_349 (by decide) ?_
      refine j_iadd E dL_law_350 ?_
      obtain ⟨x60, h60, h⟩ := jb h
      refine j_sld E X h60 dL_law_351 ?_
      refine j_aload_n E 0 dL_law_352 rfl rfl ?_
      refine j_iload_n E 3 dL_law_353 rfl rfl ?_
      refine j_iconst (v := (2 : Int32)) E dL_law_354 (by decide) ?_
      refine j_iadd E dL_law_355 ?_
      obtain ⟨x61, h61, h⟩ := jb h
      refine j_sld E X h61 dL_law_356 ?_
      obtain ⟨u62, h62, h⟩ := jb h
      obtain ⟨fs62, h62⟩ := chk_spec h62
      obtain ⟨r63, h63, h⟩ := jb h
      refine j_less (Nat.le_of_eq (Nat.zero_add _)) (Nat.le_of_eq (Nat.zero_add _)) ?_
      refine j_callV (As := [.int x60, .int x61]) (b := v2) (rest := [.int r59.1]) (mc1 := 0) (ms1 := 0) E (sX6_drop h63) lwX6_drop lkL_44 imX6_drop seX6_drop rfl h62 (by decide) rfl (Nat.le_of_ble_eq_true rfl) dL_law_357 ?_
      refine j_icmp_eq (tgt := 913) E dL_law_360 (by decide) (fun hc64 => ?_) (fun hc64 => ?_)
      · replace h := jt hc64 h
        refine j_iinc (v := (v3 + (5 : Int32))) (lv' := [(3, .int (v3 + (5 : Int32))), (0, .ref b), (1, .ref v1), (2, .ref v2)]) E 3 dL_law_913 rfl rfl (by decide) rfl ?_
        refine j_goto (tgt := 28) E dL_law_916 (by decide) ?_
        exact j_sub [1, 2, 3, 0] rfl (ih _ _ _ _ h hr1)
      replace h := jf hc64 h
      refine j_iconst (v := (0 : Int32)) E dL_law_363 (by decide) ?_
      cases h
      exact absurd hr1 (by show ¬ (0 : Int32) = 1; decide)
    replace h := jf hc55 h
    by_cases hc65 : (x2 &&& (31 : Int32)) = (5 : Int32)
    · replace h := jt hc65 h
      refine j_tableIn (off := 323) (tgt := 365) E dL_law_42 (by rw [hc65]; decide) (by rw [hc65]; decide) (by rw [hc65]; rfl) (by decide) ?_
      refine j_aload_n E 1 dL_law_365 rfl rfl ?_
      refine j_aload_n E 0 dL_law_366 rfl rfl ?_
      refine j_iload_n E 3 dL_law_367 rfl rfl ?_
      refine j_iconst (v := (1 : Int32)) E dL_law_368 (by decide) ?_
      refine j_iadd E dL_law_369 ?_
      obtain ⟨x66, h66, h⟩ := jb h
      refine j_sld E X h66 dL_law_370 ?_
      refine j_aload_n E 0 dL_law_371 rfl rfl ?_
      refine j_iload_n E 3 dL_law_372 rfl rfl ?_
      refine j_iconst (v := (2 : Int32)) E dL_law_373 (by decide) ?_
      refine j_iadd E dL_law_374 ?_
      obtain ⟨x67, h67, h⟩ := jb h
      refine j_sld E X h67 dL_law_375 ?_
      refine j_aload_n E 0 dL_law_376 rfl rfl ?_
      refine j_iload_n E 3 dL_law_377 rfl rfl ?_
      refine j_iconst (v := (3 : Int32)) E dL_law_378 (by decide) ?_
      refine j_iadd E dL_law_379 ?_
      obtain ⟨x68, h68, h⟩ := jb h
      refine j_sld E X h68 dL_law_380 ?_
      refine j_aload_n E 0 dL_law_381 rfl rfl ?_
      refine j_iload_n E 3 dL_law_382 rfl rfl ?_
      refine j_iconst (v := (4 : Int32)) E dL_law_383 (by decide) ?_
      refine j_iadd E dL_law_384 ?_
      obtain ⟨x69, h69, h⟩ := jb h
      refine j_sld E X h69 dL_law_385 ?_
      obtain ⟨u70, h70, h⟩ := jb h
      obtain ⟨fs70, h70⟩ := chk_spec h70
      obtain ⟨r71, h71, h⟩ := jb h
      refine j_less (Nat.le_of_eq (Nat.zero_add _)) (Nat.le_of_eq (Nat.zero_add _)) ?_
      refine j_callV (As := [.int x66, .int x67, .int x68, .int x69]) (b := v1) (rest := []) (mc1 := 0) (ms1 := 0) E (sX5_send h71) lwX5_send lkL_45 imX5_send seX5_send rfl h70 (by decide) rfl (Nat.le_of_ble_eq_true rfl) dL_law_386 ?_
      refine j_aload_n E 2 dL_law_389 rfl rfl ?_
      refine j_aload_n E 0 dL_law_390 rfl rfl ?_
      refine j_iload_n E 3 dL_law_391 rfl rfl ?_
      refine j_iconst (v := (1 : Int32)) E dL_law_392 (by decide) ?_
      refine j_iadd E dL_law_393 ?_
      obtain ⟨x72, h72, h⟩ := jb h
      refine j_sld E X h72 dL_law_394 ?_
      refine j_aload_n E 0 dL_law_395 rfl rfl ?_
      refine j_iload_n E 3 dL_law_396 rfl rfl ?_
      refine j_iconst (v := (2 : Int32)) E dL_law_397 (by decide) ?_
      refine j_iadd E dL_law_398 ?_
      obtain ⟨x73, h73, h⟩ := jb h
      refine j_sld E X h73 dL_law_399 ?_
      refine j_aload_n E 0 dL_law_400 rfl rfl ?_
      refine j_iload_n E 3 dL_law_401 rfl rfl ?_
      refine j_iconst (v := (3 : Int32)) E dL_law_402 (by decide) ?_
      refine j_iadd E dL_law_403 ?_
      obtain ⟨x74, h74, h⟩ := jb h
      refine j_sld E X h74 dL_law_404 ?_
      refine j_aload_n E 0 dL_law_405 rfl rfl ?_
      refine j_iload_n E 3 dL_law_406 rfl rfl ?_
      refine j_iconst (v := (4 : Int32)) E dL_law_407 (by decide) ?_
      refine j_iadd E dL_law_408 ?_
      obtain ⟨x75, h75, h⟩ := jb h
      refine j_sld E X h75 dL_law_409 ?_
      obtain ⟨u76, h76, h⟩ := jb h
      obtain ⟨fs76, h76⟩ := chk_spec h76
      obtain ⟨r77, h77, h⟩ := jb h
      refine j_less (Nat.le_of_eq (Nat.zero_add _)) (Nat.le_of_eq (Nat.zero_add _)) ?_
      refine j_callV (As := [.int x72, .int x73, .int x74, .int x75]) (b := v2) (rest := [.int r71.1]) (mc1 := 0) (ms1 := 0) E (sX6_send h77) lwX6_send lkL_49 imX6_send seX6_send rfl h76 (by decide) rfl (Nat.le_of_ble_eq_true rfl) dL_law_410 ?_
      refine j_icmp_eq (tgt := 913) E dL_law_413 (by decide) (fun hc78 => ?_) (fun hc78 => ?_)
      · replace h := jt hc78 h
        refine j_iinc (v := (v3 + (5 : Int32))) (lv' := [(3, .int (v3 + (5 : Int32))), (0, .ref b), (1, .ref v1), (2, .ref v2)]) E 3 dL_law_913 rfl rfl (by decide) rfl ?_
        refine j_goto (tgt := 28) E dL_law_916 (by decide) ?_
        exact j_sub [1, 2, 3, 0] rfl (ih _ _ _ _ h hr1)
      replace h := jf hc78 h
      refine j_iconst (v := (0 : Int32)) E dL_law_416 (by decide) ?_
      cases h
      exact absurd hr1 (by show ¬ (0 : Int32) = 1; decide)
    replace h := jf hc65 h
    by_cases hc79 : (x2 &&& (31 : Int32)) = (6 : Int32)
    · replace h := jt hc79 h
      refine j_tableIn (off := 376) (tgt := 418) E dL_law_42 (by rw [hc79]; decide) (by rw [hc79]; decide) (by rw [hc79]; rfl) (by decide) ?_
      refine j_aload_n E 1 dL_law_418 rfl rfl ?_
      refine j_aload_n E 0 dL_law_419 rfl rfl ?_
      refine j_iload_n E 3 dL_law_420 rfl rfl ?_
      refine j_iconst (v := (1 : Int32)) E dL_law_421 (by decide) ?_
      refine j_iadd E dL_law_422 ?_
      obtain ⟨x80, h80, h⟩ := jb h
      refine j_sld E X h80 dL_law_423 ?_
      refine j_aload_n E 0 dL_law_424 rfl rfl ?_
      refine j_iload_n E 3 dL_law_425 rfl rfl ?_
      refine j_iconst (v := (2 : Int32)) E dL_law_426 (by decide) ?_
      refine j_iadd E dL_law_427 ?_
      obtain ⟨x81, h81, h⟩ := jb h
      refine j_sld E X h81 dL_law_428 ?_
      obtain ⟨u82, h82, h⟩ := jb h
      obtain ⟨fs82, h82⟩ := chk_spec h82
      obtain ⟨r83, h83, h⟩ := jb h
      refine j_less (Nat.le_of_eq (Nat.zero_add _)) (Nat.le_of_eq (Nat.zero_add _)) ?_
      refine j_callV (As := [.int x80, .int x81]) (b := v1) (rest := []) (mc1 := 0) (ms1 := 0) E (sX5_ask h83) lwX5_ask lkL_50 imX5_ask seX5_ask rfl h82 (by decide) rfl (Nat.le_of_ble_eq_true rfl) dL_law_429 ?_
      refine j_aload_n E 2 dL_law_432 rfl rfl ?_
      refine j_aload_n E 0 dL_law_433 rfl rfl ?_
      refine j_iload_n E 3 dL_law_434 rfl rfl ?_
      refine j_iconst (v := (1 : Int32)) E dL_law_435 (by decide) ?_
      refine j_iadd E dL_law_436 ?_
      obtain ⟨x84, h84, h⟩ := jb h
      refine j_sld E X h84 dL_law_437 ?_
      refine j_aload_n E 0 dL_law_438 rfl rfl ?_
      refine j_iload_n E 3 dL_law_439 rfl rfl ?_
      refine j_iconst (v := (2 : Int32)) E dL_law_440 (by decide) ?_
      refine j_iadd E dL_law_441 ?_
      obtain ⟨x85, h85, h⟩ := jb h
      refine j_sld E X h85 dL_law_442 ?_
      obtain ⟨u86, h86, h⟩ := jb h
      obtain ⟨fs86, h86⟩ := chk_spec h86
      obtain ⟨r87, h87, h⟩ := jb h
      refine j_less (Nat.le_of_eq (Nat.zero_add _)) (Nat.le_of_eq (Nat.zero_add _)) ?_
      refine j_callV (As := [.int x84, .int x85]) (b := v2) (rest := [.int r83.1]) (mc1 := 0) (ms1 := 0) E (sX6_ask h87) lwX6_ask lkL_53 imX6_ask seX6_ask rfl h86 (by decide) rfl (Nat.le_of_ble_eq_true rfl) dL_law_443 ?_
      refine j_icmp_eq (tgt := 913) E dL_law_446 (by decide) (fun hc88 => ?_) (fun hc88 => ?_)
      · replace h := jt hc88 h
        refine j_iinc (v := (v3 + (5 : Int32))) (lv' := [(3, .int (v3 + (5 : Int32))), (0, .ref b), (1, .ref v1), (2, .ref v2)]) E 3 dL_law_913 rfl rfl (by decide) rfl ?_
        refine j_goto (tgt := 28) E dL_law_916 (by decide) ?_
        exact j_sub [1, 2, 3, 0] rfl (ih _ _ _ _ h hr1)
      replace h := jf hc88 h
      refine j_iconst (v := (0 : Int32)) E dL_law_449 (by decide) ?_
      cases h
      exact absurd hr1 (by show ¬ (0 : Int32) = 1; decide)
    replace h := jf hc79 h
    by_cases hc89 : (x2 &&& (31 : Int32)) = (7 : Int32)
    · replace h := jt hc89 h
      refine j_tableIn (off := 409) (tgt := 451) E dL_law_42 (by rw [hc89]; decide) (by rw [hc89]; decide) (by rw [hc89]; rfl) (by decide) ?_
      refine j_aload_n E 1 dL_law_451 rfl rfl ?_
      refine j_aload_n E 0 dL_law_452 rfl rfl ?_
      refine j_iload_n E 3 dL_law_453 rfl rfl ?_
      refine j_iconst (v := (1 : Int32)) E dL_law_454 (by decide) ?_
      refine j_iadd E dL_law_455 ?_
      obtain ⟨x90, h90, h⟩ := jb h
      refine j_sld E X h90 dL_law_456 ?_
      refine j_aload_n E 0 dL_law_457 rfl rfl ?_
      refine j_iload_n E 3 dL_law_458 rfl rfl ?_
      refine j_iconst (v := (2 : Int32)) E dL_law_459 (by decide) ?_
      refine j_iadd E dL_law_460 ?_
      obtain ⟨x91, h91, h⟩ := jb h
      refine j_sld E X h91 dL_law_461 ?_
      obtain ⟨u92, h92, h⟩ := jb h
      obtain ⟨fs92, h92⟩ := chk_spec h92
      obtain ⟨r93, h93, h⟩ := jb h
      refine j_less (Nat.le_of_eq (Nat.zero_add _)) (Nat.le_of_eq (Nat.zero_add _)) ?_
      refine j_callV (As := [.int x90, .int x91]) (b := v1) (rest := []) (mc1 := 0) (ms1 := 0) E (sX5_come h93) lwX5_come lkL_54 imX5_come seX5_come rfl h92 (by decide) rfl (Nat.le_of_ble_eq_true rfl) dL_law_462 ?_
      refine j_aload_n E 2 dL_law_465 rfl rfl ?_
      refine j_aload_n E 0 dL_law_466 rfl rfl ?_
      refine j_iload_n E 3 dL_law_467 rfl rfl ?_
      refine j_iconst (v := (1 : Int32)) E dL_law_468 (by decide) ?_
      refine j_iadd E dL_law_469 ?_
      obtain ⟨x94, h94, h⟩ := jb h
      refine j_sld E X h94 dL_law_470 ?_
      refine j_aload_n E 0 dL_law_471 rfl rfl ?_
      refine j_iload_n E 3 dL_law_472 rfl rfl ?_
      refine j_iconst (v := (2 : Int32)) E dL_law_473 (by decide) ?_
      refine j_iadd E dL_law_474 ?_
      obtain ⟨x95, h95, h⟩ := jb h
      refine j_sld E X h95 dL_law_475 ?_
      obtain ⟨u96, h96, h⟩ := jb h
      obtain ⟨fs96, h96⟩ := chk_spec h96
      obtain ⟨r97, h97, h⟩ := jb h
      refine j_less (Nat.le_of_eq (Nat.zero_add _)) (Nat.le_of_eq (Nat.zero_add _)) ?_
      refine j_callV (As := [.int x94, .int x95]) (b := v2) (rest := [.int r93.1]) (mc1 := 0) (ms1 := 0) E (sX6_come h97) lwX6_come lkL_58 imX6_come seX6_come rfl h96 (by decide) rfl (Nat.le_of_ble_eq_true rfl) dL_law_476 ?_
      refine j_icmp_eq (tgt := 913) E dL_law_479 (by decide) (fun hc98 => ?_) (fun hc98 => ?_)
      · replace h := jt hc98 h
        refine j_iinc (v := (v3 + (5 : Int32))) (lv' := [(3, .int (v3 + (5 : Int32))), (0, .ref b), (1, .ref v1), (2, .ref v2)]) E 3 dL_law_913 rfl rfl (by decide) rfl ?_
        refine j_goto (tgt := 28) E dL_law_916 (by decide) ?_
        exact j_sub [1, 2, 3, 0] rfl (ih _ _ _ _ h hr1)
      replace h := jf hc98 h
      refine j_iconst (v := (0 : Int32)) E dL_law_482 (by decide) ?_
      cases h
      exact absurd hr1 (by show ¬ (0 : Int32) = 1; decide)
    replace h := jf hc89 h
    by_cases hc99 : (x2 &&& (31 : Int32)) = (8 : Int32)
    · replace h := jt hc99 h
      refine j_tableIn (off := 442) (tgt := 484) E dL_law_42 (by rw [hc99]; decide) (by rw [hc99]; decide) (by rw [hc99]; rfl) (by decide) ?_
      refine j_aload_n E 1 dL_law_484 rfl rfl ?_
      refine j_aload_n E 0 dL_law_485 rfl rfl ?_
      refine j_iload_n E 3 dL_law_486 rfl rfl ?_
      refine j_iconst (v := (1 : Int32)) E dL_law_487 (by decide) ?_
      refine j_iadd E dL_law_488 ?_
      obtain ⟨x100, h100, h⟩ := jb h
      refine j_sld E X h100 dL_law_489 ?_
      obtain ⟨u101, h101, h⟩ := jb h
      obtain ⟨fs101, h101⟩ := chk_spec h101
      obtain ⟨r102, h102, h⟩ := jb h
      refine j_less (Nat.le_of_eq (Nat.zero_add _)) (Nat.le_of_eq (Nat.zero_add _)) ?_
      refine j_callV (As := [.int x100]) (b := v1) (rest := []) (mc1 := 0) (ms1 := 0) E (sX5_drain h102) lwX5_drain lkL_59 imX5_drain seX5_drain rfl h101 (by decide) rfl (Nat.le_of_ble_eq_true rfl) dL_law_490 ?_
      refine j_aload_n E 2 dL_law_493 rfl rfl ?_
      refine j_aload_n E 0 dL_law_494 rfl rfl ?_
      refine j_iload_n E 3 dL_law_495 rfl rfl ?_
      refine j_iconst (v := (1 : Int32)) E dL_law_496 (by decide) ?_
      refine j_iadd E dL_law_497 ?_
      obtain ⟨x103, h103, h⟩ := jb h
      refine j_sld E X h103 dL_law_498 ?_
      obtain ⟨u104, h104, h⟩ := jb h
      obtain ⟨fs104, h104⟩ := chk_spec h104
      obtain ⟨r105, h105, h⟩ := jb h
      refine j_less (Nat.le_of_eq (Nat.zero_add _)) (Nat.le_of_eq (Nat.zero_add _)) ?_
      refine j_callV (As := [.int x103]) (b := v2) (rest := [.int r102.1]) (mc1 := 0) (ms1 := 0) E (sX6_drain h105) lwX6_drain lkL_63 imX6_drain seX6_drain rfl h104 (by decide) rfl (Nat.le_of_ble_eq_true rfl) dL_law_499 ?_
      refine j_icmp_eq (tgt := 913) E dL_law_502 (by decide) (fun hc106 => ?_) (fun hc106 => ?_)
      · replace h := jt hc106 h
        refine j_iinc (v := (v3 + (5 : Int32))) (lv' := [(3, .int (v3 + (5 : Int32))), (0, .ref b), (1, .ref v1), (2, .ref v2)]) E 3 dL_law_913 rfl rfl (by decide) rfl ?_
        refine j_goto (tgt := 28) E dL_law_916 (by decide) ?_
        exact j_sub [1, 2, 3, 0] rfl (ih _ _ _ _ h hr1)
      replace h := jf hc106 h
      refine j_iconst (v := (0 : Int32)) E dL_law_505 (by decide) ?_
      cases h
      exact absurd hr1 (by show ¬ (0 : Int32) = 1; decide)
    replace h := jf hc99 h
    by_cases hc107 : (x2 &&& (31 : Int32)) = (9 : Int32)
    · replace h := jt hc107 h
      refine j_tableIn (off := 465) (tgt := 507) E dL_law_42 (by rw [hc107]; decide) (by rw [hc107]; decide) (by rw [hc107]; rfl) (by decide) ?_
      refine j_aload_n E 1 dL_law_507 rfl rfl ?_
      refine j_aload_n E 0 dL_law_508 rfl rfl ?_
      refine j_iload_n E 3 dL_law_509 rfl rfl ?_
      refine j_iconst (v := (1 : Int32)) E dL_law_510 (by decide) ?_
      refine j_iadd E dL_law_511 ?_
      obtain ⟨x108, h108, h⟩ := jb h
      refine j_sld E X h108 dL_law_512 ?_
      obtain ⟨u109, h109, h⟩ := jb h
      obtain ⟨fs109, h109⟩ := chk_spec h109
      obtain ⟨r110, h110, h⟩ := jb h
      refine j_less (Nat.le_of_eq (Nat.zero_add _)) (Nat.le_of_eq (Nat.zero_add _)) ?_
      refine j_callV (As := [.int x108]) (b := v1) (rest := []) (mc1 := 0) (ms1 := 0) E (sX5_collect h110) lwX5_collect lkL_64 imX5_collect seX5_collect rfl h109 (by decide) rfl (Nat.le_of_ble_eq_true rfl) dL_law_513 ?_
      refine j_aload_n E 2 dL_law_516 rfl rfl ?_
      refine j_aload_n E 0 dL_law_517 rfl rfl ?_
      refine j_iload_n E 3 dL_law_518 rfl rfl ?_
      refine j_iconst (v := (1 : Int32)) E dL_law_519 (by decide) ?_
      refine j_iadd E dL_law_520 ?_
      obtain ⟨x111, h111, h⟩ := jb h
      refine j_sld E X h111 dL_law_521 ?_
      obtain ⟨u112, h112, h⟩ := jb h
      obtain ⟨fs112, h112⟩ := chk_spec h112
      obtain ⟨r113, h113, h⟩ := jb h
      refine j_less (Nat.le_of_eq (Nat.zero_add _)) (Nat.le_of_eq (Nat.zero_add _)) ?_
      refine j_callV (As := [.int x111]) (b := v2) (rest := [.int r110.1]) (mc1 := 0) (ms1 := 0) E (sX6_collect h113) lwX6_collect lkL_67 imX6_collect seX6_collect rfl h112 (by decide) rfl (Nat.le_of_ble_eq_true rfl) dL_law_522 ?_
      refine j_icmp_eq (tgt := 913) E dL_law_525 (by decide) (fun hc114 => ?_) (fun hc114 => ?_)
      · replace h := jt hc114 h
        refine j_iinc (v := (v3 + (5 : Int32))) (lv' := [(3, .int (v3 + (5 : Int32))), (0, .ref b), (1, .ref v1), (2, .ref v2)]) E 3 dL_law_913 rfl rfl (by decide) rfl ?_
        refine j_goto (tgt := 28) E dL_law_916 (by decide) ?_
        exact j_sub [1, 2, 3, 0] rfl (ih _ _ _ _ h hr1)
      replace h := jf hc114 h
      refine j_iconst (v := (0 : Int32)) E dL_law_528 (by decide) ?_
      cases h
      exact absurd hr1 (by show ¬ (0 : Int32) = 1; decide)
    replace h := jf hc107 h
    by_cases hc115 : (x2 &&& (31 : Int32)) = (10 : Int32)
    · replace h := jt hc115 h
      refine j_tableIn (off := 488) (tgt := 530) E dL_law_42 (by rw [hc115]; decide) (by rw [hc115]; decide) (by rw [hc115]; rfl) (by decide) ?_
      refine j_aload_n E 1 dL_law_530 rfl rfl ?_
      refine j_aload_n E 0 dL_law_531 rfl rfl ?_
      refine j_iload_n E 3 dL_law_532 rfl rfl ?_
      refine j_iconst (v := (1 : Int32)) E dL_law_533 (by decide) ?_
      refine j_iadd E dL_law_534 ?_
      obtain ⟨x116, h116, h⟩ := jb h
      refine j_sld E X h116 dL_law_535 ?_
      refine j_aload_n E 0 dL_law_536 rfl rfl ?_
      refine j_iload_n E 3 dL_law_537 rfl rfl ?_
      refine j_iconst (v := (2 : Int32)) E dL_law_538 (by decide) ?_
      refine j_iadd E dL_law_539 ?_
      obtain ⟨x117, h117, h⟩ := jb h
      refine j_sld E X h117 dL_law_540 ?_
      obtain ⟨u118, h118, h⟩ := jb h
      obtain ⟨fs118, h118⟩ := chk_spec h118
      obtain ⟨r119, h119, h⟩ := jb h
      refine j_less (Nat.le_of_eq (Nat.zero_add _)) (Nat.le_of_eq (Nat.zero_add _)) ?_
      refine j_callV (As := [.int x116, .int x117]) (b := v1) (rest := []) (mc1 := 0) (ms1 := 0) E (sX5_trial h119) lwX5_trial lkL_68 imX5_trial seX5_trial rfl h118 (by decide) rfl (Nat.le_of_ble_eq_true rfl) dL_law_541 ?_
      refine j_aload_n E 2 dL_law_544 rfl rfl ?_
      refine j_aload_n E 0 dL_law_545 rfl rfl ?_
      refine j_iload_n E 3 dL_law_546 rfl rfl ?_
      refine j_iconst (v := (1 : Int32)) E dL_law_547 (by decide) ?_
      refine j_iadd E dL_law_548 ?_
      obtain ⟨x120, h120, h⟩ := jb h
      refine j_sld E X h120 dL_law_549 ?_
      refine j_aload_n E 0 dL_law_550 rfl rfl ?_
      refine j_iload_n E 3 dL_law_551 rfl rfl ?_
      refine j_iconst (v := (2 : Int32)) E dL_law_552 (by decide) ?_
      refine j_iadd E dL_law_553 ?_
      obtain ⟨x121, h121, h⟩ := jb h
      refine j_sld E X h121 dL_law_554 ?_
      obtain ⟨u122, h122, h⟩ := jb h
      obtain ⟨fs122, h122⟩ := chk_spec h122
      obtain ⟨r123, h123, h⟩ := jb h
      refine j_less (Nat.le_of_eq (Nat.zero_add _)) (Nat.le_of_eq (Nat.zero_add _)) ?_
      refine j_callV (As := [.int x120, .int x121]) (b := v2) (rest := [.int r119.1]) (mc1 := 0) (ms1 := 0) E (sX6_trial h123) lwX6_trial lkL_71 imX6_trial seX6_trial rfl h122 (by decide) rfl (Nat.le_of_ble_eq_true rfl) dL_law_555 ?_
      refine j_icmp_eq (tgt := 913) E dL_law_558 (by decide) (fun hc124 => ?_) (fun hc124 => ?_)
      · replace h := jt hc124 h
        refine j_iinc (v := (v3 + (5 : Int32))) (lv' := [(3, .int (v3 + (5 : Int32))), (0, .ref b), (1, .ref v1), (2, .ref v2)]) E 3 dL_law_913 rfl rfl (by decide) rfl ?_
        refine j_goto (tgt := 28) E dL_law_916 (by decide) ?_
        exact j_sub [1, 2, 3, 0] rfl (ih _ _ _ _ h hr1)
      replace h := jf hc124 h
      refine j_iconst (v := (0 : Int32)) E dL_law_561 (by decide) ?_
      cases h
      exact absurd hr1 (by show ¬ (0 : Int32) = 1; decide)
    replace h := jf hc115 h
    by_cases hc125 : (x2 &&& (31 : Int32)) = (11 : Int32)
    · replace h := jt hc125 h
      refine j_tableIn (off := 521) (tgt := 563) E dL_law_42 (by rw [hc125]; decide) (by rw [hc125]; decide) (by rw [hc125]; rfl) (by decide) ?_
      refine j_aload_n E 1 dL_law_563 rfl rfl ?_
      obtain ⟨u126, h126, h⟩ := jb h
      obtain ⟨fs126, h126⟩ := chk_spec h126
      obtain ⟨r127, h127, h⟩ := jb h
      refine j_less (Nat.le_of_eq (Nat.zero_add _)) (Nat.le_of_eq (Nat.zero_add _)) ?_
      refine j_callV (As := []) (b := v1) (rest := []) (mc1 := 0) (ms1 := 0) E (sX5_settle h127) lwX5_settle lkL_72 imX5_settle seX5_settle rfl h126 (by decide) rfl (Nat.le_of_ble_eq_true rfl) dL_law_564 ?_
      refine j_aload_n E 2 dL_law_567 rfl rfl ?_
      obtain ⟨u128, h128, h⟩ := jb h
      obtain ⟨fs128, h128⟩ := chk_spec h128
      obtain ⟨r129, h129, h⟩ := jb h
      refine j_less (Nat.le_of_eq (Nat.zero_add _)) (Nat.le_of_eq (Nat.zero_add _)) ?_
      refine j_callV (As := []) (b := v2) (rest := [.int r127.1]) (mc1 := 0) (ms1 := 0) E (sX6_settle h129) lwX6_settle lkL_76 imX6_settle seX6_settle rfl h128 (by decide) rfl (Nat.le_of_ble_eq_true rfl) dL_law_568 ?_
      refine j_icmp_eq (tgt := 913) E dL_law_571 (by decide) (fun hc130 => ?_) (fun hc130 => ?_)
      · replace h := jt hc130 h
        refine j_iinc (v := (v3 + (5 : Int32))) (lv' := [(3, .int (v3 + (5 : Int32))), (0, .ref b), (1, .ref v1), (2, .ref v2)]) E 3 dL_law_913 rfl rfl (by decide) rfl ?_
        refine j_goto (tgt := 28) E dL_law_916 (by decide) ?_
        exact j_sub [1, 2, 3, 0] rfl (ih _ _ _ _ h hr1)
      replace h := jf hc130 h
      refine j_iconst (v := (0 : Int32)) E dL_law_574 (by decide) ?_
      cases h
      exact absurd hr1 (by show ¬ (0 : Int32) = 1; decide)
    replace h := jf hc125 h
    by_cases hc131 : (x2 &&& (31 : Int32)) = (12 : Int32)
    · replace h := jt hc131 h
      refine j_tableIn (off := 534) (tgt := 576) E dL_law_42 (by rw [hc131]; decide) (by rw [hc131]; decide) (by rw [hc131]; rfl) (by decide) ?_
      refine j_aload_n E 1 dL_law_576 rfl rfl ?_
      obtain ⟨u132, h132, h⟩ := jb h
      obtain ⟨fs132, h132⟩ := chk_spec h132
      obtain ⟨r133, h133, h⟩ := jb h
      refine j_less (Nat.le_of_eq (Nat.zero_add _)) (Nat.le_of_eq (Nat.zero_add _)) ?_
      refine j_callV (As := []) (b := v1) (rest := []) (mc1 := 0) (ms1 := 0) E (sX5_pass h133) lwX5_pass lkL_77 imX5_pass seX5_pass rfl h132 (by decide) rfl (Nat.le_of_ble_eq_true rfl) dL_law_577 ?_
      refine j_aload_n E 2 dL_law_580 rfl rfl ?_
      obtain ⟨u134, h134, h⟩ := jb h
      obtain ⟨fs134, h134⟩ := chk_spec h134
      obtain ⟨r135, h135, h⟩ := jb h
      refine j_less (Nat.le_of_eq (Nat.zero_add _)) (Nat.le_of_eq (Nat.zero_add _)) ?_
      refine j_callV (As := []) (b := v2) (rest := [.int r133.1]) (mc1 := 0) (ms1 := 0) E (sX6_pass h135) lwX6_pass lkL_80 imX6_pass seX6_pass rfl h134 (by decide) rfl (Nat.le_of_ble_eq_true rfl) dL_law_581 ?_
      refine j_icmp_eq (tgt := 913) E dL_law_584 (by decide) (fun hc136 => ?_) (fun hc136 => ?_)
      · replace h := jt hc136 h
        refine j_iinc (v := (v3 + (5 : Int32))) (lv' := [(3, .int (v3 + (5 : Int32))), (0, .ref b), (1, .ref v1), (2, .ref v2)]) E 3 dL_law_913 rfl rfl (by decide) rfl ?_
        refine j_goto (tgt := 28) E dL_law_916 (by decide) ?_
        exact j_sub [1, 2, 3, 0] rfl (ih _ _ _ _ h hr1)
      replace h := jf hc136 h
      refine j_iconst (v := (0 : Int32)) E dL_law_587 (by decide) ?_
      cases h
      exact absurd hr1 (by show ¬ (0 : Int32) = 1; decide)
    replace h := jf hc131 h
    by_cases hc137 : (x2 &&& (31 : Int32)) = (13 : Int32)
    · replace h := jt hc137 h
      refine j_tableIn (off := 547) (tgt := 589) E dL_law_42 (by rw [hc137]; decide) (by rw [hc137]; decide) (by rw [hc137]; rfl) (by decide) ?_
      refine j_aload_n E 1 dL_law_589 rfl rfl ?_
      refine j_aload_n E 0 dL_law_590 rfl rfl ?_
      refine j_iload_n E 3 dL_law_591 rfl rfl ?_
      refine j_iconst (v := (1 : Int32)) E dL_law_592 (by decide) ?_
      refine j_iadd E dL_law_593 ?_
      obtain ⟨x138, h138, h⟩ := jb h
      refine j_sld E X h138 dL_law_594 ?_
      refine j_aload_n E 0 dL_law_595 rfl rfl ?_
      refine j_iload_n E 3 dL_law_596 rfl rfl ?_
      refine j_iconst (v := (2 : Int32)) E dL_law_597 (by decide) ?_
      refine j_iadd E dL_law_598 ?_
      obtain ⟨x139, h139, h⟩ := jb h
      refine j_sld E X h139 dL_law_599 ?_
      refine j_aload_n E 0 dL_law_600 rfl rfl ?_
      refine j_iload_n E 3 dL_law_601 rfl rfl ?_
      refine j_iconst (v := (3 : Int32)) E dL_law_602 (by decide) ?_
      refine j_iadd E dL_law_603 ?_
      obtain ⟨x140, h140, h⟩ := jb h
      refine j_sld E X h140 dL_law_604 ?_
      obtain ⟨u141, h141, h⟩ := jb h
      obtain ⟨fs141, h141⟩ := chk_spec h141
      obtain ⟨r142, h142, h⟩ := jb h
      refine j_less (Nat.le_of_eq (Nat.zero_add _)) (Nat.le_of_eq (Nat.zero_add _)) ?_
      refine j_callV (As := [.int x138, .int x139, .int x140]) (b := v1) (rest := []) (mc1 := 0) (ms1 := 0) E (sX5_register h142) lwX5_register lkL_81 imX5_register seX5_register rfl h141 (by decide) rfl (Nat.le_of_ble_eq_true rfl) dL_law_605 ?_
      refine j_aload_n E 2 dL_law_608 rfl rfl ?_
      refine j_aload_n E 0 dL_law_609 rfl rfl ?_
      refine j_iload_n E 3 dL_law_610 rfl rfl ?_
      refine j_iconst (v := (1 : Int32)) E dL_law_611 (by decide) ?_
      refine j_iadd E dL_law_612 ?_
      obtain ⟨x143, h143, h⟩ := jb h
      refine j_sld E X h143 dL_law_613 ?_
      refine j_aload_n E 0 dL_law_614 rfl rfl ?_
      refine j_iload_n E 3 dL_law_615 rfl rfl ?_
      refine j_iconst (v := (2 : Int32)) E dL_law_616 (by decide) ?_
      refine j_iadd E dL_law_617 ?_
      obtain ⟨x144, h144, h⟩ := jb h
      refine j_sld E X h144 dL_law_618 ?_
      refine j_aload_n E 0 dL_law_619 rfl rfl ?_
      refine j_iload_n E 3 dL_law_620 rfl rfl ?_
      refine j_iconst (v := (3 : Int32)) E dL_law_621 (by decide) ?_
      refine j_iadd E dL_law_622 ?_
      obtain ⟨x145, h145, h⟩ := jb h
      refine j_sld E X h145 dL_law_623 ?_
      obtain ⟨u146, h146, h⟩ := jb h
      obtain ⟨fs146, h146⟩ := chk_spec h146
      obtain ⟨r147, h147, h⟩ := jb h
      refine j_less (Nat.le_of_eq (Nat.zero_add _)) (Nat.le_of_eq (Nat.zero_add _)) ?_
      refine j_callV (As := [.int x143, .int x144, .int x145]) (b := v2) (rest := [.int r142.1]) (mc1 := 0) (ms1 := 0) E (sX6_register h147) lwX6_register lkL_84 imX6_register seX6_register rfl h146 (by decide) rfl (Nat.le_of_ble_eq_true rfl) dL_law_624 ?_
      refine j_icmp_eq (tgt := 913) E dL_law_627 (by decide) (fun hc148 => ?_) (fun hc148 => ?_)
      · replace h := jt hc148 h
        refine j_iinc (v := (v3 + (5 : Int32))) (lv' := [(3, .int (v3 + (5 : Int32))), (0, .ref b), (1, .ref v1), (2, .ref v2)]) E 3 dL_law_913 rfl rfl (by decide) rfl ?_
        refine j_goto (tgt := 28) E dL_law_916 (by decide) ?_
        exact j_sub [1, 2, 3, 0] rfl (ih _ _ _ _ h hr1)
      replace h := jf hc148 h
      refine j_iconst (v := (0 : Int32)) E dL_law_630 (by decide) ?_
      cases h
      exact absurd hr1 (by show ¬ (0 : Int32) = 1; decide)
    replace h := jf hc137 h
    by_cases hc149 : (x2 &&& (31 : Int32)) = (14 : Int32)
    · replace h := jt hc149 h
      refine j_tableIn (off := 590) (tgt := 632) E dL_law_42 (by rw [hc149]; decide) (by rw [hc149]; decide) (by rw [hc149]; rfl) (by decide) ?_
      refine j_aload_n E 1 dL_law_632 rfl rfl ?_
      refine j_aload_n E 0 dL_law_633 rfl rfl ?_
      refine j_iload_n E 3 dL_law_634 rfl rfl ?_
      refine j_iconst (v := (1 : Int32)) E dL_law_635 (by decide) ?_
      refine j_iadd E dL_law_636 ?_
      obtain ⟨x150, h150, h⟩ := jb h
      refine j_sld E X h150 dL_law_637 ?_
      refine j_aload_n E 0 dL_law_638 rfl rfl ?_
      refine j_iload_n E 3 dL_law_639 rfl rfl ?_
      refine j_iconst (v := (2 : Int32)) E dL_law_640 (by decide) ?_
      refine j_iadd E dL_law_641 ?_
      obtain ⟨x151, h151, h⟩ := jb h
      refine j_sld E X h151 dL_law_642 ?_
      refine j_aload_n E 0 dL_law_643 rfl rfl ?_
      refine j_iload_n E 3 dL_law_644 rfl rfl ?_
      refine j_iconst (v := (3 : Int32)) E dL_law_645 (by decide) ?_
      refine j_iadd E dL_law_646 ?_
      obtain ⟨x152, h152, h⟩ := jb h
      refine j_sld E X h152 dL_law_647 ?_
      refine j_aload_n E 0 dL_law_648 rfl rfl ?_
      refine j_iload_n E 3 dL_law_649 rfl rfl ?_
      refine j_iconst (v := (4 : Int32)) E dL_law_650 (by decide) ?_
      refine j_iadd E dL_law_651 ?_
      obtain ⟨x153, h153, h⟩ := jb h
      refine j_sld E X h153 dL_law_652 ?_
      obtain ⟨u154, h154, h⟩ := jb h
      obtain ⟨fs154, h154⟩ := chk_spec h154
      obtain ⟨r155, h155, h⟩ := jb h
      refine j_less (Nat.le_of_eq (Nat.zero_add _)) (Nat.le_of_eq (Nat.zero_add _)) ?_
      refine j_callV (As := [.int x150, .int x151, .int x152, .int x153]) (b := v1) (rest := []) (mc1 := 0) (ms1 := 0) E (sX5_field h155) lwX5_field lkL_85 imX5_field seX5_field rfl h154 (by decide) rfl (Nat.le_of_ble_eq_true rfl) dL_law_653 ?_
      refine j_aload_n E 2 dL_law_656 rfl rfl ?_
      refine j_aload_n E 0 dL_law_657 rfl rfl ?_
      refine j_iload_n E 3 dL_law_658 rfl rfl ?_
      refine j_iconst (v := (1 : Int32)) E dL_law_659 (by decide) ?_
      refine j_iadd E dL_law_660 ?_
      obtain ⟨x156, h156, h⟩ := jb h
      refine j_sld E X h156 dL_law_661 ?_
      refine j_aload_n E 0 dL_law_662 rfl rfl ?_
      refine j_iload_n E 3 dL_law_663 rfl rfl ?_
      refine j_iconst (v := (2 : Int32)) E dL_law_664 (by decide) ?_
      refine j_iadd E dL_law_665 ?_
      obtain ⟨x157, h157, h⟩ := jb h
      refine j_sld E X h157 dL_law_666 ?_
      refine j_aload_n E 0 dL_law_667 rfl rfl ?_
      refine j_iload_n E 3 dL_law_668 rfl rfl ?_
      refine j_iconst (v := (3 : Int32)) E dL_law_669 (by decide) ?_
      refine j_iadd E dL_law_670 ?_
      obtain ⟨x158, h158, h⟩ := jb h
      refine j_sld E X h158 dL_law_671 ?_
      refine j_aload_n E 0 dL_law_672 rfl rfl ?_
      refine j_iload_n E 3 dL_law_673 rfl rfl ?_
      refine j_iconst (v := (4 : Int32)) E dL_law_674 (by decide) ?_
      refine j_iadd E dL_law_675 ?_
      obtain ⟨x159, h159, h⟩ := jb h
      refine j_sld E X h159 dL_law_676 ?_
      obtain ⟨u160, h160, h⟩ := jb h
      obtain ⟨fs160, h160⟩ := chk_spec h160
      obtain ⟨r161, h161, h⟩ := jb h
      refine j_less (Nat.le_of_eq (Nat.zero_add _)) (Nat.le_of_eq (Nat.zero_add _)) ?_
      refine j_callV (As := [.int x156, .int x157, .int x158, .int x159]) (b := v2) (rest := [.int r155.1]) (mc1 := 0) (ms1 := 0) E (sX6_field h161) lwX6_field lkL_88 imX6_field seX6_field rfl h160 (by decide) rfl (Nat.le_of_ble_eq_true rfl) dL_law_677 ?_
      refine j_icmp_eq (tgt := 913) E dL_law_680 (by decide) (fun hc162 => ?_) (fun hc162 => ?_)
      · replace h := jt hc162 h
        refine j_iinc (v := (v3 + (5 : Int32))) (lv' := [(3, .int (v3 + (5 : Int32))), (0, .ref b), (1, .ref v1), (2, .ref v2)]) E 3 dL_law_913 rfl rfl (by decide) rfl ?_
        refine j_goto (tgt := 28) E dL_law_916 (by decide) ?_
        exact j_sub [1, 2, 3, 0] rfl (ih _ _ _ _ h hr1)
      replace h := jf hc162 h
      refine j_iconst (v := (0 : Int32)) E dL_law_683 (by decide) ?_
      cases h
      exact absurd hr1 (by show ¬ (0 : Int32) = 1; decide)
    replace h := jf hc149 h
    by_cases hc163 : (x2 &&& (31 : Int32)) = (15 : Int32)
    · replace h := jt hc163 h
      refine j_tableIn (off := 643) (tgt := 685) E dL_law_42 (by rw [hc163]; decide) (by rw [hc163]; decide) (by rw [hc163]; rfl) (by decide) ?_
      refine j_aload_n E 1 dL_law_685 rfl rfl ?_
      refine j_aload_n E 0 dL_law_686 rfl rfl ?_
      refine j_iload_n E 3 dL_law_687 rfl rfl ?_
      refine j_iconst (v := (1 : Int32)) E dL_law_688 (by decide) ?_
      refine j_iadd E dL_law_689 ?_
      obtain ⟨x164, h164, h⟩ := jb h
      refine j_sld E X h164 dL_law_690 ?_
      refine j_aload_n E 0 dL_law_691 rfl rfl ?_
      refine j_iload_n E 3 dL_law_692 rfl rfl ?_
      refine j_iconst (v := (2 : Int32)) E dL_law_693 (by decide) ?_
      refine j_iadd E dL_law_694 ?_
      obtain ⟨x165, h165, h⟩ := jb h
      refine j_sld E X h165 dL_law_695 ?_
      refine j_aload_n E 0 dL_law_696 rfl rfl ?_
      refine j_iload_n E 3 dL_law_697 rfl rfl ?_
      refine j_iconst (v := (3 : Int32)) E dL_law_698 (by decide) ?_
      refine j_iadd E dL_law_699 ?_
      obtain ⟨x166, h166, h⟩ := jb h
      refine j_sld E X h166 dL_law_700 ?_
      obtain ⟨u167, h167, h⟩ := jb h
      obtain ⟨fs167, h167⟩ := chk_spec h167
      obtain ⟨r168, h168, h⟩ := jb h
      refine j_less (Nat.le_of_eq (Nat.zero_add _)) (Nat.le_of_eq (Nat.zero_add _)) ?_
      refine j_callV (As := [.int x164, .int x165, .int x166]) (b := v1) (rest := []) (mc1 := 0) (ms1 := 0) E (sX5_cell h168) lwX5_cell lkL_89 imX5_cell seX5_cell rfl h167 (by decide) rfl (Nat.le_of_ble_eq_true rfl) dL_law_701 ?_
      refine j_aload_n E 2 dL_law_704 rfl rfl ?_
      refine j_aload_n E 0 dL_law_705 rfl rfl ?_
      refine j_iload_n E 3 dL_law_706 rfl rfl ?_
      refine j_iconst (v := (1 : Int32)) E dL_law_707 (by decide) ?_
      refine j_iadd E dL_law_708 ?_
      obtain ⟨x169, h169, h⟩ := jb h
      refine j_sld E X h169 dL_law_709 ?_
      refine j_aload_n E 0 dL_law_710 rfl rfl ?_
      refine j_iload_n E 3 dL_law_711 rfl rfl ?_
      refine j_iconst (v := (2 : Int32)) E dL_law_712 (by decide) ?_
      refine j_iadd E dL_law_713 ?_
      obtain ⟨x170, h170, h⟩ := jb h
      refine j_sld E X h170 dL_law_714 ?_
      refine j_aload_n E 0 dL_law_715 rfl rfl ?_
      refine j_iload_n E 3 dL_law_716 rfl rfl ?_
      refine j_iconst (v := (3 : Int32)) E dL_law_717 (by decide) ?_
      refine j_iadd E dL_law_718 ?_
      obtain ⟨x171, h171, h⟩ := jb h
      refine j_sld E X h171 dL_law_719 ?_
      obtain ⟨u172, h172, h⟩ := jb h
      obtain ⟨fs172, h172⟩ := chk_spec h172
      obtain ⟨r173, h173, h⟩ := jb h
      refine j_less (Nat.le_of_eq (Nat.zero_add _)) (Nat.le_of_eq (Nat.zero_add _)) ?_
      refine j_callV (As := [.int x169, .int x170, .int x171]) (b := v2) (rest := [.int r168.1]) (mc1 := 0) (ms1 := 0) E (sX6_cell h173) lwX6_cell lkL_91 imX6_cell seX6_cell rfl h172 (by decide) rfl (Nat.le_of_ble_eq_true rfl) dL_law_720 ?_
      refine j_icmp_eq (tgt := 913) E dL_law_723 (by decide) (fun hc174 => ?_) (fun hc174 => ?_)
      · replace h := jt hc174 h
        refine j_iinc (v := (v3 + (5 : Int32))) (lv' := [(3, .int (v3 + (5 : Int32))), (0, .ref b), (1, .ref v1), (2, .ref v2)]) E 3 dL_law_913 rfl rfl (by decide) rfl ?_
        refine j_goto (tgt := 28) E dL_law_916 (by decide) ?_
        exact j_sub [1, 2, 3, 0] rfl (ih _ _ _ _ h hr1)
      replace h := jf hc174 h
      refine j_iconst (v := (0 : Int32)) E dL_law_726 (by decide) ?_
      cases h
      exact absurd hr1 (by show ¬ (0 : Int32) = 1; decide)
    replace h := jf hc163 h
    by_cases hc175 : (x2 &&& (31 : Int32)) = (16 : Int32)
    · replace h := jt hc175 h
      refine j_tableIn (off := 686) (tgt := 728) E dL_law_42 (by rw [hc175]; decide) (by rw [hc175]; decide) (by rw [hc175]; rfl) (by decide) ?_
      refine j_aload_n E 1 dL_law_728 rfl rfl ?_
      refine j_aload_n E 0 dL_law_729 rfl rfl ?_
      refine j_iload_n E 3 dL_law_730 rfl rfl ?_
      refine j_iconst (v := (1 : Int32)) E dL_law_731 (by decide) ?_
      refine j_iadd E dL_law_732 ?_
      obtain ⟨x176, h176, h⟩ := jb h
      refine j_sld E X h176 dL_law_733 ?_
      refine j_aload_n E 0 dL_law_734 rfl rfl ?_
      refine j_iload_n E 3 dL_law_735 rfl rfl ?_
      refine j_iconst (v := (2 : Int32)) E dL_law_736 (by decide) ?_
      refine j_iadd E dL_law_737 ?_
      obtain ⟨x177, h177, h⟩ := jb h
      refine j_sld E X h177 dL_law_738 ?_
      refine j_aload_n E 0 dL_law_739 rfl rfl ?_
      refine j_iload_n E 3 dL_law_740 rfl rfl ?_
      refine j_iconst (v := (3 : Int32)) E dL_law_741 (by decide) ?_
      refine j_iadd E dL_law_742 ?_
      obtain ⟨x178, h178, h⟩ := jb h
      refine j_sld E X h178 dL_law_743 ?_
      obtain ⟨u179, h179, h⟩ := jb h
      obtain ⟨fs179, h179⟩ := chk_spec h179
      obtain ⟨r180, h180, h⟩ := jb h
      refine j_less (Nat.le_of_eq (Nat.zero_add _)) (Nat.le_of_eq (Nat.zero_add _)) ?_
      refine j_callV (As := [.int x176, .int x177, .int x178]) (b := v1) (rest := []) (mc1 := 0) (ms1 := 0) E (sX5_object h180) lwX5_object lkL_92 imX5_object seX5_object rfl h179 (by decide) rfl (Nat.le_of_ble_eq_true rfl) dL_law_744 ?_
      refine j_aload_n E 2 dL_law_747 rfl rfl ?_
      refine j_aload_n E 0 dL_law_748 rfl rfl ?_
      refine j_iload_n E 3 dL_law_749 rfl rfl ?_
      refine j_iconst (v := (1 : Int32)) E dL_law_750 (by decide) ?_
      refine j_iadd E dL_law_751 ?_
      obtain ⟨x181, h181, h⟩ := jb h
      refine j_sld E X h181 dL_law_752 ?_
      refine j_aload_n E 0 dL_law_753 rfl rfl ?_
      refine j_iload_n E 3 dL_law_754 rfl rfl ?_
      refine j_iconst (v := (2 : Int32)) E dL_law_755 (by decide) ?_
      refine j_iadd E dL_law_756 ?_
      obtain ⟨x182, h182, h⟩ := jb h
      refine j_sld E X h182 dL_law_757 ?_
      refine j_aload_n E 0 dL_law_758 rfl rfl ?_
      refine j_iload_n E 3 dL_law_759 rfl rfl ?_
      refine j_iconst (v := (3 : Int32)) E dL_law_760 (by decide) ?_
      refine j_iadd E dL_law_761 ?_
      obtain ⟨x183, h183, h⟩ := jb h
      refine j_sld E X h183 dL_law_762 ?_
      obtain ⟨u184, h184, h⟩ := jb h
      obtain ⟨fs184, h184⟩ := chk_spec h184
      obtain ⟨r185, h185, h⟩ := jb h
      refine j_less (Nat.le_of_eq (Nat.zero_add _)) (Nat.le_of_eq (Nat.zero_add _)) ?_
      refine j_callV (As := [.int x181, .int x182, .int x183]) (b := v2) (rest := [.int r180.1]) (mc1 := 0) (ms1 := 0) E (sX6_object h185) lwX6_object lkL_95 imX6_object seX6_object rfl h184 (by decide) rfl (Nat.le_of_ble_eq_true rfl) dL_law_763 ?_
      refine j_icmp_eq (tgt := 913) E dL_law_766 (by decide) (fun hc186 => ?_) (fun hc186 => ?_)
      · replace h := jt hc186 h
        refine j_iinc (v := (v3 + (5 : Int32))) (lv' := [(3, .int (v3 + (5 : Int32))), (0, .ref b), (1, .ref v1), (2, .ref v2)]) E 3 dL_law_913 rfl rfl (by decide) rfl ?_
        refine j_goto (tgt := 28) E dL_law_916 (by decide) ?_
        exact j_sub [1, 2, 3, 0] rfl (ih _ _ _ _ h hr1)
      replace h := jf hc186 h
      refine j_iconst (v := (0 : Int32)) E dL_law_769 (by decide) ?_
      cases h
      exact absurd hr1 (by show ¬ (0 : Int32) = 1; decide)
    replace h := jf hc175 h
    by_cases hc187 : (x2 &&& (31 : Int32)) = (17 : Int32)
    · replace h := jt hc187 h
      refine j_tableIn (off := 729) (tgt := 771) E dL_law_42 (by rw [hc187]; decide) (by rw [hc187]; decide) (by rw [hc187]; rfl) (by decide) ?_
      refine j_aload_n E 1 dL_law_771 rfl rfl ?_
      refine j_aload_n E 0 dL_law_772 rfl rfl ?_
      refine j_iload_n E 3 dL_law_773 rfl rfl ?_
      refine j_iconst (v := (1 : Int32)) E dL_law_774 (by decide) ?_
      refine j_iadd E dL_law_775 ?_
      obtain ⟨x188, h188, h⟩ := jb h
      refine j_sld E X h188 dL_law_776 ?_
      refine j_aload_n E 0 dL_law_777 rfl rfl ?_
      refine j_iload_n E 3 dL_law_778 rfl rfl ?_
      refine j_iconst (v := (2 : Int32)) E dL_law_779 (by decide) ?_
      refine j_iadd E dL_law_780 ?_
      obtain ⟨x189, h189, h⟩ := jb h
      refine j_sld E X h189 dL_law_781 ?_
      refine j_aload_n E 0 dL_law_782 rfl rfl ?_
      refine j_iload_n E 3 dL_law_783 rfl rfl ?_
      refine j_iconst (v := (3 : Int32)) E dL_law_784 (by decide) ?_
      refine j_iadd E dL_law_785 ?_
      obtain ⟨x190, h190, h⟩ := jb h
      refine j_sld E X h190 dL_law_786 ?_
      obtain ⟨u191, h191, h⟩ := jb h
      obtain ⟨fs191, h191⟩ := chk_spec h191
      obtain ⟨r192, h192, h⟩ := jb h
      refine j_less (Nat.le_of_eq (Nat.zero_add _)) (Nat.le_of_eq (Nat.zero_add _)) ?_
      refine j_callV (As := [.int x188, .int x189, .int x190]) (b := v1) (rest := []) (mc1 := 0) (ms1 := 0) E (sX5_weight h192) lwX5_weight lkL_96 imX5_weight seX5_weight rfl h191 (by decide) rfl (Nat.le_of_ble_eq_true rfl) dL_law_787 ?_
      refine j_aload_n E 2 dL_law_790 rfl rfl ?_
      refine j_aload_n E 0 dL_law_791 rfl rfl ?_
      refine j_iload_n E 3 dL_law_792 rfl rfl ?_
      refine j_iconst (v := (1 : Int32)) E dL_law_793 (by decide) ?_
      refine j_iadd E dL_law_794 ?_
      obtain ⟨x193, h193, h⟩ := jb h
      refine j_sld E X h193 dL_law_795 ?_
      refine j_aload_n E 0 dL_law_796 rfl rfl ?_
      refine j_iload_n E 3 dL_law_797 rfl rfl ?_
      refine j_iconst (v := (2 : Int32)) E dL_law_798 (by decide) ?_
      refine j_iadd E dL_law_799 ?_
      obtain ⟨x194, h194, h⟩ := jb h
      refine j_sld E X h194 dL_law_800 ?_
      refine j_aload_n E 0 dL_law_801 rfl rfl ?_
      refine j_iload_n E 3 dL_law_802 rfl rfl ?_
      refine j_iconst (v := (3 : Int32)) E dL_law_803 (by decide) ?_
      refine j_iadd E dL_law_804 ?_
      obtain ⟨x195, h195, h⟩ := jb h
      refine j_sld E X h195 dL_law_805 ?_
      obtain ⟨u196, h196, h⟩ := jb h
      obtain ⟨fs196, h196⟩ := chk_spec h196
      obtain ⟨r197, h197, h⟩ := jb h
      refine j_less (Nat.le_of_eq (Nat.zero_add _)) (Nat.le_of_eq (Nat.zero_add _)) ?_
      refine j_callV (As := [.int x193, .int x194, .int x195]) (b := v2) (rest := [.int r192.1]) (mc1 := 0) (ms1 := 0) E (sX6_weight h197) lwX6_weight lkL_99 imX6_weight seX6_weight rfl h196 (by decide) rfl (Nat.le_of_ble_eq_true rfl) dL_law_806 ?_
      refine j_icmp_eq (tgt := 913) E dL_law_809 (by decide) (fun hc198 => ?_) (fun hc198 => ?_)
      · replace h := jt hc198 h
        refine j_iinc (v := (v3 + (5 : Int32))) (lv' := [(3, .int (v3 + (5 : Int32))), (0, .ref b), (1, .ref v1), (2, .ref v2)]) E 3 dL_law_913 rfl rfl (by decide) rfl ?_
        refine j_goto (tgt := 28) E dL_law_916 (by decide) ?_
        exact j_sub [1, 2, 3, 0] rfl (ih _ _ _ _ h hr1)
      replace h := jf hc198 h
      refine j_iconst (v := (0 : Int32)) E dL_law_812 (by decide) ?_
      cases h
      exact absurd hr1 (by show ¬ (0 : Int32) = 1; decide)
    replace h := jf hc187 h
    by_cases hc199 : (x2 &&& (31 : Int32)) = (18 : Int32)
    · replace h := jt hc199 h
      refine j_tableIn (off := 772) (tgt := 814) E dL_law_42 (by rw [hc199]; decide) (by rw [hc199]; decide) (by rw [hc199]; rfl) (by decide) ?_
      refine j_aload_n E 1 dL_law_814 rfl rfl ?_
      refine j_aload_n E 0 dL_law_815 rfl rfl ?_
      refine j_iload_n E 3 dL_law_816 rfl rfl ?_
      refine j_iconst (v := (1 : Int32)) E dL_law_817 (by decide) ?_
      refine j_iadd E dL_law_818 ?_
      obtain ⟨x200, h200, h⟩ := jb h
      refine j_sld E X h200 dL_law_819 ?_
      refine j_aload_n E 0 dL_law_820 rfl rfl ?_
      refine j_iload_n E 3 dL_law_821 rfl rfl ?_
      refine j_iconst (v := (2 : Int32)) E dL_law_822 (by decide) ?_
      refine j_iadd E dL_law_823 ?_
      obtain ⟨x201, h201, h⟩ := jb h
      refine j_sld E X h201 dL_law_824 ?_
      refine j_aload_n E 0 dL_law_825 rfl rfl ?_
      refine j_iload_n E 3 dL_law_826 rfl rfl ?_
      refine j_iconst (v := (3 : Int32)) E dL_law_827 (by decide) ?_
      refine j_iadd E dL_law_828 ?_
      obtain ⟨x202, h202, h⟩ := jb h
      refine j_sld E X h202 dL_law_829 ?_
      refine j_aload_n E 0 dL_law_830 rfl rfl ?_
      refine j_iload_n E 3 dL_law_831 rfl rfl ?_
      refine j_iconst (v := (4 : Int32)) E dL_law_832 (by decide) ?_
      refine j_iadd E dL_law_833 ?_
      obtain ⟨x203, h203, h⟩ := jb h
      refine j_sld E X h203 dL_law_834 ?_
      obtain ⟨u204, h204, h⟩ := jb h
      obtain ⟨fs204, h204⟩ := chk_spec h204
      obtain ⟨r205, h205, h⟩ := jb h
      refine j_less (Nat.le_of_eq (Nat.zero_add _)) (Nat.le_of_eq (Nat.zero_add _)) ?_
      refine j_callV (As := [.int x200, .int x201, .int x202, .int x203]) (b := v1) (rest := []) (mc1 := 0) (ms1 := 0) E (sX5_message h205) lwX5_message lkL_100 imX5_message seX5_message rfl h204 (by decide) rfl (Nat.le_of_ble_eq_true rfl) dL_law_835 ?_
      refine j_aload_n E 2 dL_law_838 rfl rfl ?_
      refine j_aload_n E 0 dL_law_839 rfl rfl ?_
      refine j_iload_n E 3 dL_law_840 rfl rfl ?_
      refine j_iconst (v := (1 : Int32)) E dL_law_841 (by decide) ?_
      refine j_iadd E dL_law_842 ?_
      obtain ⟨x206, h206, h⟩ := jb h
      refine j_sld E X h206 dL_law_843 ?_
      refine j_aload_n E 0 dL_law_844 rfl rfl ?_
      refine j_iload_n E 3 dL_law_845 rfl rfl ?_
      refine j_iconst (v := (2 : Int32)) E dL_law_846 (by decide) ?_
      refine j_iadd E dL_law_847 ?_
      obtain ⟨x207, h207, h⟩ := jb h
      refine j_sld E X h207 dL_law_848 ?_
      refine j_aload_n E 0 dL_law_849 rfl rfl ?_
      refine j_iload_n E 3 dL_law_850 rfl rfl ?_
      refine j_iconst (v := (3 : Int32)) E dL_law_851 (by decide) ?_
      refine j_iadd E dL_law_852 ?_
      obtain ⟨x208, h208, h⟩ := jb h
      refine j_sld E X h208 dL_law_853 ?_
      refine j_aload_n E 0 dL_law_854 rfl rfl ?_
      refine j_iload_n E 3 dL_law_855 rfl rfl ?_
      refine j_iconst (v := (4 : Int32)) E dL_law_856 (by decide) ?_
      refine j_iadd E dL_law_857 ?_
      obtain ⟨x209, h209, h⟩ := jb h
      refine j_sld E X h209 dL_law_858 ?_
      obtain ⟨u210, h210, h⟩ := jb h
      obtain ⟨fs210, h210⟩ := chk_spec h210
      obtain ⟨r211, h211, h⟩ := jb h
      refine j_less (Nat.le_of_eq (Nat.zero_add _)) (Nat.le_of_eq (Nat.zero_add _)) ?_
      refine j_callV (As := [.int x206, .int x207, .int x208, .int x209]) (b := v2) (rest := [.int r205.1]) (mc1 := 0) (ms1 := 0) E (sX6_message h211) lwX6_message lkL_103 imX6_message seX6_message rfl h210 (by decide) rfl (Nat.le_of_ble_eq_true rfl) dL_law_859 ?_
      refine j_icmp_eq (tgt := 913) E dL_law_862 (by decide) (fun hc212 => ?_) (fun hc212 => ?_)
      · replace h := jt hc212 h
        refine j_iinc (v := (v3 + (5 : Int32))) (lv' := [(3, .int (v3 + (5 : Int32))), (0, .ref b), (1, .ref v1), (2, .ref v2)]) E 3 dL_law_913 rfl rfl (by decide) rfl ?_
        refine j_goto (tgt := 28) E dL_law_916 (by decide) ?_
        exact j_sub [1, 2, 3, 0] rfl (ih _ _ _ _ h hr1)
      replace h := jf hc212 h
      refine j_iconst (v := (0 : Int32)) E dL_law_865 (by decide) ?_
      cases h
      exact absurd hr1 (by show ¬ (0 : Int32) = 1; decide)
    replace h := jf hc199 h
    by_cases hc213 : (x2 &&& (31 : Int32)) = (19 : Int32)
    · replace h := jt hc213 h
      refine j_tableIn (off := 825) (tgt := 867) E dL_law_42 (by rw [hc213]; decide) (by rw [hc213]; decide) (by rw [hc213]; rfl) (by decide) ?_
      refine j_aload_n E 1 dL_law_867 rfl rfl ?_
      refine j_aload_n E 0 dL_law_868 rfl rfl ?_
      refine j_iload_n E 3 dL_law_869 rfl rfl ?_
      refine j_iconst (v := (1 : Int32)) E dL_law_870 (by decide) ?_
      refine j_iadd E dL_law_871 ?_
      obtain ⟨x214, h214, h⟩ := jb h
      refine j_sld E X h214 dL_law_872 ?_
      refine j_aload_n E 0 dL_law_873 rfl rfl ?_
      refine j_iload_n E 3 dL_law_874 rfl rfl ?_
      refine j_iconst (v := (2 : Int32)) E dL_law_875 (by decide) ?_
      refine j_iadd E dL_law_876 ?_
      obtain ⟨x215, h215, h⟩ := jb h
      refine j_sld E X h215 dL_law_877 ?_
      obtain ⟨u216, h216, h⟩ := jb h
      obtain ⟨fs216, h216⟩ := chk_spec h216
      obtain ⟨r217, h217, h⟩ := jb h
      refine j_less (Nat.le_of_eq (Nat.zero_add _)) (Nat.le_of_eq (Nat.zero_add _)) ?_
      refine j_callV (As := [.int x214, .int x215]) (b := v1) (rest := []) (mc1 := 0) (ms1 := 0) E (sX5_count h217) lwX5_count lkL_104 imX5_count seX5_count rfl h216 (by decide) rfl (Nat.le_of_ble_eq_true rfl) dL_law_878 ?_
      refine j_aload_n E 2 dL_law_881 rfl rfl ?_
      refine j_aload_n E 0 dL_law_882 rfl rfl ?_
      refine j_iload_n E 3 dL_law_883 rfl rfl ?_
      refine j_iconst (v := (1 : Int32)) E dL_law_884 (by decide) ?_
      refine j_iadd E dL_law_885 ?_
      obtain ⟨x218, h218, h⟩ := jb h
      refine j_sld E X h218 dL_law_886 ?_
      refine j_aload_n E 0 dL_law_887 rfl rfl ?_
      refine j_iload_n E 3 dL_law_888 rfl rfl ?_
      refine j_iconst (v := (2 : Int32)) E dL_law_889 (by decide) ?_
      refine j_iadd E dL_law_890 ?_
      obtain ⟨x219, h219, h⟩ := jb h
      refine j_sld E X h219 dL_law_891 ?_
      obtain ⟨u220, h220, h⟩ := jb h
      obtain ⟨fs220, h220⟩ := chk_spec h220
      obtain ⟨r221, h221, h⟩ := jb h
      refine j_less (Nat.le_of_eq (Nat.zero_add _)) (Nat.le_of_eq (Nat.zero_add _)) ?_
      refine j_callV (As := [.int x218, .int x219]) (b := v2) (rest := [.int r217.1]) (mc1 := 0) (ms1 := 0) E (sX6_count h221) lwX6_count lkL_107 imX6_count seX6_count rfl h220 (by decide) rfl (Nat.le_of_ble_eq_true rfl) dL_law_892 ?_
      refine j_icmp_eq (tgt := 913) E dL_law_895 (by decide) (fun hc222 => ?_) (fun hc222 => ?_)
      · replace h := jt hc222 h
        refine j_iinc (v := (v3 + (5 : Int32))) (lv' := [(3, .int (v3 + (5 : Int32))), (0, .ref b), (1, .ref v1), (2, .ref v2)]) E 3 dL_law_913 rfl rfl (by decide) rfl ?_
        refine j_goto (tgt := 28) E dL_law_916 (by decide) ?_
        exact j_sub [1, 2, 3, 0] rfl (ih _ _ _ _ h hr1)
      replace h := jf hc222 h
      refine j_iconst (v := (0 : Int32)) E dL_law_898 (by decide) ?_
      cases h
      exact absurd hr1 (by show ¬ (0 : Int32) = 1; decide)
    replace h := jf hc213 h
    by_cases hc223 : (x2 &&& (31 : Int32)) = (20 : Int32)
    · replace h := jt hc223 h
      refine j_tableIn (off := 858) (tgt := 900) E dL_law_42 (by rw [hc223]; decide) (by rw [hc223]; decide) (by rw [hc223]; rfl) (by decide) ?_
      refine j_aload_n E 1 dL_law_900 rfl rfl ?_
      obtain ⟨u224, h224, h⟩ := jb h
      obtain ⟨fs224, h224⟩ := chk_spec h224
      obtain ⟨r225, h225, h⟩ := jb h
      refine j_less (Nat.le_of_eq (Nat.zero_add _)) (Nat.le_of_eq (Nat.zero_add _)) ?_
      refine j_callV (As := []) (b := v1) (rest := []) (mc1 := 0) (ms1 := 0) E (sX5_isEven h225) lwX5_isEven lkL_108 imX5_isEven seX5_isEven rfl h224 (by decide) rfl (Nat.le_of_ble_eq_true rfl) dL_law_901 ?_
      refine j_aload_n E 2 dL_law_904 rfl rfl ?_
      obtain ⟨u226, h226, h⟩ := jb h
      obtain ⟨fs226, h226⟩ := chk_spec h226
      obtain ⟨r227, h227, h⟩ := jb h
      refine j_less (Nat.le_of_eq (Nat.zero_add _)) (Nat.le_of_eq (Nat.zero_add _)) ?_
      refine j_callV (As := []) (b := v2) (rest := [.int r225.1]) (mc1 := 0) (ms1 := 0) E (sX6_isEven h227) lwX6_isEven lkL_112 imX6_isEven seX6_isEven rfl h226 (by decide) rfl (Nat.le_of_ble_eq_true rfl) dL_law_905 ?_
      refine j_icmp_eq (tgt := 913) E dL_law_908 (by decide) (fun hc228 => ?_) (fun hc228 => ?_)
      · replace h := jt hc228 h
        refine j_iinc (v := (v3 + (5 : Int32))) (lv' := [(3, .int (v3 + (5 : Int32))), (0, .ref b), (1, .ref v1), (2, .ref v2)]) E 3 dL_law_913 rfl rfl (by decide) rfl ?_
        refine j_goto (tgt := 28) E dL_law_916 (by decide) ?_
        exact j_sub [1, 2, 3, 0] rfl (ih _ _ _ _ h hr1)
      replace h := jf hc228 h
      refine j_iconst (v := (0 : Int32)) E dL_law_911 (by decide) ?_
      cases h
      exact absurd hr1 (by show ¬ (0 : Int32) = 1; decide)
    replace h := jf hc223 h
    have q3 := jne (0 : Int32) (k := 0) rfl hc3
    have q15 := jne (1 : Int32) (k := 1) rfl hc15
    have q29 := jne (2 : Int32) (k := 2) rfl hc29
    have q43 := jne (3 : Int32) (k := 3) rfl hc43
    have q55 := jne (4 : Int32) (k := 4) rfl hc55
    have q65 := jne (5 : Int32) (k := 5) rfl hc65
    have q79 := jne (6 : Int32) (k := 6) rfl hc79
    have q89 := jne (7 : Int32) (k := 7) rfl hc89
    have q99 := jne (8 : Int32) (k := 8) rfl hc99
    have q107 := jne (9 : Int32) (k := 9) rfl hc107
    have q115 := jne (10 : Int32) (k := 10) rfl hc115
    have q125 := jne (11 : Int32) (k := 11) rfl hc125
    have q131 := jne (12 : Int32) (k := 12) rfl hc131
    have q137 := jne (13 : Int32) (k := 13) rfl hc137
    have q149 := jne (14 : Int32) (k := 14) rfl hc149
    have q163 := jne (15 : Int32) (k := 15) rfl hc163
    have q175 := jne (16 : Int32) (k := 16) rfl hc175
    have q187 := jne (17 : Int32) (k := 17) rfl hc187
    have q199 := jne (18 : Int32) (k := 18) rfl hc199
    have q213 := jne (19 : Int32) (k := 19) rfl hc213
    have q223 := jne (20 : Int32) (k := 20) rfl hc223
    refine j_tableOut (tgt := 913) E dL_law_42 (by omega) (by decide) ?_
    refine j_iinc (v := (v3 + (5 : Int32))) (lv' := [(3, .int (v3 + (5 : Int32))), (0, .ref b), (1, .ref v1), (2, .ref v2)]) E 3 dL_law_913 rfl rfl (by decide) rfl ?_
    refine j_goto (tgt := 28) E dL_law_916 (by decide) ?_
    exact j_sub [1, 2, 3, 0] rfl (ih _ _ _ _ h hr1)
def mL_law (fu L : Nat) (xs : Nat → Int32) (f : jM) (sz : Nat) : Option jRL :=
    ((nwO 5 [.null, .null, .null, .null] f sz).bind fun f229 =>
    (mX5_init fu f229 (sz + 1) sz (jscr L xs)).bind fun r230 => (
    ((nwO 6 [.int 0, .int 0, .null, .null, .null, .null, .null, .null, .null, .null, .null, .null, .null, .int 0, .null, .null, .null, .null, .null, .null, .null, .null, .int 0, .null, .null, .null, .null, .null] r230.1 r230.2.1).bind fun f231 =>
    (mX6_init f231 (r230.2.1 + 1) r230.2.1 (jscr L xs)).bind fun r232 => (
    mL_law_L28 fu L xs sz r230.2.1 fu (1 : Int32) r232.1 r232.2.1).map (jcnt r232.2.2.1 r232.2.2.2)).map (jcnt 1 28)).map (jcnt r230.2.2.1 r230.2.2.2)).map (jcnt 1 4)
set_option maxRecDepth 100000 in
set_option maxHeartbeats 8000000 in
theorem wL_law {c : jS} {fu b L : Nat} {xs : Nat → Int32} {f : jM} {sz : Nat} {res : jRL} (E : jOk c cL_law 4 RL (some .boolean) 8 193) (X : jScr c b L xs) (HL : jLaw c b) (h : mL_law fu L xs f sz = some res) (hr1 : res.1 = 1) : J c (lw_Z (j_b c) (j_a c) (j_s c)) f sz res.2.2.1 res.2.2.2 0 [(0, .ref b)] [] := by
  unfold mL_law at h
  obtain ⟨r229, q229, e229⟩ := jmp h
  clear h
  subst e229
  have h := q229
  obtain ⟨f229, h229, h⟩ := jb h
  have h229 := nwO_spec h229
  subst h229
  refine j_new (ci := 5) (fs := [.null, .null, .null, .null]) (rc := r229.2.2.1) (rs := r229.2.2.2) E tyX5 rfl in_X5 tyX5_ok clL_7 insX5 iniX5 (fun j hj => by rcases (show j = 0 ∨ j = 1 ∨ j = 2 ∨ j = 3 by omega) with rfl | rfl | rfl | rfl <;> rfl) dL_law_0 ?_
  refine j_dup E dL_law_3 rfl ?_
  refine j_aload_n E 0 dL_law_4 rfl rfl ?_
  refine j_iconst (v := (0 : Int32)) E dL_law_5 (by decide) ?_
  refine j_scell (rest := [.ref sz, .ref sz]) E X (by decide) (Nat.le_of_ble_eq_true rfl) dL_law_6 ?_
  obtain ⟨r230, h230, h⟩ := jb h
  obtain ⟨z230, q230, e230⟩ := jmp h
  clear h
  subst e230
  have h := q230
  refine j_callI (As := [.int (jscr L xs)]) (b := sz) (rest := [.ref sz]) (rc := z230.2.2.1) (rs := z230.2.2.2) E (sX5_init h230) lwX5_init lkL_15 imX5_init rfl (by decide) rfl (Nat.le_of_ble_eq_true rfl) dL_law_9 ?_
  refine j_astore_n (lv' := [(1, .ref sz), (0, .ref b)]) E dL_law_12 rfl (by decide) rfl ?_
  obtain ⟨r231, q231, e231⟩ := jmp h
  clear h
  subst e231
  have h := q231
  obtain ⟨f231, h231, h⟩ := jb h
  have h231 := nwO_spec h231
  subst h231
  refine j_new (ci := 6) (fs := [.int 0, .int 0, .null, .null, .null, .null, .null, .null, .null, .null, .null, .null, .null, .int 0, .null, .null, .null, .null, .null, .null, .null, .null, .int 0, .null, .null, .null, .null, .null]) (rc := r231.2.2.1) (rs := r231.2.2.2) E tyX6 rfl in_X6 tyX6_ok clL_18 insX6 iniX6 (fun j hj => by rcases (show j = 0 ∨ j = 1 ∨ j = 2 ∨ j = 3 ∨ j = 4 ∨ j = 5 ∨ j = 6 ∨ j = 7 ∨ j = 8 ∨ j = 9 ∨ j = 10 ∨ j = 11 ∨ j = 12 ∨ j = 13 ∨ j = 14 ∨ j = 15 ∨ j = 16 ∨ j = 17 ∨ j = 18 ∨ j = 19 ∨ j = 20 ∨ j = 21 ∨ j = 22 ∨ j = 23 ∨ j = 24 ∨ j = 25 ∨ j = 26 ∨ j = 27 by omega) with rfl | rfl | rfl | rfl | rfl | rfl | rfl | rfl | rfl | rfl | rfl | rfl | rfl | rfl | rfl | rfl | rfl | rfl | rfl | rfl | rfl | rfl | rfl | rfl | rfl | rfl | rfl | rfl <;> rfl) dL_law_13 ?_
  refine j_dup E dL_law_16 rfl ?_
  refine j_aload_n E 1 dL_law_17 rfl rfl ?_
  refine j_iconst (v := (0 : Int32)) E dL_law_18 (by decide) ?_
  refine j_scell (rest := [.ref r230.2.1, .ref r230.2.1]) E X (by decide) (Nat.le_of_ble_eq_true rfl) dL_law_19 ?_
  obtain ⟨r232, h232, h⟩ := jb h
  obtain ⟨z232, q232, e232⟩ := jmp h
  clear h
  subst e232
  have h := q232
  refine j_callI (As := [.int (jscr L xs)]) (b := r230.2.1) (rest := [.ref r230.2.1]) (rc := z232.2.2.1) (rs := z232.2.2.2) E (sX6_init h232) lwX6_init lkL_20 imX6_init rfl (by decide) rfl (Nat.le_of_ble_eq_true rfl) dL_law_22 ?_
  refine j_astore_n (lv' := [(2, .ref r230.2.1), (1, .ref sz), (0, .ref b)]) E dL_law_25 rfl (by decide) rfl ?_
  refine j_iconst (v := (1 : Int32)) E dL_law_26 (by decide) ?_
  refine j_istore_n (lv' := [(3, .int (1 : Int32)), (2, .ref r230.2.1), (1, .ref sz), (0, .ref b)]) E dL_law_27 rfl (by decide) rfl ?_
  exact j_sub [3, 2, 1, 0] rfl (wL_law_L28 E X HL _ _ _ _ _ h hr1)
