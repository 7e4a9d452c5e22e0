/-! THE CLAIM OUT OF ONE WALK OF THE LAW'S BODY. Your part is whole_start (and what it stands on); all else here is the same for every law, but numbers. -/
def R_law : String := "WheelWeeksLaw"
def lw_P (b : Addr) (xs : List Int32) (args : Array Value) (s : State) : Prop := args = #[.ref b] ∧ s.IntsAt b xs ∧ xs.length ≤ 384 ∧ (Jvm.Cond.and given_1 narrow_1).before args s = true
def lw_Q (_ : Array Value) (s : State) (o : Outcome) (t : State) : Prop := o = .returned (some (.int 1)) ∧ Framed s o t [] 600000 7302250
def lw_Z (below : List Frame) (a : Array Value) (s : State) : State → Prop := fun t => ∃ o, t.status = .running ∧ Ended t below o ∧ lw_Q a s o t
/-- the law's own end, with 1 on the stack, nothing written that was there before, its room as the claim has it -/
theorem lw_ret {p : Program} {l : Launch} {e : Env} {s : State} {m : MethodId} {below : List Frame} {meth : Method} {c : Code} {b : Nat} (hx : p.tables.exec = Jvm.exec) (hb : c.code = code) (hr : meth.sig.returnType = ret) (hlocks : meth.locks = false) {pc : Nat} {H : Heap} {ls : Array Slot} (hdg : decode code pc = .ok (.ireturn, 1)) : W p l e room_1 s m #[Value.ref b] below meth c H [] 600000 7302250 (lw_Z below #[Value.ref b] s) (F0 m pc ls [.int 1]) := by
  intro T hT X
  obtain ⟨fs, hret, hrun, hended, hW, hframe⟩ := X.leave (v := some (.int 1)) (hlocks := hlocks) (fun h => by rw [hr] at h; cases h)
  have hmeth' : T.vm.method? m = some meth := X.method'
  refine ⟨T.setFrames fs, ?_, .returned (some (.int 1)), hrun, hended, rfl, ⟨_, rfl⟩, hW, hframe⟩
  jvm_step X.here [X.here.top, hx, hb, hdg, hmeth', hr, ret, narrow_b1]
  (try refine ⟨rfl, ?_⟩); (try refine ⟨rfl, ?_⟩)
  first | (intro acts; rw [hret _ acts rfl rfl rfl]) | rw [hret _ _ rfl rfl rfl]
  exact Steps.refl _
/-- what holds at the law's entry: the machine, the code, the tables' words (any of lw_tbl by 'hts w (by decide +kernel)'), the script of L ints xs at the cell b, what the Statement gives of the start (any of its parts by flat_of_before) -/
def lw_At (p : Program) (s : State) (m : MethodId) (meth : Method) (c : Code) (b L : Nat) (xs : Nat → Int32) : Prop :=
  p.tables.exec = Jvm.exec ∧ c.code = code ∧ meth.sig.returnType = ret ∧ c.maxLocals = 4 ∧ s.vm.findClass R_law = some m.cls ∧ (∀ w ∈ lw_tbl, w.before #[Value.ref b] s = true) ∧ va_X b L xs s s.heap ∧ b < s.heap.size ∧ meth.locks = false ∧ (Jvm.Cond.and given_1 narrow_1).before #[Value.ref b] s = true
/-! what the fixed things of the world are, at the law's entry -/
theorem env_arr {args : Array Value} {s : State} {ty : FieldType} (hne : ∀ C, ty ≠ .object C) (h : (Cond.arrayClass ty).before args s = true) : ∃ cA : ClassId, ArrOfT s cA ty ∧ va_RA s cA ty := by
  obtain ⟨cA, k, comp, h1, h2, h3⟩ := Cond.arrayClass_spec h
  refine ⟨cA, fun n z => ⟨fun k h => (by cases h), k, h2, comp, h3⟩, ?_⟩
  cases ty with
  | object C => exact absurd rfl (hne C)
  | _ => exact h1
theorem env_obj {args : Array Value} {s : State} {C : String} (h : (Cond.arrayOver (.object C)).before args s = true) : ∃ cA : ClassId, ArrOfT s cA (.object C) ∧ va_RA s cA (.object C) := by
  obtain ⟨comp, cA, k, h1, -, h2, h3, h4⟩ := Cond.arrayOver_spec h
  exact ⟨cA, fun n z => ⟨fun k h => (by cases h), k, h2, comp, h3⟩, k, comp, h2, h3, h1, h4⟩
theorem env_aa {args : Array Value} {s : State} (h : (Cond.arrayOver (.array .int)).before args s = true) : ∃ cA : ClassId, ArrOfT s cA (.array .int) ∧ va_RA s cA (.array .int) := by
  obtain ⟨comp, cA, k, h1, h2, h3, h4⟩ := Cond.arrayOver_specA h
  exact ⟨cA, fun n z => ⟨fun k h => (by cases h), k, h2, comp, h3⟩, h4⟩
theorem env_LETTERS {b : Nat} {s : State} {A : Nat → Prop} (hts : ∀ w ∈ lw_tbl, w.before #[Value.ref b] s = true) (hgv : (Jvm.Cond.and given_1 narrow_1).before #[Value.ref b] s = true) (hA : ∀ a : Nat, a < s.heap.size → ¬ A a) : ∃ t : Nat, va_Z RX5 "LETTERS" "[I" (.ref t) A s s.heap ∧ va_T .int t 6 lettersF A s s.heap := by
  have hs := flat_of_before _ hgv
  obtain ⟨t, h1, h2⟩ := va_Tof (args := #[Value.ref b]) (tm := .static RX5 "LETTERS" "[I") (ty := .int) (N := 6) (f := lettersF) (by decide) (hs (Cond.arrayOf (.static RX5 "LETTERS" "[I") .int) (by decide +kernel)) (va_eqt (hs (Cond.eq (.length (.static RX5 "LETTERS" "[I")) (.int 6)) (by decide +kernel))) (fun j hj => by
    match j, hj with
    | 0, _ => exact va_eqt (hs (Cond.eq (.elem (.static RX5 "LETTERS" "[I") (.int 0)) (.int 99)) (by decide +kernel))
    | 1, _ => exact va_eqt (hs (Cond.eq (.elem (.static RX5 "LETTERS" "[I") (.int 1)) (.int 115)) (by decide +kernel))
    | 2, _ => exact va_eqt (hs (Cond.eq (.elem (.static RX5 "LETTERS" "[I") (.int 2)) (.int 101)) (by decide +kernel))
    | 3, _ => exact va_eqt (hs (Cond.eq (.elem (.static RX5 "LETTERS" "[I") (.int 3)) (.int 103)) (by decide +kernel))
    | 4, _ => exact va_eqt (hs (Cond.eq (.elem (.static RX5 "LETTERS" "[I") (.int 4)) (.int 105)) (by decide +kernel))
    | 5, _ => exact va_eqt (hs (Cond.eq (.elem (.static RX5 "LETTERS" "[I") (.int 5)) (.int 117)) (by decide +kernel))
    | k + 6, h => exact absurd h (by omega)) hA
  exact ⟨t, va_Zof (hts (Cond.laysStatic RX5 "LETTERS" "[I") (by decide +kernel)) (hts (Cond.initialized RX5) (gw_tbl mz_X5)) h1 hA, h2⟩
theorem env_PARENTS {b : Nat} {s : State} {A : Nat → Prop} (hts : ∀ w ∈ lw_tbl, w.before #[Value.ref b] s = true) (hgv : (Jvm.Cond.and given_1 narrow_1).before #[Value.ref b] s = true) (hA : ∀ a : Nat, a < s.heap.size → ¬ A a) : ∃ t : Nat, va_Z RX5 "PARENTS" "[I" (.ref t) A s s.heap ∧ va_T .int t 6 parentsF A s s.heap := by
  have hs := flat_of_before _ hgv
  obtain ⟨t, h1, h2⟩ := va_Tof (args := #[Value.ref b]) (tm := .static RX5 "PARENTS" "[I") (ty := .int) (N := 6) (f := parentsF) (by decide) (hs (Cond.arrayOf (.static RX5 "PARENTS" "[I") .int) (by decide +kernel)) (va_eqt (hs (Cond.eq (.length (.static RX5 "PARENTS" "[I")) (.int 6)) (by decide +kernel))) (fun j hj => by
    match j, hj with
    | 0, _ => exact va_eqt (hs (Cond.eq (.elem (.static RX5 "PARENTS" "[I") (.int 0)) (.int 0)) (by decide +kernel))
    | 1, _ => exact va_eqt (hs (Cond.eq (.elem (.static RX5 "PARENTS" "[I") (.int 1)) (.int 0)) (by decide +kernel))
    | 2, _ => exact va_eqt (hs (Cond.eq (.elem (.static RX5 "PARENTS" "[I") (.int 2)) (.int 0)) (by decide +kernel))
    | 3, _ => exact va_eqt (hs (Cond.eq (.elem (.static RX5 "PARENTS" "[I") (.int 3)) (.int 2)) (by decide +kernel))
    | 4, _ => exact va_eqt (hs (Cond.eq (.elem (.static RX5 "PARENTS" "[I") (.int 4)) (.int 0)) (by decide +kernel))
    | 5, _ => exact va_eqt (hs (Cond.eq (.elem (.static RX5 "PARENTS" "[I") (.int 5)) (.int 4)) (by decide +kernel))
    | k + 6, h => exact absurd h (by omega)) hA
  exact ⟨t, va_Zof (hts (Cond.laysStatic RX5 "PARENTS" "[I") (by decide +kernel)) (hts (Cond.initialized RX5) (gw_tbl mz_X5)) h1 hA, h2⟩
theorem env_nest {b : Nat} {s : State} (hts : ∀ w ∈ lw_tbl, w.before #[Value.ref b] s = true) : NG s := by
  intro w hw
  have ho : w.onTables = true := (by decide +kernel : ∀ w ∈ nestW, w.onTables = true) w hw
  exact va_Nw.of ho (hts w ((by decide +kernel : ∀ w ∈ nestW, w ∈ lw_tbl) w hw))
set_option maxHeartbeats 4000000 in
theorem env_all {p : Program} {s : State} {m : MethodId} {meth : Method} {c : Code} {b L : Nat} {xs : Nat → Int32} (C0 : lw_At p s m meth c b L xs) : ∃ G : GG, Cx p s m #[Value.ref b] meth c G (fun q => s.heap.size ≤ q) RL code 4 ret ∧ AOG s := by
  obtain ⟨hx, hb, hr, hml, hown, hts, hX, hbl, hlocks, hgv⟩ := C0
  have hA : ∀ a : Nat, a < s.heap.size → ¬ (fun q => s.heap.size ≤ q) a := fun a h => Nat.not_le.mpr h
  obtain ⟨tL, zL⟩ := env_LETTERS hts hgv hA
  obtain ⟨tP, zP⟩ := env_PARENTS hts hgv hA
  obtain ⟨c0, i0, k0⟩ := u_known (C := RX0) (T := TX0) (N := 3) (n := 3) hts (fun w h => gw_tbl (inX0 w h)) (hts _ (gw_tbl mo_in_0))
  obtain ⟨c1, i1, k1⟩ := u_known (C := RX1) (T := TX1) (N := 4) (n := 4) hts (fun w h => gw_tbl (inX1 w h)) (hts _ (gw_tbl mo_in_1))
  obtain ⟨c2, i2, k2⟩ := u_known (C := RX2) (T := TX2) (N := 4) (n := 4) hts (fun w h => gw_tbl (inX2 w h)) (hts _ (gw_tbl mo_in_2))
  obtain ⟨c3, i3, k3⟩ := u_known (C := RX3) (T := TX3) (N := 3) (n := 3) hts (fun w h => gw_tbl (inX3 w h)) (hts _ (gw_tbl mo_in_3))
  obtain ⟨c4, i4, k4⟩ := u_known (C := RX4) (T := TX4) (N := 11) (n := 11) hts (fun w h => gw_tbl (inX4 w h)) (hts _ (gw_tbl mo_in_4))
  obtain ⟨c5, i5, k5⟩ := u_known (C := RX5) (T := TX5) (N := 11) (n := 11) hts (fun w h => gw_tbl (inX5 w h)) (hts _ (gw_tbl mo_in_5))
  obtain ⟨c6, i6, k6⟩ := u_known (C := RX6) (T := TX6) (N := 34) (n := 34) hts (fun w h => gw_tbl (inX6 w h)) (hts _ (gw_tbl mo_in_6))
  obtain ⟨aI, hI⟩ := env_arr (ty := .int) (fun C h => by cases h) (hts _ (gw_tbl mo_ai))
  obtain ⟨aB, hB⟩ := env_arr (ty := .byte) (fun C h => by cases h) (hts _ (gw_tbl mo_ab))
  obtain ⟨aL, hL⟩ := env_arr (ty := .long) (fun C h => by cases h) (hts _ (gw_tbl mo_al))
  obtain ⟨aC, hC⟩ := env_obj (hts _ mo_oc)
  obtain ⟨aA, hAA⟩ := env_aa (hts _ mo_oi)
  have hO : AOG s := ⟨hts _ mo_oc, hts _ mo_oi⟩
  refine ⟨((fun k => ([c0, c1, c2, c3, c4, c5, c6] : List ClassId).getD k c0, fun k => ([i0, i1, i2, i3, i4, i5, i6] : List (Nat → Nat)).getD k i0), fun k => ([aI, aB, aL, aC, aA] : List ClassId).getD k aI, tL, tP), ⟨hx, hb, hml, hr, hlocks, hown, fun w h => hts w (gw_tbl h), ⟨fun k q hq => ?_, fun k q hq => ?_⟩, env_nest hts, ⟨zL, zP⟩, fun q h => h⟩, hO⟩
  · match k, hq with
    | 0, hq => cases hq; exact k0
    | 1, hq => cases hq; exact k1
    | 2, hq => cases hq; exact k2
    | 3, hq => cases hq; exact k3
    | 4, hq => cases hq; exact k4
    | 5, hq => cases hq; exact k5
    | 6, hq => cases hq; exact k6
    | k + 7, hq => simp [vwCl] at hq
  · match k, hq with
    | 0, hq => cases hq; exact hI
    | 1, hq => cases hq; exact hB
    | 2, hq => cases hq; exact hL
    | 3, hq => cases hq; exact hC
    | 4, hq => cases hq; exact hAA
    | k + 5, hq => simp [tyG] at hq
