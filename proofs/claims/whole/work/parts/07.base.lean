theorem mnat_arraycopy : Cond.native arraycopyName ∈ lw_tbl := List.mem_of_getElem? (i := 336) (by decide +kernel)
abbrev Ar : Type := Nat → Int32
abbrev ArL : Type := Nat → Int64
abbrev ix (i : Int32) : Nat := i.toNatClampNeg
def inb (i : Int32) (n : Nat) : Bool := decide (¬ i < 0) && decide (i.toNatClampNeg < n)
theorem inb_in {i : Int32} {n : Nat} (h : inb i n = true) : vp_in i n := by
  simp only [inb, Bool.and_eq_true, decide_eq_true_eq] at h
  exact fun q => q.elim h.1 (fun z => absurd h.2 (Nat.not_lt.mpr z))
def gd {α : Type} (b : Bool) (k : Option α) : Option α := match b with
  | true => k
  | false => none
theorem gd_some {α : Type} {b : Bool} {k : Option α} {r : α} (h : gd b k = some r) : b = true ∧ k = some r := by
  cases b
  · cases h
  · exact ⟨rfl, h⟩
def nm {α β : Type} (e : α) (f : α → β) : β := f e
theorem nm_s {α β : Type} {e x : α} {f : α → Option β} {r : β} (ex : x = e) (h : nm e f = some r) : f x = some r := by rw [ex]; exact h
theorem if_t {α : Type} {c : Prop} {i : Decidable c} {a b : Option α} {r : α} (h : c) (hf : @ite _ c i a b = some r) : a = some r := by rw [if_pos h] at hf; exact hf
theorem if_f {α : Type} {c : Prop} {i : Decidable c} {a b : Option α} {r : α} (h : ¬ c) (hf : @ite _ c i a b = some r) : b = some r := by rw [if_neg h] at hf; exact hf
theorem ob_s {α β : Type} {a : Option α} {f : α → Option β} {r : β} (h : Option.bind a f = some r) : ∃ x, a = some x ∧ f x = some r := by
  cases a with
  | none => cases h
  | some x => exact ⟨x, rfl, h⟩
theorem om_s {α β : Type} {a : Option α} {f : α → β} {r : β} (h : Option.map f a = some r) : ∃ x, a = some x ∧ f x = r := by
  cases a with
  | none => cases h
  | some x => exact ⟨x, rfl, Option.some.inj h⟩
def lp {σ ρ : Type} (body : σ → Option (σ ⊕ ρ)) : Nat → σ → Option ρ
  | 0, _ => none
  | n + 1, st => match body st with
    | none => none
    | some (.inl st') => lp body n st'
    | some (.inr o) => some o
theorem lp_sound {σ ρ : Type} {body : σ → Option (σ ⊕ ρ)} {P : σ → Prop} {Z : ρ → Prop} (step : ∀ st r, body st = some r → Sum.elim P Z r → P st) : ∀ n st o, lp body n st = some o → Z o → P st
  | 0, st, o, h, _ => by cases h
  | n + 1, st, o, h, hz => by
    unfold lp at h
    cases hb : body st with
    | none => rw [hb] at h; cases h
    | some r =>
      rw [hb] at h
      cases r with
      | inl st' => exact step st _ hb (lp_sound step n st' o h hz)
      | inr o' => cases h; exact step st _ hb hz
def isB (v : Int32) : Bool := decide (v = 0) || decide (v = 1)
theorem isB_or {v : Int32} (h : isB v = true) : v = 0 ∨ v = 1 := by simpa [isB] using h
theorem isB_nar {v : Int32} (h : isB v = true) : narrow .boolean (.int v) = .int v := by
  rcases isB_or h with rfl | rfl <;> rfl
theorem isB_fits {v : Int32} (h : isB v = true) : fits .boolean (.int v) = true := by
  rcases isB_or h with rfl | rfl <;> rfl
def jmax (x y : Int32) : Int32 := if x < y then y else x
def jmin (x y : Int32) : Int32 := if y < x then y else x
def jrem (x y : Int32) : Int32 := x - x / y * y
def jremL (x y : Int64) : Int64 := x - x / y * y
def jshl (x y : Int32) : Int32 := x <<< (y &&& 31)
def jshr (x y : Int32) : Int32 := x >>> (y &&& 31)
def jushr (x y : Int32) : Int32 := (x.toUInt32 >>> (y.toUInt32 &&& Int32.toUInt32 31)).toInt32
/-! the world's fixed things: class numbers and slots, array classes, the two static rows -/
abbrev GG : Type := va_G × (Nat → ClassId) × (Nat × Nat)
def tyG (G : GG) : List (ClassId × FieldType) := [(G.2.1 0, .int), (G.2.1 1, .byte), (G.2.1 2, .long), (G.2.1 3, .object RX1), (G.2.1 4, .array .int)]
def lettersF : Nat → Value := fun j => .int (([99, 115, 101, 103, 105, 117] : List Int32).getD j 0)
def parentsF : Nat → Value := fun j => .int (([0, 0, 0, 2, 0, 4] : List Int32).getD j 0)
def KG (G : GG) (U : State) : Prop := va_K G.1 vwCl (tyG G) U
def NG (U : State) : Prop := ∀ w ∈ nestW, va_Nw w U
def ZG (G : GG) (A : Nat → Prop) (U : State) : Prop := (va_Z RX5 "LETTERS" "[I" (.ref G.2.2.1) A U U.heap ∧ va_T .int G.2.2.1 6 lettersF A U U.heap) ∧ (va_Z RX5 "PARENTS" "[I" (.ref G.2.2.2) A U U.heap ∧ va_T .int G.2.2.2 6 parentsF A U U.heap)
def Cx (p : Program) (s : State) (m : MethodId) (args : Array Value) (meth : Method) (c : Code) (G : GG) (A : Nat → Prop) (own : String) (cc : ByteArray) (nL : Nat) (ret : Option FieldType) : Prop :=
  p.tables.exec = Jvm.exec ∧ c.code = cc ∧ c.maxLocals = nL ∧ meth.sig.returnType = ret ∧ meth.locks = false ∧ s.vm.findClass own = some m.cls ∧ (∀ w ∈ gw, w.before args s = true) ∧ KG G s ∧ NG s ∧ ZG G A s ∧ (∀ q : Nat, s.heap.size ≤ q → A q)
def Wd (G : GG) (A : Nat → Prop) (H0 H : Heap) (ws : va_W) (locs : List Loc) : Prop := va_P G.1 vwCl ws H ∧ va_D A ws ∧ va_S A H0 H locs
def rmD (d : Nat) : Room := { frames := d, cells := 0, slots := 0, locals := 60 * d }
def uw (y : MethodName) (cc : ByteArray) (nL : Nat) (ret : Option FieldType) : List Cond := .code y cc nL ret :: gw
def QN (G : GG) (A : Nat → Prop) (rv : Option Value) (wc' : va_W) : Array Value → State → Outcome → State → Prop := fun _ st oc t => oc = .returned rv ∧ va_P G.1 vwCl wc' t.heap ∧ va_F A st t
def PcN (G : GG) (wc : va_W) (sz : Nat) (U : State) : Prop := U.heap.size = sz ∧ va_P G.1 vwCl wc U.heap ∧ va_D (fun _ => True) wc ∧ KG G U ∧ NG U ∧ ZG G (va_A wc sz) U
def Cn (l : Launch) (G : GG) (d : Nat) (y : MethodName) (cc : ByteArray) (nL : Nat) (ret : Option FieldType) (av : List Value) (wc : va_W) (rv : Option Value) (wc' : va_W) : Prop :=
  ∀ sz : Nat, Met l y (uw y cc nL ret) (rmD d) (va_Pc av (PcN G wc sz)) (QN G (va_A wc sz) rv wc') 0 0 (va_A wc sz)
theorem cn_start {l : Launch} {G : GG} {d : Nat} {y : MethodName} {cc : ByteArray} {nL : Nat} {ret : Option FieldType} {av : List Value} {wc : va_W} {rv : Option Value} {wc' : va_W} (hy : plainName y.cls = true) (hn : (lg_sl av).length ≤ nL)
    (body : ∀ (p : Program) (e : Env) (s : State) (m : MethodId) (below : List Frame) (meth : Method) (c : Code) (A : Nat → Prop) (ls : Array Slot), Cx p s m av.toArray meth c G A y.cls cc nL ret → Wd G A s.heap s.heap wc [] → lv_has ls nL (lv_args 0 av) → W p l e (rmD d) s m av.toArray below meth c s.heap [] 0 0 (MQ below (QN G A rv wc') av.toArray s 0 0 A) (F0 m 0 ls [])) : Cn l G d y cc nL ret av wc rv wc' := by
  intro sz
  refine Met.ofW (cc := cc) (maxL := nL) (ret := ret) hy rfl ?_
  intro p e s m args below meth c s₁ B hml hv
  obtain ⟨rfl, hsz, hP, hD0, hK, hN, hZ⟩ := hv
  subst hsz
  have hts := atoms_spec (ws := uw y cc nL ret) B.pre
  rw [lg_entry_eq]
  exact body p e s m below meth c (va_A wc s.heap.size) _ ⟨B.exec, B.bytes, hml, B.returns, B.notSynchronized, findClass_of_methodNamed B.named, fun w h => hts w (List.mem_cons_of_mem _ h), hK, hN, hZ, fun q h => Or.inr h⟩ ⟨hP, hD0.self, va_S.rf⟩ (lv_entry av hn)
/-! the frame: a call's cells put back at their places -/
def vrep (ws : va_W) : List Nat → va_W → va_W
  | i :: is, e :: es => vrep (ws.set i e) is es
  | _, _ => ws
theorem vrep_get : ∀ (is : List Nat) (ws es : va_W), is.length = es.length → ∀ (j : Nat) (q : Nat × va_E), (vrep ws is es)[j]? = some q → (∃ k : Nat, is[k]? = some j ∧ es[k]? = some q) ∨ (j ∉ is ∧ ws[j]? = some q)
  | [], ws, es, _, j, q, h => Or.inr ⟨List.not_mem_nil, by cases es <;> exact h⟩
  | i :: is, ws, [], hl, j, q, h => by cases hl
  | i :: is, ws, e :: es, hl, j, q, h => by
    have h' : (vrep (ws.set i e) is es)[j]? = some q := h
    rcases vrep_get is (ws.set i e) es (Nat.succ.inj hl) j q h' with ⟨k, h1, h2⟩ | ⟨h1, h2⟩
    · exact Or.inl ⟨k + 1, h1, h2⟩
    · by_cases hj : i = j
      · subst hj
        rw [List.getElem?_set] at h2
        rw [if_pos rfl] at h2
        by_cases hlt : i < ws.length
        · rw [if_pos hlt] at h2
          exact Or.inl ⟨0, rfl, h2⟩
        · rw [if_neg hlt] at h2; cases h2
      · rw [List.getElem?_set, if_neg hj] at h2
        exact Or.inr ⟨fun z => (List.mem_cons.mp z).elim (fun z => hj z.symm) h1, h2⟩
theorem map_at {is : List Nat} {ws wc : va_W} (hC : is.map (fun i => ws[i]?) = wc.map some) {k : Nat} {q : Nat × va_E} (hq : wc[k]? = some q) : ∃ i : Nat, is[k]? = some i ∧ ws[i]? = some q := by
  have h1 : (is.map (fun i => ws[i]?))[k]? = some (some q) := by rw [hC, List.getElem?_map, hq]; rfl
  rw [List.getElem?_map] at h1
  cases hi : is[k]? with
  | none => rw [hi] at h1; cases h1
  | some i => rw [hi] at h1; exact ⟨i, rfl, Option.some.inj h1⟩
theorem same_at {wc wc' : va_W} (h : wc'.map Prod.fst = wc.map Prod.fst) {k : Nat} {q : Nat × va_E} (hq : wc'[k]? = some q) : ∃ q0, wc[k]? = some q0 ∧ q0.1 = q.1 := by
  have h1 : (wc.map Prod.fst)[k]? = some q.1 := by rw [← h, List.getElem?_map, hq]; rfl
  rw [List.getElem?_map] at h1
  cases hi : wc[k]? with
  | none => rw [hi] at h1; cases h1
  | some q0 => rw [hi] at h1; exact ⟨q0, rfl, Option.some.inj h1⟩
section KR
variable {p : Program} {l : Launch} {e : Env} {R : Room} {s : State} {m : MethodId} {args : Array Value} {below : List Frame} {meth : Method} {c : Code} {H : Heap} {locs : List Loc} {cells slots : Nat} {Q : State → Prop}
variable {G : GG} {A : Nat → Prop} {own : String} {cc : ByteArray} {nL : Nat} {ret : Option FieldType} {pc : Nat} {ls : Array Slot} {rest st0 : List Value} {ws : va_W}
theorem k_blind (wc : va_W) (av : List Value) (sz : Nat) : FrameBlind (va_Pc av (PcN G wc sz)) := by
  intro a U g mk h
  obtain ⟨h0, h1, h2, h3, h4, h5, h6⟩ := h
  refine ⟨h0, h1, h2, h3, va_K.moved (u := U) (U := U.calling g mk a) (Vm.Alike.refl U.vm) h4, fun w hw => ?_, ?_⟩
  · have ho : w.onTables = true := (by decide +kernel : ∀ w ∈ nestW, w.onTables = true) w hw
    exact va_Nw.same (u := U) (U := U.calling g mk a) ho rfl (h5 w hw)
  · exact ⟨⟨va_Z.moved (u := U) (U := U.calling g mk a) (Vm.Alike.refl U.vm) h6.1.1, va_T.moved (u := U) (U := U.calling g mk a) (Vm.Alike.refl U.vm) h6.1.2⟩, ⟨va_Z.moved (u := U) (U := U.calling g mk a) (Vm.Alike.refl U.vm) h6.2.1, va_T.moved (u := U) (U := U.calling g mk a) (Vm.Alike.refl U.vm) h6.2.2⟩⟩
theorem nest_warm {s U : State} (hW : s.WarmedH U.vm) (h : NG s) : NG U := by
  intro w hw
  have h1 := h w hw
  simp only [nestW, List.mem_cons, List.not_mem_nil, or_false] at hw
  rcases hw with rfl | rfl | rfl | rfl | rfl | rfl | rfl | rfl | rfl | rfl | rfl <;> first | exact va_Nw.warmM hW h1 | exact va_Nw.warmF hW h1
theorem k_pre (C0 : Cx p s m args meth c G A own cc nL ret) (hW : Wd G A s.heap H ws locs) {wc : va_W} (isC : List Nat) (hnd : va_nd isC = true) (hC : isC.map (fun i => ws[i]?) = wc.map some) (av : List Value) : ∀ U : State, U.heap = H → s.WarmedH U.vm → va_Pc av (PcN G wc H.size) av.toArray U := by
  obtain ⟨-, -, -, -, -, -, -, hK, hN, hZ, hA⟩ := C0
  obtain ⟨hP, hD, hS⟩ := hW
  have hF := va_free (wc := wc) hD hS hA isC hC
  intro U hU hw
  refine ⟨rfl, by rw [hU], ?_, ?_, va_K.moved hw.alike hK, nest_warm hw hN, ?_⟩
  · rw [hU]
    intro k q hk
    obtain ⟨i, -, hi⟩ := map_at hC hk
    exact hP i q hi
  · refine ⟨(hD.sub isC hnd hC).1, fun _ _ _ => trivial⟩
  · have z1 : ∀ {C n d v}, va_Z C n d v A s s.heap → va_Z C n d v (va_A wc H.size) U U.heap := fun h => by
      rw [hU]; exact ((h.kept hS.2.1).moved hw.alike).narrow hF
    have z2 : ∀ {ty t N f}, va_T ty t N f A s s.heap → va_T ty t N f (va_A wc H.size) U U.heap := fun h => by
      rw [hU]; exact ((h.kept hS.2.1).moved hw.alike).narrow hF
    exact ⟨⟨z1 hZ.1.1, z2 hZ.1.2⟩, ⟨z1 hZ.2.1, z2 hZ.2.2⟩⟩
theorem k_run {wc wc' : va_W} {rv : Option Value} {a : Array Value} (C0 : Cx p s m args meth c G A own cc nL ret) (hW : Wd G A s.heap H ws locs) (isC : List Nat) (hC : isC.map (fun i => ws[i]?) = wc.map some) (hsame : wc'.map Prod.fst = wc.map Prod.fst)
    (hr : va_Run p l e R s m args below meth c H locs cells slots 0 0 (F0 m pc ls st0) rest (QN G (va_A wc H.size) rv wc' a) (va_A wc H.size))
    (kk : ∀ (H1 : Heap) (locs1 : List Loc), Wd G A s.heap H1 (vrep ws isC wc') locs1 → W p l e R s m args below meth c H1 locs1 cells slots Q (F0 m (pc + 3) ls (rv.toList ++ rest))) : W p l e R s m args below meth c H locs cells slots Q (F0 m pc ls st0) := by
  obtain ⟨-, -, -, -, -, -, -, -, -, -, hA⟩ := C0
  obtain ⟨hP, hD, hS⟩ := hW
  have hF := va_free (wc := wc) hD hS hA isC hC
  have hlen : isC.length = wc'.length := by
    have h1 := congrArg List.length hC
    have h2 := congrArg List.length hsame
    simp only [List.length_map] at h1 h2
    omega
  intro T hT X
  obtain ⟨v, st₀, t, T', L, h0, X', hL, e1, e2, ⟨hv, hP1, hz, hk⟩, st⟩ := hr T hT X
  cases hv
  rw [h0] at hz hk
  have hW1 : Wd G A s.heap T'.heap (vrep ws isC wc') (locs ++ L) := by
    refine ⟨fun j q hj => ?_, ⟨fun i j x y hi hj hxy => ?_, fun j q hj => ?_⟩, Nat.le_trans hS.1 (by rw [e1]; exact hz), fun q h1 h2 => ?_, fun q hq => ?_⟩
    · rcases vrep_get isC ws wc' hlen j q hj with ⟨k, -, h2⟩ | ⟨h1, h2⟩
      · rw [e1]; exact hP1 k q h2
      · have hat := hP j q h2
        refine hat.kept ?_
        rw [e1]
        refine hk q.1 hat.lt (fun z => ?_)
        rcases z with ⟨k, e9, z⟩ | z
        · obtain ⟨i, g1, g2⟩ := map_at hC z
          have := hD.1 i j _ _ g2 h2 rfl
          subst this
          exact h1 (List.mem_of_getElem? g1)
        · exact absurd hat.lt (Nat.not_lt.mpr z)
    · have back : ∀ (j : Nat) (q : Nat × va_E), (vrep ws isC wc')[j]? = some q → ∃ q0, ws[j]? = some q0 ∧ q0.1 = q.1 := by
        intro j q hj
        rcases vrep_get isC ws wc' hlen j q hj with ⟨k, g1, g2⟩ | ⟨-, g2⟩
        · obtain ⟨q0, g3, g4⟩ := same_at hsame g2
          obtain ⟨i, g5, g6⟩ := map_at hC g3
          rw [g1] at g5
          cases g5
          exact ⟨q0, g6, g4⟩
        · exact ⟨q, g2, rfl⟩
      obtain ⟨x0, a1, a2⟩ := back i x hi
      obtain ⟨y0, b1, b2⟩ := back j y hj
      exact hD.1 i j x0 y0 a1 b1 (by rw [a2, b2]; exact hxy)
    · rcases vrep_get isC ws wc' hlen j q hj with ⟨k, g1, g2⟩ | ⟨-, g2⟩
      · obtain ⟨q0, g3, g4⟩ := same_at hsame g2
        obtain ⟨i, g5, g6⟩ := map_at hC g3
        rw [← g4]
        exact hD.2 i q0 g6
      · exact hD.2 j q g2
    · rw [e1, hk q (Nat.lt_of_lt_of_le h1 hS.1) (fun z => h2 (hF q z))]
      exact hS.2.1 q h1 h2
    · rcases List.mem_append.mp hq with h | h
      · exact hS.2.2 q h
      · exact hF _ (hL q h)
  obtain ⟨t2, a1, b1⟩ := kk T'.heap (locs ++ L) hW1 T' rfl X'
  exact ⟨t2, st t2 a1, b1⟩
theorem gw_in {y : MethodName} {cc2 : ByteArray} {nL2 : Nat} {ret2 : Option FieldType} (h : Cond.code y cc2 nL2 ret2 ∈ gw) : GoodIn gw (uw y cc2 nL2 ret2) := by
  intro w hw
  rcases List.mem_cons.mp hw with rfl | hw
  · exact ⟨h, good_of_word (gw_good h)⟩
  · exact ⟨hw, good_of_word (gw_good hw)⟩
/-- what a call needs to know of the method called: an instance method, a static one -/
def cbV (y : MethodName) (cc2 : ByteArray) (nL2 : Nat) (ret2 : Option FieldType) (n : Nat) : Prop := Cond.instanceMethod y ∈ gw ∧ Cond.selects y.cls y y ∈ gw ∧ Cond.initialized y.cls ∈ gw ∧ Cond.code y cc2 nL2 ret2 ∈ gw ∧ (y.cls ≠ "java/lang/invoke/MethodHandle" ∧ y.cls ≠ "java/lang/invoke/VarHandle" ∧ (parseMethodDescriptor y.desc).map (fun d => d.parameters.length) = some n)
def cbS (y : MethodName) (cc2 : ByteArray) (nL2 : Nat) (ret2 : Option FieldType) (n : Nat) : Prop := Cond.static y ∈ gw ∧ Cond.initialized y.cls ∈ gw ∧ Cond.code y cc2 nL2 ret2 ∈ gw ∧ (y.cls ≠ "java/lang/invoke/MethodHandle" ∧ y.cls ≠ "java/lang/invoke/VarHandle" ∧ (parseMethodDescriptor y.desc).map (fun d => d.parameters.length) = some n)
theorem k_callV {y : MethodName} {cc2 : ByteArray} {nL2 n d idx : Nat} {ret2 : Option FieldType} {b : Nat} {As : List Value} {wc wc' : va_W} {rv : Option Value} (C0 : Cx p s m args meth c G A own cc nL ret) (hW : Wd G A s.heap H ws locs) (hl : ls.size = nL)
    (hM : Cn l G d y cc2 nL2 ret2 (.ref b :: As) wc rv wc') (B : cbV y cc2 nL2 ret2 n) (hlink : Cond.methodLink own idx y ∈ gw) (isC : List Nat) (hnd : va_nd isC = true) (hC : isC.map (fun i => ws[i]?) = wc.map some) (hsame : wc'.map Prod.fst = wc.map Prod.fst) (q0 ci : Nat) {rc : vw_C} {fs : List Value} (hci : vwCl[ci]? = some rc) (hrc : rc.1 = y.cls) (hq0 : wc[q0]? = some (b, .inr (ci, fs))) (hR : d + 1 ≤ R.frames ∧ 8 + (nL2 + 11) + 60 * d ≤ R.locals) (hn : As.length = n) (hst : st0 = As.reverse ++ .ref b :: rest) (hroom : (rest.map fun v => v.category).sum ≤ 8) (hcs : cells ≤ R.cells ∧ slots ≤ R.slots) (hdg : decode cc pc = .ok (.invokevirtual idx, 3))
    (kk : ∀ (H1 : Heap) (locs1 : List Loc), Wd G A s.heap H1 (vrep ws isC wc') locs1 → W p l e R s m args below meth c H1 locs1 cells slots Q (F0 m (pc + 3) ls (rv.toList ++ rest))) : W p l e R s m args below meth c H locs cells slots Q (F0 m pc ls st0) := by
  obtain ⟨hx, hb, hml, -, -, ho, hts, hK, -, -, -⟩ := id C0
  obtain ⟨b1, b2, b3, b4, b5⟩ := B
  have hPc : va_P G.1 vwCl wc H := fun k q hk => by
    obtain ⟨i, -, hi⟩ := map_at hC hk
    exact hW.1 i q hi
  have hcb : CallB R s args own idx y cc2 nL2 ret2 (uw y cc2 nL2 ret2) (rmD d) 0 0 n := callB_of n hts (gw_in b4) rfl rfl rfl (hts _ b3) (hts _ hlink) b5 hR
  refine k_run C0 hW isC hC hsame (va_runV ⟨hx, hb, hml, ho, hts⟩ (hM H.size) ⟨hcb, hts _ b1, hts _ b2⟩ ⟨k_blind wc _ H.size, ?_, fun U hU hw => k_pre C0 hW isC hnd hC (.ref b :: As) U hU hw⟩ rfl hn hl hst (lv_room hroom) hdg hcs) kk
  rw [← hrc]
  exact va_recv hK hPc hci hq0
theorem k_callS {y : MethodName} {cc2 : ByteArray} {nL2 n d idx : Nat} {ret2 : Option FieldType} {As : List Value} {wc wc' : va_W} {rv : Option Value} (C0 : Cx p s m args meth c G A own cc nL ret) (hW : Wd G A s.heap H ws locs) (hl : ls.size = nL)
    (hM : Cn l G d y cc2 nL2 ret2 As wc rv wc') (B : cbS y cc2 nL2 ret2 n) (hlink : Cond.methodLink own idx y ∈ gw) (isC : List Nat) (hnd : va_nd isC = true) (hC : isC.map (fun i => ws[i]?) = wc.map some) (hsame : wc'.map Prod.fst = wc.map Prod.fst) (hR : d + 1 ≤ R.frames ∧ 8 + (nL2 + 11) + 60 * d ≤ R.locals) (hn : As.length = n) (hst : st0 = As.reverse ++ rest) (hroom : (rest.map fun v => v.category).sum ≤ 8) (hcs : cells ≤ R.cells ∧ slots ≤ R.slots) (hdg : decode cc pc = .ok (.invokestatic idx, 3))
    (kk : ∀ (H1 : Heap) (locs1 : List Loc), Wd G A s.heap H1 (vrep ws isC wc') locs1 → W p l e R s m args below meth c H1 locs1 cells slots Q (F0 m (pc + 3) ls (rv.toList ++ rest))) : W p l e R s m args below meth c H locs cells slots Q (F0 m pc ls st0) := by
  obtain ⟨hx, hb, hml, -, -, ho, hts, hK, -, -, -⟩ := id C0
  obtain ⟨b1, b3, b4, b5⟩ := B
  have hcb : CallB R s args own idx y cc2 nL2 ret2 (uw y cc2 nL2 ret2) (rmD d) 0 0 n := callB_of n hts (gw_in b4) rfl rfl rfl (hts _ b3) (hts _ hlink) b5 hR
  exact k_run C0 hW isC hC hsame (va_runS ⟨hx, hb, hml, ho, hts⟩ (hM H.size) ⟨hcb, hts _ b1⟩ ⟨k_blind wc _ H.size, fun U hU hw => k_pre C0 hW isC hnd hC As U hU hw⟩ rfl hn hl hst (lv_room hroom) hdg hcs) kk
theorem k_callSN {y : MethodName} {cc2 : ByteArray} {nL2 n d idx : Nat} {ret2 : Option FieldType} {host : String} {As : List Value} {wc wc' : va_W} {rv : Option Value} (C0 : Cx p s m args meth c G A own cc nL ret) (hW : Wd G A s.heap H ws locs) (hl : ls.size = nL)
    (hM : Cn l G d y cc2 nL2 ret2 As wc rv wc') (B : cbS y cc2 nL2 ret2 n) (hlink : Cond.methodLinkNest own idx y host ∈ nestW) (isC : List Nat) (hnd : va_nd isC = true) (hC : isC.map (fun i => ws[i]?) = wc.map some) (hsame : wc'.map Prod.fst = wc.map Prod.fst) (hR : d + 1 ≤ R.frames ∧ 8 + (nL2 + 11) + 60 * d ≤ R.locals) (hn : As.length = n) (hst : st0 = As.reverse ++ rest) (hroom : (rest.map fun v => v.category).sum ≤ 8) (hcs : cells ≤ R.cells ∧ slots ≤ R.slots) (hdg : decode cc pc = .ok (.invokestatic idx, 3))
    (kk : ∀ (H1 : Heap) (locs1 : List Loc), Wd G A s.heap H1 (vrep ws isC wc') locs1 → W p l e R s m args below meth c H1 locs1 cells slots Q (F0 m (pc + 3) ls (rv.toList ++ rest))) : W p l e R s m args below meth c H locs cells slots Q (F0 m pc ls st0) := by
  obtain ⟨hx, hb, hml, -, -, ho, hts, hK, hN, -, -⟩ := id C0
  obtain ⟨b1, b3, b4, b5⟩ := B
  exact k_run C0 hW isC hC hsame (va_runSN ⟨hx, hb, hml, ho, hts⟩ (hM H.size) ⟨va_cnB n hts (gw_in b4) rfl rfl rfl (hN _ hlink) (hts _ b3) b5 hR, hts _ b1, trivial⟩ ⟨k_blind wc _ H.size, fun U hU hw => k_pre C0 hW isC hnd hC As U hU hw⟩ rfl hn hl hst (lv_room hroom) hdg hcs) kk
end KR
