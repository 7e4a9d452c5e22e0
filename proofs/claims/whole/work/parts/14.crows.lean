def rmA (d mc ms : Nat) : Room := { frames := d, cells := mc, slots := ms, locals := 60 * d }
def AOG (U : State) : Prop := (Cond.arrayOver (.object RX1)).before #[] U = true ∧ (Cond.arrayOver (.array .int)).before #[] U = true
theorem ao_moved {ty : FieldType} {u U : State} (hal : u.vm.Alike U.vm) (h : (Cond.arrayOver ty).before #[] u = true) : (Cond.arrayOver ty).before #[] U = true :=
  have h2 : (Cond.arrayOver ty).before #[] (u.setVm U.vm) = true := by rw [Cond.arrayOver_setVmC hal]; exact h
  h2
theorem AOG.moved {u U : State} (hal : u.vm.Alike U.vm) (h : AOG u) : AOG U := ⟨ao_moved hal h.1, ao_moved hal h.2⟩
def QA (G : GG) (A : Nat → Prop) (h0 : Nat) (blk : (Nat → Nat) → va_W) : Array Value → State → Outcome → State → Prop := fun _ st oc t => oc = .returned none ∧ (∃ a : Nat → Nat, a 0 = h0 ∧ va_P G.1 vwCl (blk a) t.heap ∧ va_D A (blk a)) ∧ va_F A st t
def PcA (G : GG) (wc : va_W) (sz : Nat) (U : State) : Prop := PcN G wc sz U ∧ AOG U
/-- the contract of a constructor: its one cell becomes a block; mc cells of ms slots are made -/
def Ca (l : Launch) (G : GG) (d mc ms : Nat) (y : MethodName) (cc : ByteArray) (nL : Nat) (av : List Value) (h0 : Nat) (wc : va_W) (blk : (Nat → Nat) → va_W) : Prop :=
  ∀ sz : Nat, Met l y (uw y cc nL none) (rmA d mc ms) (va_Pc av (PcA G wc sz)) (QA G (va_A wc sz) h0 blk) mc ms (va_A wc sz)
theorem ca_start {l : Launch} {G : GG} {d mc ms : Nat} {y : MethodName} {cc : ByteArray} {nL : Nat} {av : List Value} {h0 : Nat} {wc : va_W} {blk : (Nat → Nat) → va_W} (hy : plainName y.cls = true) (hn : (lg_sl av).length ≤ nL)
    (body : ∀ (p : Program) (e : Env) (s : State) (m : MethodId) (below : List Frame) (meth : Method) (c : Code) (A : Nat → Prop) (ls : Array Slot), Cx p s m av.toArray meth c G A y.cls cc nL none → AOG s → meth.name = y.name → Wd G A s.heap s.heap wc [] → lv_has ls nL (lv_args 0 av) → W p l e (rmA d mc ms) s m av.toArray below meth c s.heap [] 0 0 (MQ below (QA G A h0 blk) av.toArray s mc ms A) (F0 m 0 ls [])) : Ca l G d mc ms y cc nL av h0 wc blk := by
  intro sz
  refine Met.ofW (cc := cc) (maxL := nL) (ret := none) hy rfl ?_
  intro p e s m args below meth c s₁ B hml hv
  obtain ⟨rfl, ⟨hsz, hP, hD0, hK, hN, hZ⟩, hO⟩ := hv
  subst hsz
  have hts := atoms_spec (ws := uw y cc nL none) B.pre
  rw [lg_entry_eq]
  exact body p e s m below meth c (va_A wc s.heap.size) _ ⟨B.exec, B.bytes, hml, B.returns, B.notSynchronized, findClass_of_methodNamed B.named, fun w h => hts w (List.mem_cons_of_mem _ h), hK, hN, hZ, fun q h => Or.inr h⟩ hO (name_of_methodNamed B.named B.method).1 ⟨hP, hD0.self, va_S.rf⟩ (lv_entry av hn)
theorem ty_i {G : GG} {s : State} {cA : ClassId} (h : va_K G.1 vwCl (tyG G ++ [(cA, .int)]) s) : cA = G.2.1 0 := Option.some.inj ((show s.vm.findClass _ = some cA from (h.2 5 _ rfl).2).symm.trans (h.2 0 _ rfl).2)
theorem ty_b {G : GG} {s : State} {cA : ClassId} (h : va_K G.1 vwCl (tyG G ++ [(cA, .byte)]) s) : cA = G.2.1 1 := Option.some.inj ((show s.vm.findClass _ = some cA from (h.2 5 _ rfl).2).symm.trans (h.2 1 _ rfl).2)
theorem ty_l {G : GG} {s : State} {cA : ClassId} (h : va_K G.1 vwCl (tyG G ++ [(cA, .long)]) s) : cA = G.2.1 2 := Option.some.inj ((show s.vm.findClass _ = some cA from (h.2 5 _ rfl).2).symm.trans (h.2 2 _ rfl).2)
theorem ty_a {G : GG} {s : State} {cA : ClassId} (h : va_K G.1 vwCl (tyG G ++ [(cA, .array .int)]) s) : cA = G.2.1 4 := Option.some.inj ((show s.vm.findClass _ = some cA from (h.2 5 _ rfl).2).symm.trans (h.2 4 _ rfl).2)
theorem ty_c {G : GG} {s : State} {cA : ClassId} (h : va_K G.1 vwCl (tyG G ++ [(cA, .object RX1)]) s) : cA = G.2.1 3 := by
  obtain ⟨k1, c1, -, -, -, e1⟩ := (h.2 5 _ rfl).2
  obtain ⟨k2, c2, -, -, -, e2⟩ := (h.2 3 _ rfl).2
  exact Option.some.inj (e1.symm.trans e2)
section KM
variable {p : Program} {l : Launch} {e : Env} {R : Room} {s : State} {m : MethodId} {args : Array Value} {below : List Frame} {meth : Method} {c : Code} {H : Heap} {locs : List Loc} {cells slots : Nat} {Q : State → Prop}
variable {G : GG} {A : Nat → Prop} {own : String} {cc : ByteArray} {nL : Nat} {ret : Option FieldType} {pc : Nat} {ls : Array Slot} {rest st0 : List Value} {ws wr : va_W}
theorem k_newI (C0 : Cx p s m args meth c G A own cc nL ret) (hW : Wd G A s.heap H ws locs) {n : Int32} {N : Nat} (hn : ¬ n < 0) (hN : n.toNatClampNeg = N) (hbt : N * 4 ≤ 536870912) (hcells : cells + 1 ≤ R.cells) (hslots : slots + N ≤ R.slots) (hdg : decode cc pc = .ok (.newarray .int, 2))
    (kk : ∀ (q : Nat) (H1 : Heap), Wd G A s.heap H1 (ws ++ [(q, eI G N (fun _ => 0))]) locs → W p l e R s m args below meth c H1 locs (cells + 1) (slots + N) Q (F0 m (pc + 2) ls (.ref q :: rest))) : W p l e R s m args below meth c H locs cells slots Q (F0 m pc ls (.int n :: rest)) := by
  obtain ⟨hx, hb, -, -, -, ho, hts, hK, -, -, hA⟩ := C0
  refine va_newa (atype := .int) (ty := .int) (a0 := (N, .inl (fun _ => 0))) hx hb (hts _ mo_ai) rfl hK hW.1 hW.2.1 hW.2.2 hA (fun _ => rfl) hn hN hbt hcells hslots hdg (fun q cA H1 h1 h2 h3 h4 => ?_)
  have e := ty_i h1
  subst e
  exact kk q H1 ⟨h2, h3, h4⟩
theorem k_newB (C0 : Cx p s m args meth c G A own cc nL ret) (hW : Wd G A s.heap H ws locs) {n : Int32} {N : Nat} (hn : ¬ n < 0) (hN : n.toNatClampNeg = N) (hbt : N * 1 ≤ 536870912) (hcells : cells + 1 ≤ R.cells) (hslots : slots + N ≤ R.slots) (hdg : decode cc pc = .ok (.newarray .byte, 2))
    (kk : ∀ (q : Nat) (H1 : Heap), Wd G A s.heap H1 (ws ++ [(q, eB G N (fun _ => 0))]) locs → W p l e R s m args below meth c H1 locs (cells + 1) (slots + N) Q (F0 m (pc + 2) ls (.ref q :: rest))) : W p l e R s m args below meth c H locs cells slots Q (F0 m pc ls (.int n :: rest)) := by
  obtain ⟨hx, hb, -, -, -, ho, hts, hK, -, -, hA⟩ := C0
  refine va_newa (atype := .byte) (ty := .byte) (a0 := (N, .inl (fun _ => 0))) hx hb (hts _ mo_ab) rfl hK hW.1 hW.2.1 hW.2.2 hA (fun _ => rfl) hn hN hbt hcells hslots hdg (fun q cA H1 h1 h2 h3 h4 => ?_)
  have e := ty_b h1
  subst e
  exact kk q H1 ⟨h2, h3, h4⟩
theorem k_newL (C0 : Cx p s m args meth c G A own cc nL ret) (hW : Wd G A s.heap H ws locs) {n : Int32} {N : Nat} (hn : ¬ n < 0) (hN : n.toNatClampNeg = N) (hbt : N * 8 ≤ 536870912) (hcells : cells + 1 ≤ R.cells) (hslots : slots + N ≤ R.slots) (hdg : decode cc pc = .ok (.newarray .long, 2))
    (kk : ∀ (q : Nat) (H1 : Heap), Wd G A s.heap H1 (ws ++ [(q, eL G N (fun _ => 0))]) locs → W p l e R s m args below meth c H1 locs (cells + 1) (slots + N) Q (F0 m (pc + 2) ls (.ref q :: rest))) : W p l e R s m args below meth c H locs cells slots Q (F0 m pc ls (.int n :: rest)) := by
  obtain ⟨hx, hb, -, -, -, ho, hts, hK, -, -, hA⟩ := C0
  refine va_newa (atype := .long) (ty := .long) (a0 := (N, .inr (.inl (fun _ => 0)))) hx hb (hts _ mo_al) rfl hK hW.1 hW.2.1 hW.2.2 hA (fun _ => rfl) hn hN hbt hcells hslots hdg (fun q cA H1 h1 h2 h3 h4 => ?_)
  have e := ty_l h1
  subst e
  exact kk q H1 ⟨h2, h3, h4⟩
theorem k_newC (C0 : Cx p s m args meth c G A own cc nL ret) (hO : AOG s) (hW : Wd G A s.heap H ws locs) {idx : Nat} (hcl : Cond.classLink own idx RX1 ∈ gw) {n : Int32} {N : Nat} (hn : ¬ n < 0) (hN : n.toNatClampNeg = N) (hbt : N * 4 ≤ 536870912) (hcells : cells + 1 ≤ R.cells) (hslots : slots + N ≤ R.slots) (hdg : decode cc pc = .ok (.anewarray idx, 3))
    (kk : ∀ (q : Nat) (H1 : Heap), Wd G A s.heap H1 (ws ++ [(q, eC G N (fun _ => none))]) locs → W p l e R s m args below meth c H1 locs (cells + 1) (slots + N) Q (F0 m (pc + 3) ls (.ref q :: rest))) : W p l e R s m args below meth c H locs cells slots Q (F0 m pc ls (.int n :: rest)) := by
  obtain ⟨hx, hb, -, -, -, ho, hts, hK, -, -, hA⟩ := C0
  refine va_newq hx hb ho (hts _ hcl) hO.1 hK hW.1 hW.2.1 hW.2.2 hA hn hN hbt hcells hslots hdg (fun q cA H1 h1 h2 h3 h4 => ?_)
  have e := ty_c h1
  subst e
  exact kk q H1 ⟨h2, h3, h4⟩
theorem k_mna (C0 : Cx p s m args meth c G A own cc nL ret) (hO : AOG s) (hW : Wd G A s.heap H ws locs) {idx : Nat} (hcl : Cond.classLink own idx "[[I" ∈ gw) {n k : Int32} {N K : Nat} (hn : ¬ n < 0) (hk : ¬ k < 0) (hN : n.toNatClampNeg = N) (hM : k.toNatClampNeg = K) (hb1 : N * 4 ≤ 536870912) (hb2 : K * 4 ≤ 536870912) (hb3 : K ≤ 536870912) (hcells : cells + (1 + N) ≤ R.cells) (hslots : slots + (N + N * K) ≤ R.slots) (hdg : decode cc pc = .ok (.multianewarray idx 2, 4))
    (kk : ∀ (q : Nat) (r : Nat → Nat) (H1 : Heap), Wd G A s.heap H1 ((ws ++ [(q, eR G N (fun i => if i < N then some (r i) else none))]) ++ (List.range N).map (fun j => (r j, eI G K (fun _ => 0)))) locs → W p l e R s m args below meth c H1 locs (cells + 1 + N) (slots + N + N * K) Q (F0 m (pc + 4) ls (.ref q :: rest))) : W p l e R s m args below meth c H locs cells slots Q (F0 m pc ls (.int k :: .int n :: rest)) := by
  obtain ⟨hx, hb, -, -, -, ho, hts, hK, -, -, hA⟩ := C0
  have e0 : ws ++ va_pl [] (fun _ => eI G 0 (fun _ => 0)) = ws := List.append_nil ws
  have hcy : s.vm.findClass (FieldType.array .int).toString = some (G.2.1 0) := (hK.2 0 _ rfl).2
  refine va_mna (X := ws) (L := []) (f := fun _ => eI G 0 (fun _ => 0)) (ty := .int) (cy := G.2.1 0) (z := (K, .inl (fun _ => 0))) hx hb ho (hts _ hcl) hO.2 (hts _ mo_ai) hcy hK (by rw [e0]; exact hW.1) (by rw [e0]; exact hW.2.1) hW.2.2 hA hn hk hN hM hb1 hb2 hb3 rfl rfl hcells hslots (fun c9 => by show ({ cls := c9, slots := Array.replicate K (.int 0), vm := .none } : Cell) = arrV c9 K (fun _ => .int 0); rw [arrV_new]) hdg (fun q r cA H1 g1 g2 h1 h2 h3 h4 => ?_)
  have e := ty_a h1
  subst e
  have e2 : va_pl ([] ++ (List.range N).map r) (vr_up (fun _ => eI G 0 (fun _ => 0)) ((List.range N).map r) (.inl (G.2.1 0, (K, .inl (fun _ => 0))))) = (List.range N).map (fun j => (r j, eI G K (fun _ => 0))) := by
    unfold va_pl
    rw [List.nil_append, List.map_map]
    apply List.map_congr_left
    intro j hj
    show (r j, vr_up _ _ _ (r j)) = _
    rw [vr_up_in (List.mem_map.mpr ⟨j, hj, rfl⟩)]
  rw [e2] at h2 h3
  exact kk q r H1 ⟨h2, h3, h4⟩
theorem k_new (C0 : Cx p s m args meth c G A own cc nL ret) (hW : Wd G A s.heap H ws locs) (ci : Nat) {r : vw_C} {idx : Nat} {fs : List Value} {ty : Nat → FieldType} (hc : vwCl[ci]? = some r) (hin : ∀ w ∈ u_ws r.1 r.2.1 r.2.2, w ∈ gw) (hty : ∀ k, k < r.2.2 → parseFieldDescriptor (r.2.1 k).2.2.1 = some (ty k)) (hcl : Cond.classLink own idx r.1 ∈ gw) (hinst : Cond.instantiable r.1 r.2.2 ∈ gw) (hini : Cond.initialized r.1 ∈ gw) (hfs : ∀ j, j < r.2.2 → defaultValue (ty j) = vp_V fs j) (hcells : cells + 1 ≤ R.cells) (hslots : slots + r.2.2 ≤ R.slots) (hdg : decode cc pc = .ok (.new idx, 3))
    (kk : ∀ (q : Nat) (H1 : Heap), Wd G A s.heap H1 (ws ++ [(q, .inr (ci, fs))]) locs → W p l e R s m args below meth c H1 locs (cells + 1) (slots + r.2.2) Q (F0 m (pc + 3) ls (.ref q :: rest))) : W p l e R s m args below meth c H locs cells slots Q (F0 m pc ls rest) := by
  obtain ⟨hx, hb, -, -, -, ho, hts, hK, -, -, hA⟩ := C0
  exact va_new (C := r.1) (T := r.2.1) (N := r.2.2) hx hb hts hin ty hty ho (hts _ hcl) (hts _ hinst) (hts _ hini) hK hW.1 hW.2.1 hW.2.2 hA hc hfs hcells hslots hdg (fun q H1 h1 h2 h3 => kk q H1 ⟨h1, h2, h3⟩)
theorem k_putF (C0 : Cx p s m args meth c G A own cc nL ret) (hin2 : meth.name = "<init>") (hW : Wd G A s.heap H ws locs) (ci k q : Nat) {r : vw_C} {idx a : Nat} {fs : List Value} {v : Value} {ty : Nat → FieldType} (hc : vwCl[ci]? = some r) (hk : k < r.2.2) (hin : ∀ w ∈ u_ws r.1 r.2.1 r.2.2, w ∈ gw) (hty : ∀ k, k < r.2.2 → parseFieldDescriptor (r.2.1 k).2.2.1 = some (ty k)) (hnm : ∀ a, a < r.2.2 → ∀ b, b < r.2.2 → a ≠ b → (r.2.1 a).2.1 ≠ (r.2.1 b).2.1) (hl : Cond.fieldLink own idx (r.2.1 k).1 (r.2.1 k).2.1 (r.2.1 k).2.2.1 ∈ gw) (he : ws[q]? = some (a, .inr (ci, fs))) (hfin : (r.2.1 k).2.2.2 = true) (hdecl : (r.2.1 k).1 = own) (hn : narrow (ty k) v = v) (hfit : fits (ty k) v = true) (hlen : k < fs.length) (hdg : decode cc pc = .ok (.putfield idx, 3))
    (kk : ∀ (H1 : Heap) (locs1 : List Loc), Wd G A s.heap H1 (ws.set q (a, .inr (ci, fs.set k v))) locs1 → W p l e R s m args below meth c H1 locs1 cells slots Q (F0 m (pc + 3) ls rest)) : W p l e R s m args below meth c H locs cells slots Q (F0 m pc ls (v :: .ref a :: rest)) := by
  obtain ⟨hx, hb, -, -, -, ho, hts, hK, -, -, -⟩ := C0
  exact va_putF (C := r.1) (T := r.2.1) (N := r.2.2) hx hb hts hin ty hty hnm ho hK hW.1 hW.2.1 hW.2.2 q he hc k hk (hts _ hl) (fun _ h => h) hfin hin2 hdecl (hty k hk) hn hfit hlen hdg (fun H1 locs1 h1 h2 h3 => kk H1 locs1 ⟨h1, h2, h3⟩)
theorem k_oinit (C0 : Cx p s m args meth c G A own cc nL ret) (hl : ls.size = nL) {idx a : Nat} (hlink : Cond.methodLink own idx objectInit ∈ gw) (hR : 1 ≤ R.frames ∧ 20 ≤ R.locals) (hroom : (rest.map fun v => v.category).sum ≤ 8) (hdg : decode cc pc = .ok (.invokespecial idx, 3))
    (kk : W p l e R s m args below meth c H locs cells slots Q (F0 m (pc + 3) ls rest)) : W p l e R s m args below meth c H locs cells slots Q (F0 m pc ls (.ref a :: rest)) := by
  obtain ⟨hx, hb, hml, -, -, ho, hts, -, -, -, -⟩ := C0
  exact W.objInit hx hb ho (hts _ hlink) (hts _ mi_J_objectInit) (hts _ mc_J_objectInit) (g := F0 m pc ls (.ref a :: rest)) rfl (hl.trans hml.symm) rfl hdg hR.1 (by show 2 * 0 + _ + 12 ≤ _; omega) kk
/-- the end of a constructor -/
theorem k_cret {h0 : Nat} {blk : (Nat → Nat) → va_W} (C0 : Cx p s m args meth c G A own cc nL none) (a : Nat → Nat) (ha : a 0 = h0) (hW : Wd G A s.heap H (blk a) locs) (hdg : decode cc pc = .ok (.return_, 1)) : W p l e R s m args below meth c H locs cells slots (MQ below (QA G A h0 blk) args s cells slots A) (F0 m pc ls []) := by
  obtain ⟨hx, hb, -, hr, hk, -, -, -, -, -, -⟩ := C0
  exact W.vret hx hb hr (fun t ht _ => ⟨rfl, ⟨a, ha, by rw [ht]; exact hW.1, hW.2.1⟩, hW.2.2.F ht⟩) (fun q hq => hW.2.2.2.2 q hq) hdg hk
theorem a_blind (wc : va_W) (av : List Value) (sz : Nat) : FrameBlind (va_Pc av (PcA G wc sz)) := by
  intro a U g mk h
  obtain ⟨h0, h1, h2⟩ := h
  exact ⟨h0, (k_blind wc av sz a U g mk ⟨h0, h1⟩).2, AOG.moved (u := U) (U := U.calling g mk a) (Vm.Alike.refl U.vm) h2⟩
theorem a_run {b mc ms : Nat} {e0 : va_E} {blk : (Nat → Nat) → va_W} {a9 : Array Value} (C0 : Cx p s m args meth c G A own cc nL ret) (hW : Wd G A s.heap H ([(b, e0)] ++ wr) locs)
    (hr : va_Run p l e R s m args below meth c H locs cells slots mc ms (F0 m pc ls st0) rest (QA G (va_A [(b, e0)] H.size) b blk a9) (va_A [(b, e0)] H.size))
    (kk : ∀ (a : Nat → Nat) (H1 : Heap) (locs1 : List Loc), a 0 = b → Wd G A s.heap H1 (wr ++ blk a) locs1 → W p l e R s m args below meth c H1 locs1 (cells + mc) (slots + ms) Q (F0 m (pc + 3) ls rest)) : W p l e R s m args below meth c H locs cells slots Q (F0 m pc ls st0) := by
  have hF := w_free C0 (p_left hW)
  obtain ⟨hP, hD, hS⟩ := hW
  have hD2 := nd_D.mp hD
  have hPr : va_P G.1 vwCl wr H := fun k q hk => by
    obtain ⟨i, hi⟩ := List.getElem?_of_mem (List.mem_append_right [(b, e0)] (List.mem_of_getElem? hk))
    exact hP i q hi
  have hDr : va_D A wr := nd_D.mpr ⟨by have h := hD2.1; rw [List.map_append] at h; exact (List.nodup_append.mp h).2.1, fun q hq => hD2.2 q (List.mem_append_right _ hq)⟩
  have hnot : ∀ q ∈ wr, q.1 < H.size → ¬ va_A [(b, e0)] H.size q.1 := by
    intro q hq hlt z
    rcases z with ⟨k, e9, z⟩ | z
    · have h := hD2.1
      rw [List.map_append] at h
      exact (List.nodup_append.mp h).2.2 q.1 (List.mem_map.mpr ⟨_, List.mem_of_getElem? z, rfl⟩) q.1 (List.mem_map.mpr ⟨q, hq, rfl⟩) rfl
    · omega
  intro T hT X
  obtain ⟨v, st₀, t, T', L, h0, X', hL, e1, e2, ⟨hv, ⟨a, ha, hP1, hD1⟩, hz, hk⟩, st⟩ := hr T hT X
  cases hv
  rw [h0] at hz hk
  have hW1 : Wd G A s.heap T'.heap (wr ++ blk a) (locs ++ L) := by
    refine ⟨va_P.app (fun k q hq => ?_) (by rw [e1]; exact hP1), va_D.app hDr (hD1.weaken (fun k q _ h => hF q.1 h)) (fun i j x y hx hy hxy => ?_), Nat.le_trans hS.1 (by rw [e1]; exact hz), fun q h1 h2 => ?_, fun q hq => ?_⟩
    · have hat := hPr k q hq
      refine hat.kept ?_
      rw [e1]
      exact hk q.1 hat.lt (hnot q (List.mem_of_getElem? hq) hat.lt)
    · exact hnot x (List.mem_of_getElem? hx) (hPr i x hx).lt (by rw [hxy]; exact hD1.2 j y hy)
    · rw [e1, hk q (Nat.lt_of_lt_of_le h1 hS.1) (fun z => h2 (hF q z))]
      exact hS.2.1 q h1 h2
    · rcases List.mem_append.mp hq with h | h
      · exact hS.2.2 q h
      · exact hF _ (hL q h)
  obtain ⟨t2, a1, b1⟩ := kk a T'.heap (locs ++ L) ha hW1 T' rfl X'
  exact ⟨t2, st t2 a1, b1⟩
def cbI (y : MethodName) (cc2 : ByteArray) (nL2 n : Nat) : Prop := Cond.instanceMethod y ∈ gw ∧ Cond.initialized y.cls ∈ gw ∧ Cond.code y cc2 nL2 none ∈ gw ∧ y.name = "<init>" ∧ (y.cls ≠ "java/lang/invoke/MethodHandle" ∧ y.cls ≠ "java/lang/invoke/VarHandle" ∧ (parseMethodDescriptor y.desc).map (fun d => d.parameters.length) = some n)
theorem k_cI {y : MethodName} {cc2 : ByteArray} {nL2 n d idx b mc ms : Nat} {e0 : va_E} {As : List Value} {blk : (Nat → Nat) → va_W} (C0 : Cx p s m args meth c G A own cc nL ret) (hO : AOG s) (hW : Wd G A s.heap H (wr ++ [(b, e0)]) locs) (hl : ls.size = nL)
    (hM : Ca l G d mc ms y cc2 nL2 (.ref b :: As) b [(b, e0)] blk) (B : cbI y cc2 nL2 n) (hlink : Cond.methodLink own idx y ∈ gw) (hR : d + 1 ≤ R.frames ∧ 8 + (nL2 + 11) + 60 * d ≤ R.locals) (hn : As.length = n) (hst : st0 = As.reverse ++ .ref b :: rest) (hroom : (rest.map fun v => v.category).sum ≤ 8) (hcs : cells + mc ≤ R.cells ∧ slots + ms ≤ R.slots) (hdg : decode cc pc = .ok (.invokespecial idx, 3))
    (kk : ∀ (a : Nat → Nat) (H1 : Heap) (locs1 : List Loc), a 0 = b → Wd G A s.heap H1 (wr ++ blk a) locs1 → W p l e R s m args below meth c H1 locs1 (cells + mc) (slots + ms) Q (F0 m (pc + 3) ls rest)) : W p l e R s m args below meth c H locs cells slots Q (F0 m pc ls st0) := by
  obtain ⟨hx, hb, hml, -, -, ho, hts, hK, -, -, -⟩ := id C0
  obtain ⟨b1, b3, b4, b6, b5⟩ := B
  have hW1 := perm_W (List.perm_append_comm (l₁ := wr) (l₂ := [(b, e0)])) hW
  have hWc := p_left hW1
  have hcb : CallB R s args own idx y cc2 nL2 none (uw y cc2 nL2 none) (rmA d mc ms) mc ms n := callB_of n hts (gw_in b4) rfl rfl rfl (hts _ b3) (hts _ hlink) b5 hR
  exact a_run C0 hW1 (va_runI ⟨hx, hb, hml, ho, hts⟩ (hM H.size) ⟨hcb, b6, hts _ b1⟩ ⟨a_blind [(b, e0)] _ H.size, fun U hU hw => ⟨rfl, (w_pre C0 hWc (.ref b :: As) U hU hw).2, AOG.moved hw.alike hO⟩⟩ rfl hn hl hst (lv_room hroom) hdg hcs) kk
theorem k_cN {y : MethodName} {cc2 : ByteArray} {nL2 n d idx b mc ms : Nat} {host : String} {e0 : va_E} {As : List Value} {blk : (Nat → Nat) → va_W} (C0 : Cx p s m args meth c G A own cc nL ret) (hO : AOG s) (hW : Wd G A s.heap H (wr ++ [(b, e0)]) locs) (hl : ls.size = nL)
    (hM : Ca l G d mc ms y cc2 nL2 (.ref b :: As) b [(b, e0)] blk) (B : cbI y cc2 nL2 n) (hlink : Cond.methodLinkNest own idx y host ∈ nestW) (hR : d + 1 ≤ R.frames ∧ 8 + (nL2 + 11) + 60 * d ≤ R.locals) (hn : As.length = n) (hst : st0 = As.reverse ++ .ref b :: rest) (hroom : (rest.map fun v => v.category).sum ≤ 8) (hcs : cells + mc ≤ R.cells ∧ slots + ms ≤ R.slots) (hdg : decode cc pc = .ok (.invokespecial idx, 3))
    (kk : ∀ (a : Nat → Nat) (H1 : Heap) (locs1 : List Loc), a 0 = b → Wd G A s.heap H1 (wr ++ blk a) locs1 → W p l e R s m args below meth c H1 locs1 (cells + mc) (slots + ms) Q (F0 m (pc + 3) ls rest)) : W p l e R s m args below meth c H locs cells slots Q (F0 m pc ls st0) := by
  obtain ⟨hx, hb, hml, -, -, ho, hts, hK, hN, -, -⟩ := id C0
  obtain ⟨b1, b3, b4, b6, b5⟩ := B
  have hW1 := perm_W (List.perm_append_comm (l₁ := wr) (l₂ := [(b, e0)])) hW
  have hWc := p_left hW1
  exact a_run C0 hW1 (va_runIN ⟨hx, hb, hml, ho, hts⟩ (hM H.size) ⟨va_cnB n hts (gw_in b4) rfl rfl rfl (hN _ hlink) (hts _ b3) b5 hR, b6, hts _ b1⟩ ⟨a_blind [(b, e0)] _ H.size, fun U hU hw => ⟨rfl, (w_pre C0 hWc (.ref b :: As) U hU hw).2, AOG.moved hw.alike hO⟩⟩ rfl hn hl hst (lv_room hroom) hdg hcs) kk
end KM
