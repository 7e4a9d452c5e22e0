theorem fst_Ww {G : GG} {a : Nat → Nat} {o : Nat} {w w1 : Ww} : (bWw G a o w1).map Prod.fst = (bWw G a o w).map Prod.fst := rfl
theorem fst_Md {G : GG} {a : Nat → Nat} {o : Nat} {w w1 : Md} : (bMd G a o w1).map Prod.fst = (bMd G a o w).map Prod.fst := rfl
section KW
variable {p : Program} {l : Launch} {e : Env} {R : Room} {s : State} {m : MethodId} {args : Array Value} {below : List Frame} {meth : Method} {c : Code} {H : Heap} {locs : List Loc} {cells slots : Nat} {Q : State → Prop}
variable {G : GG} {A : Nat → Prop} {own : String} {cc : ByteArray} {nL : Nat} {ret : Option FieldType} {pc : Nat} {ls : Array Slot} {rest st0 st1 : List Value} {ws ws1 : va_W}
theorem w_free (C0 : Cx p s m args meth c G A own cc nL ret) (hW : Wd G A s.heap H ws locs) : ∀ q, va_A ws H.size q → A q := by
  intro q h
  rcases h with ⟨k, e, h⟩ | h
  · exact hW.2.1.2 k (q, e) h
  · exact C0.2.2.2.2.2.2.2.2.2.2 q (Nat.le_trans hW.2.2.1 h)
theorem w_pre (C0 : Cx p s m args meth c G A own cc nL ret) (hW : Wd G A s.heap H ws locs) (av : List Value) : ∀ U : State, U.heap = H → s.WarmedH U.vm → va_Pc av (PcN G ws H.size) av.toArray U := by
  have hF := w_free C0 hW
  obtain ⟨-, -, -, -, -, -, -, hK, hN, hZ, hA⟩ := C0
  obtain ⟨hP, hD, hS⟩ := hW
  intro U hU hw
  refine ⟨rfl, by rw [hU], by rw [hU]; exact hP, ⟨hD.1, fun _ _ _ => trivial⟩, va_K.moved hw.alike hK, nest_warm hw hN, ?_⟩
  have z1 : ∀ {C n d v}, va_Z C n d v A s s.heap → va_Z C n d v (va_A ws H.size) U U.heap := fun h => by
    rw [hU]; exact ((h.kept hS.2.1).moved hw.alike).narrow hF
  have z2 : ∀ {ty t N f}, va_T ty t N f A s s.heap → va_T ty t N f (va_A ws H.size) U U.heap := fun h => by
    rw [hU]; exact ((h.kept hS.2.1).moved hw.alike).narrow hF
  exact ⟨⟨z1 hZ.1.1, z2 hZ.1.2⟩, ⟨z1 hZ.2.1, z2 hZ.2.2⟩⟩
theorem w_run {rv : Option Value} {a : Array Value} (C0 : Cx p s m args meth c G A own cc nL ret) (hW : Wd G A s.heap H ws locs) (hsame : ws1.map Prod.fst = ws.map Prod.fst)
    (hr : va_Run p l e R s m args below meth c H locs cells slots 0 0 (F0 m pc ls st0) rest (QN G (va_A ws H.size) rv ws1 a) (va_A ws H.size))
    (kk : ∀ (H1 : Heap) (locs1 : List Loc), Wd G A s.heap H1 ws1 locs1 → W p l e R s m args below meth c H1 locs1 cells slots Q (F0 m (pc + 3) ls (rv.toList ++ rest))) : W p l e R s m args below meth c H locs cells slots Q (F0 m pc ls st0) := by
  have hF := w_free C0 hW
  obtain ⟨hP, hD, hS⟩ := hW
  intro T hT X
  obtain ⟨v, st₀, t, T', L, h0, X', hL, e1, e2, ⟨hv, hP1, hz, hk⟩, st⟩ := hr T hT X
  cases hv
  rw [h0] at hz hk
  have hW1 : Wd G A s.heap T'.heap ws1 (locs ++ L) := by
    refine ⟨by rw [e1]; exact hP1, ⟨fun i j x y hi hj hxy => ?_, fun j q hj => ?_⟩, Nat.le_trans hS.1 (by rw [e1]; exact hz), fun q h1 h2 => ?_, fun q hq => ?_⟩
    · obtain ⟨x0, a1, a2⟩ := same_at hsame hi
      obtain ⟨y0, b1, b2⟩ := same_at hsame hj
      exact hD.1 i j x0 y0 a1 b1 (by rw [a2, b2]; exact hxy)
    · obtain ⟨q0, g3, g4⟩ := same_at hsame hj
      rw [← g4]
      exact hD.2 j q0 g3
    · rw [e1, hk q (Nat.lt_of_lt_of_le h1 hS.1) (fun z => h2 (hF q z))]
      exact hS.2.1 q h1 h2
    · rcases List.mem_append.mp hq with h | h
      · exact hS.2.2 q h
      · exact hF _ (hL q h)
  obtain ⟨t2, a1, b1⟩ := kk T'.heap (locs ++ L) hW1 T' rfl X'
  exact ⟨t2, st t2 a1, b1⟩
/-- a call of a method whose world is the caller's own, whole -/
theorem cW1 {y : MethodName} {cc2 : ByteArray} {nL2 n d idx : Nat} {ret2 : Option FieldType} {b : Nat} {As : List Value} {rv : Option Value} (C0 : Cx p s m args meth c G A own cc nL ret) (hW : Wd G A s.heap H ws locs) (hl : ls.size = nL)
    (hM : Cn l G d y cc2 nL2 ret2 (.ref b :: As) ws rv ws1) (B : cbV y cc2 nL2 ret2 n) (hlink : Cond.methodLink own idx y ∈ gw) (hsame : ws1.map Prod.fst = ws.map Prod.fst) (q0 ci : Nat) {rc : vw_C} {fs : List Value} (hci : vwCl[ci]? = some rc) (hrc : rc.1 = y.cls) (hq0 : ws[q0]? = some (b, .inr (ci, fs))) (hR : d + 1 ≤ R.frames ∧ 8 + (nL2 + 11) + 60 * d ≤ R.locals) (hn : As.length = n) (hst : st0 = As.reverse ++ .ref b :: rest) (hroom : (rest.map fun v => v.category).sum ≤ 8) (hcs : cells ≤ R.cells ∧ slots ≤ R.slots) (hdg : decode cc pc = .ok (.invokevirtual idx, 3)) (hst1 : rv.toList ++ rest = st1)
    (kk : ∀ (H1 : Heap) (locs1 : List Loc), Wd G A s.heap H1 ws1 locs1 → W p l e R s m args below meth c H1 locs1 cells slots Q (F0 m (pc + 3) ls st1)) : W p l e R s m args below meth c H locs cells slots Q (F0 m pc ls st0) := by
  subst hst1
  obtain ⟨hx, hb, hml, -, -, ho, hts, hK, -, -, -⟩ := id C0
  obtain ⟨b1, b2, b3, b4, b5⟩ := B
  have hcb : CallB R s args own idx y cc2 nL2 ret2 (uw y cc2 nL2 ret2) (rmD d) 0 0 n := callB_of n hts (gw_in b4) rfl rfl rfl (hts _ b3) (hts _ hlink) b5 hR
  refine w_run C0 hW hsame (va_runV ⟨hx, hb, hml, ho, hts⟩ (hM H.size) ⟨hcb, hts _ b1, hts _ b2⟩ ⟨k_blind ws _ H.size, ?_, fun U hU hw => w_pre C0 hW (.ref b :: As) U hU hw⟩ rfl hn hl hst (lv_room hroom) hdg hcs) kk
  rw [← hrc]
  exact va_recv hK hW.1 hci hq0
end KW
/-! a world of blocks: a call takes some of them -/
theorem fm_range {α : Type} : ∀ l : List α, (List.range l.length).filterMap (fun i => l[i]?) = l
  | [] => rfl
  | a :: l => by
    have h := fm_range l
    rw [List.length_cons, List.range_succ_eq_map, List.filterMap_cons, List.filterMap_map]
    show a :: (List.range l.length).filterMap (fun i => l[i]?) = a :: l
    rw [h]
theorem pick_mem {α : Type} {l : List α} {is : List Nat} (h : is.Perm (List.range l.length)) : (is.filterMap (fun i => l[i]?)).Perm l := by
  have h1 : (is.filterMap (fun i => l[i]?)).Perm ((List.range l.length).filterMap (fun i => l[i]?)) := h.filterMap _
  rw [fm_range l] at h1
  exact h1
theorem perm_P {D : va_G} {cl : List vw_C} {ws ws1 : va_W} {H : Heap} (h : ws.Perm ws1) (hP : va_P D cl ws H) : va_P D cl ws1 H := by
  intro k q hk
  have hm : q ∈ ws := h.mem_iff.mpr (List.mem_of_getElem? hk)
  obtain ⟨i, hi⟩ := List.getElem?_of_mem hm
  exact hP i q hi
theorem nd_D {A : Nat → Prop} {ws : va_W} : va_D A ws ↔ (ws.map Prod.fst).Nodup ∧ ∀ q ∈ ws, A q.1 := by
  unfold List.Nodup
  rw [List.pairwise_iff_getElem]
  constructor
  · intro h
    refine ⟨fun i j hi hj hij he => ?_, fun q hq => ?_⟩
    · rw [List.length_map] at hi hj
      rw [List.getElem_map, List.getElem_map] at he
      have := h.1 i j _ _ (List.getElem?_eq_getElem hi) (List.getElem?_eq_getElem hj) he
      omega
    · obtain ⟨i, hi⟩ := List.getElem?_of_mem hq
      exact h.2 i q hi
  · intro h
    refine ⟨fun i j x y hi hj hxy => ?_, fun k q hk => h.2 q (List.mem_of_getElem? hk)⟩
    obtain ⟨li, ei⟩ := List.getElem?_eq_some_iff.mp hi
    obtain ⟨lj, ej⟩ := List.getElem?_eq_some_iff.mp hj
    rcases Nat.lt_trichotomy i j with q | q | q
    · exact absurd (by rw [List.getElem_map, List.getElem_map, ei, ej]; exact hxy) (h.1 i j (by rw [List.length_map]; exact li) (by rw [List.length_map]; exact lj) q)
    · exact q
    · exact absurd (by rw [List.getElem_map, List.getElem_map, ei, ej]; exact hxy.symm) (h.1 j i (by rw [List.length_map]; exact lj) (by rw [List.length_map]; exact li) q)
theorem perm_D {A : Nat → Prop} {ws ws1 : va_W} (h : ws.Perm ws1) (hD : va_D A ws) : va_D A ws1 := by
  rw [nd_D] at hD ⊢
  exact ⟨(h.map Prod.fst).nodup_iff.mp hD.1, fun q hq => hD.2 q (h.mem_iff.mpr hq)⟩
theorem perm_W {G : GG} {A : Nat → Prop} {H0 H : Heap} {ws ws1 : va_W} {locs : List Loc} (h : ws.Perm ws1) (hW : Wd G A H0 H ws locs) : Wd G A H0 H ws1 locs := ⟨perm_P h hW.1, perm_D h hW.2.1, hW.2.2⟩
section KB
variable {p : Program} {l : Launch} {e : Env} {R : Room} {s : State} {m : MethodId} {args : Array Value} {below : List Frame} {meth : Method} {c : Code} {H : Heap} {locs : List Loc} {cells slots : Nat} {Q : State → Prop}
variable {G : GG} {A : Nat → Prop} {own : String} {cc : ByteArray} {nL : Nat} {ret : Option FieldType} {pc : Nat} {ls : Array Slot} {rest st0 st1 : List Value} {wc wc' wr : va_W} {bs bs1 : List va_W}
theorem p_left (hW : Wd G A s.heap H (wc ++ wr) locs) : Wd G A s.heap H wc locs := by
  obtain ⟨hP, hD, hS⟩ := hW
  rw [nd_D] at hD
  refine ⟨fun k q hk => ?_, nd_D.mpr ⟨?_, fun q hq => hD.2 q (List.mem_append_left _ hq)⟩, hS⟩
  · exact hP k q (by rw [List.getElem?_append_left (List.getElem?_eq_some_iff.mp hk).1]; exact hk)
  · have h := hD.1
    rw [List.map_append] at h
    exact (List.nodup_append.mp h).1
theorem p_run {rv : Option Value} {a : Array Value} (C0 : Cx p s m args meth c G A own cc nL ret) (hW : Wd G A s.heap H (wc ++ wr) locs) (hsame : wc'.map Prod.fst = wc.map Prod.fst)
    (hr : va_Run p l e R s m args below meth c H locs cells slots 0 0 (F0 m pc ls st0) rest (QN G (va_A wc H.size) rv wc' a) (va_A wc H.size))
    (kk : ∀ (H1 : Heap) (locs1 : List Loc), Wd G A s.heap H1 (wc' ++ wr) locs1 → W p l e R s m args below meth c H1 locs1 cells slots Q (F0 m (pc + 3) ls (rv.toList ++ rest))) : W p l e R s m args below meth c H locs cells slots Q (F0 m pc ls st0) := by
  have hF := w_free C0 (p_left hW)
  obtain ⟨hP, hD, hS⟩ := hW
  have hD2 := nd_D.mp hD
  have hPr : va_P G.1 vwCl wr H := fun k q hk => by
    obtain ⟨i, hi⟩ := List.getElem?_of_mem (List.mem_append_right wc (List.mem_of_getElem? hk))
    exact hP i q hi
  have hmap : (wc' ++ wr).map Prod.fst = (wc ++ wr).map Prod.fst := by rw [List.map_append, List.map_append, hsame]
  have hnot : ∀ q ∈ wr, q.1 < H.size → ¬ va_A wc H.size q.1 := by
    intro q hq hlt z
    rcases z with ⟨k, e9, z⟩ | z
    · have h := hD2.1
      rw [List.map_append] at h
      exact (List.nodup_append.mp h).2.2 q.1 (List.mem_map.mpr ⟨_, List.mem_of_getElem? z, rfl⟩) q.1 (List.mem_map.mpr ⟨q, hq, rfl⟩) rfl
    · omega
  intro T hT X
  obtain ⟨v, st₀, t, T', L, h0, X', hL, e1, e2, ⟨hv, hP1, hz, hk⟩, st⟩ := hr T hT X
  cases hv
  rw [h0] at hz hk
  have hW1 : Wd G A s.heap T'.heap (wc' ++ wr) (locs ++ L) := by
    refine ⟨va_P.app (by rw [e1]; exact hP1) (fun k q hq => ?_), nd_D.mpr ⟨by rw [hmap]; exact hD2.1, fun q hq => ?_⟩, Nat.le_trans hS.1 (by rw [e1]; exact hz), fun q h1 h2 => ?_, fun q hq => ?_⟩
    · have hat := hPr k q hq
      refine hat.kept ?_
      rw [e1]
      exact hk q.1 hat.lt (hnot q (List.mem_of_getElem? hq) hat.lt)
    · have h1 : q.1 ∈ (wc ++ wr).map Prod.fst := by rw [← hmap]; exact List.mem_map.mpr ⟨q, hq, rfl⟩
      obtain ⟨q0, h2, h3⟩ := List.mem_map.mp h1
      rw [← h3]
      exact hD2.2 q0 h2
    · rw [e1, hk q (Nat.lt_of_lt_of_le h1 hS.1) (fun z => h2 (hF q z))]
      exact hS.2.1 q h1 h2
    · rcases List.mem_append.mp hq with h | h
      · exact hS.2.2 q h
      · exact hF _ (hL q h)
  obtain ⟨t2, a1, b1⟩ := kk T'.heap (locs ++ L) hW1 T' rfl X'
  exact ⟨t2, st t2 a1, b1⟩
theorem b_perm {is ir : List Nat} (hp : (is ++ ir).Perm (List.range bs.length)) (hc : wc = (is.filterMap (fun i => bs[i]?)).flatten) : bs.flatten.Perm (wc ++ (ir.filterMap (fun i => bs[i]?)).flatten) := by
  have h := (pick_mem hp).flatten
  rw [List.filterMap_append, List.flatten_append] at h
  rw [hc]
  exact h.symm
theorem bV1 {y : MethodName} {cc2 : ByteArray} {nL2 n d idx : Nat} {ret2 : Option FieldType} {b : Nat} {As : List Value} {rv : Option Value} (C0 : Cx p s m args meth c G A own cc nL ret) (hW : Wd G A s.heap H bs.flatten locs) (hl : ls.size = nL)
    (hM : Cn l G d y cc2 nL2 ret2 (.ref b :: As) wc rv wc') (B : cbV y cc2 nL2 ret2 n) (hlink : Cond.methodLink own idx y ∈ gw) (is ir : List Nat) (hp : (is ++ ir).Perm (List.range bs.length)) (hc : wc = (is.filterMap (fun i => bs[i]?)).flatten) (hc1 : wc' = (is.filterMap (fun i => bs1[i]?)).flatten) (hr : ir.filterMap (fun i => bs[i]?) = ir.filterMap (fun i => bs1[i]?)) (hlen : bs.length = bs1.length) (hsame : wc'.map Prod.fst = wc.map Prod.fst) (q0 ci : Nat) {rc : vw_C} {fs : List Value} (hci : vwCl[ci]? = some rc) (hrc : rc.1 = y.cls) (hq0 : wc[q0]? = some (b, .inr (ci, fs))) (hR : d + 1 ≤ R.frames ∧ 8 + (nL2 + 11) + 60 * d ≤ R.locals) (hn : As.length = n) (hst : st0 = As.reverse ++ .ref b :: rest) (hroom : (rest.map fun v => v.category).sum ≤ 8) (hcs : cells ≤ R.cells ∧ slots ≤ R.slots) (hdg : decode cc pc = .ok (.invokevirtual idx, 3)) (hst1 : rv.toList ++ rest = st1)
    (kk : ∀ (H1 : Heap) (locs1 : List Loc), Wd G A s.heap H1 bs1.flatten locs1 → W p l e R s m args below meth c H1 locs1 cells slots Q (F0 m (pc + 3) ls st1)) : W p l e R s m args below meth c H locs cells slots Q (F0 m pc ls st0) := by
  subst hst1
  obtain ⟨hx, hb, hml, -, -, ho, hts, hK, -, -, -⟩ := id C0
  obtain ⟨b1, b2, b3, b4, b5⟩ := B
  have hW1 := perm_W (b_perm hp hc) hW
  have hWc := p_left hW1
  have hcb : CallB R s args own idx y cc2 nL2 ret2 (uw y cc2 nL2 ret2) (rmD d) 0 0 n := callB_of n hts (gw_in b4) rfl rfl rfl (hts _ b3) (hts _ hlink) b5 hR
  refine p_run C0 hW1 hsame (va_runV ⟨hx, hb, hml, ho, hts⟩ (hM H.size) ⟨hcb, hts _ b1, hts _ b2⟩ ⟨k_blind wc _ H.size, ?_, fun U hU hw => w_pre C0 hWc (.ref b :: As) U hU hw⟩ rfl hn hl hst (lv_room hroom) hdg hcs) (fun H1 locs1 hW2 => kk H1 locs1 ?_)
  · rw [← hrc]
    exact va_recv hK hWc.1 hci hq0
  · rw [hr] at hW2
    exact perm_W (b_perm (by rw [← hlen]; exact hp) hc1).symm hW2
theorem bVN1 {y : MethodName} {cc2 : ByteArray} {nL2 n d idx : Nat} {ret2 : Option FieldType} {host : String} {b : Nat} {As : List Value} {rv : Option Value} (C0 : Cx p s m args meth c G A own cc nL ret) (hW : Wd G A s.heap H bs.flatten locs) (hl : ls.size = nL)
    (hM : Cn l G d y cc2 nL2 ret2 (.ref b :: As) wc rv wc') (B : cbV y cc2 nL2 ret2 n) (hlink : Cond.methodLinkNest own idx y host ∈ nestW) (is ir : List Nat) (hp : (is ++ ir).Perm (List.range bs.length)) (hc : wc = (is.filterMap (fun i => bs[i]?)).flatten) (hc1 : wc' = (is.filterMap (fun i => bs1[i]?)).flatten) (hr : ir.filterMap (fun i => bs[i]?) = ir.filterMap (fun i => bs1[i]?)) (hlen : bs.length = bs1.length) (hsame : wc'.map Prod.fst = wc.map Prod.fst) (q0 ci : Nat) {rc : vw_C} {fs : List Value} (hci : vwCl[ci]? = some rc) (hrc : rc.1 = y.cls) (hq0 : wc[q0]? = some (b, .inr (ci, fs))) (hR : d + 1 ≤ R.frames ∧ 8 + (nL2 + 11) + 60 * d ≤ R.locals) (hn : As.length = n) (hst : st0 = As.reverse ++ .ref b :: rest) (hroom : (rest.map fun v => v.category).sum ≤ 8) (hcs : cells ≤ R.cells ∧ slots ≤ R.slots) (hdg : decode cc pc = .ok (.invokevirtual idx, 3)) (hst1 : rv.toList ++ rest = st1)
    (kk : ∀ (H1 : Heap) (locs1 : List Loc), Wd G A s.heap H1 bs1.flatten locs1 → W p l e R s m args below meth c H1 locs1 cells slots Q (F0 m (pc + 3) ls st1)) : W p l e R s m args below meth c H locs cells slots Q (F0 m pc ls st0) := by
  subst hst1
  obtain ⟨hx, hb, hml, -, -, ho, hts, hK, hN, -, -⟩ := id C0
  obtain ⟨b1, b2, b3, b4, b5⟩ := B
  have hW1 := perm_W (b_perm hp hc) hW
  have hWc := p_left hW1
  refine p_run C0 hW1 hsame (va_runVN ⟨hx, hb, hml, ho, hts⟩ (hM H.size) ⟨va_cnB n hts (gw_in b4) rfl rfl rfl (hN _ hlink) (hts _ b3) b5 hR, hts _ b1, hts _ b2⟩ ⟨k_blind wc _ H.size, ?_, fun U hU hw => w_pre C0 hWc (.ref b :: As) U hU hw⟩ rfl hn hl hst (lv_room hroom) hdg hcs) (fun H1 locs1 hW2 => kk H1 locs1 ?_)
  · rw [← hrc]
    exact va_recv hK hWc.1 hci hq0
  · rw [hr] at hW2
    exact perm_W (b_perm (by rw [← hlen]; exact hp) hc1).symm hW2
theorem bS1 {y : MethodName} {cc2 : ByteArray} {nL2 n d idx : Nat} {ret2 : Option FieldType} {As : List Value} {rv : Option Value} (C0 : Cx p s m args meth c G A own cc nL ret) (hW : Wd G A s.heap H bs.flatten locs) (hl : ls.size = nL)
    (hM : Cn l G d y cc2 nL2 ret2 As wc rv wc') (B : cbS y cc2 nL2 ret2 n) (hlink : Cond.methodLink own idx y ∈ gw) (is ir : List Nat) (hp : (is ++ ir).Perm (List.range bs.length)) (hc : wc = (is.filterMap (fun i => bs[i]?)).flatten) (hc1 : wc' = (is.filterMap (fun i => bs1[i]?)).flatten) (hr : ir.filterMap (fun i => bs[i]?) = ir.filterMap (fun i => bs1[i]?)) (hlen : bs.length = bs1.length) (hsame : wc'.map Prod.fst = wc.map Prod.fst) (hR : d + 1 ≤ R.frames ∧ 8 + (nL2 + 11) + 60 * d ≤ R.locals) (hn : As.length = n) (hst : st0 = As.reverse ++ rest) (hroom : (rest.map fun v => v.category).sum ≤ 8) (hcs : cells ≤ R.cells ∧ slots ≤ R.slots) (hdg : decode cc pc = .ok (.invokestatic idx, 3)) (hst1 : rv.toList ++ rest = st1)
    (kk : ∀ (H1 : Heap) (locs1 : List Loc), Wd G A s.heap H1 bs1.flatten locs1 → W p l e R s m args below meth c H1 locs1 cells slots Q (F0 m (pc + 3) ls st1)) : W p l e R s m args below meth c H locs cells slots Q (F0 m pc ls st0) := by
  subst hst1
  obtain ⟨hx, hb, hml, -, -, ho, hts, hK, -, -, -⟩ := id C0
  obtain ⟨b1, b3, b4, b5⟩ := B
  have hW1 := perm_W (b_perm hp hc) hW
  have hWc := p_left hW1
  have hcb : CallB R s args own idx y cc2 nL2 ret2 (uw y cc2 nL2 ret2) (rmD d) 0 0 n := callB_of n hts (gw_in b4) rfl rfl rfl (hts _ b3) (hts _ hlink) b5 hR
  refine p_run C0 hW1 hsame (va_runS ⟨hx, hb, hml, ho, hts⟩ (hM H.size) ⟨hcb, hts _ b1⟩ ⟨k_blind wc _ H.size, fun U hU hw => w_pre C0 hWc As U hU hw⟩ rfl hn hl hst (lv_room hroom) hdg hcs) (fun H1 locs1 hW2 => kk H1 locs1 ?_)
  rw [hr] at hW2
  exact perm_W (b_perm (by rw [← hlen]; exact hp) hc1).symm hW2
end KB
