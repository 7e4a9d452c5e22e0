theorem lg_self (r : Int64) : lg_cmp r r = 0 := by simp [lg_cmp]
section PL
variable {p : Program} {l : Launch} {e : Env} {R : Room} {s : State} {m : MethodId} {args : Array Value} {below : List Frame} {meth : Method} {c : Code} {H : Heap} {locs : List Loc} {cells slots : Nat} {Q : State → Prop}
variable {G : GG} {A : Nat → Prop} {own : String} {cc : ByteArray} {nL : Nat} {ret9 : Option FieldType} {pc : Nat} {ls : Array Slot} {rest st0 st1 : List Value} {wc wc' wr : va_W}
theorem pV1 {y : MethodName} {cc2 : ByteArray} {nL2 n d idx : Nat} {ret2 : Option FieldType} {b : Nat} {As : List Value} {rv : Option Value} (C0 : Cx p s m args meth c G A own cc nL ret9) (hW : Wd G A s.heap H (wc ++ wr) locs) (hl : ls.size = nL)
    (hM : Cn l G d y cc2 nL2 ret2 (.ref b :: As) wc rv wc') (B : cbV y cc2 nL2 ret2 n) (hlink : Cond.methodLink own idx y ∈ gw) (hsame : wc'.map Prod.fst = wc.map Prod.fst) (q0 ci : Nat) {rc : vw_C} {fs : List Value} (hci : vwCl[ci]? = some rc) (hrc : rc.1 = y.cls) (hq0 : wc[q0]? = some (b, .inr (ci, fs))) (hR : d + 1 ≤ R.frames ∧ 8 + (nL2 + 11) + 60 * d ≤ R.locals) (hn : As.length = n) (hst : st0 = As.reverse ++ .ref b :: rest) (hroom : (rest.map fun v => v.category).sum ≤ 8) (hcs : cells ≤ R.cells ∧ slots ≤ R.slots) (hdg : decode cc pc = .ok (.invokevirtual idx, 3)) (hst1 : rv.toList ++ rest = st1)
    (kk : ∀ (H1 : Heap) (locs1 : List Loc), Wd G A s.heap H1 (wc' ++ wr) locs1 → W p l e R s m args below meth c H1 locs1 cells slots Q (F0 m (pc + 3) ls st1)) : W p l e R s m args below meth c H locs cells slots Q (F0 m pc ls st0) := by
  subst hst1
  obtain ⟨hx, hb, hml, -, -, ho, hts, hK, -, -, -⟩ := id C0
  obtain ⟨b1, b2, b3, b4, b5⟩ := B
  have hWc := p_left hW
  have hcb : CallB R s args own idx y cc2 nL2 ret2 (uw y cc2 nL2 ret2) (rmD d) 0 0 n := callB_of n hts (gw_in b4) rfl rfl rfl (hts _ b3) (hts _ hlink) b5 hR
  refine p_run C0 hW hsame (va_runV ⟨hx, hb, hml, ho, hts⟩ (hM H.size) ⟨hcb, hts _ b1, hts _ b2⟩ ⟨k_blind wc _ H.size, ?_, fun U hU hw => w_pre C0 hWc (.ref b :: As) U hU hw⟩ rfl hn hl hst (lv_room hroom) hdg hcs) kk
  rw [← hrc]
  exact va_recv hK hWc.1 hci hq0
theorem pV2 {y : MethodName} {cc2 : ByteArray} {nL2 n d idx : Nat} {ret2 : Option FieldType} {b : Nat} {As : List Value} {rv : Option Value} (C0 : Cx p s m args meth c G A own cc nL ret9) (hW : Wd G A s.heap H (wr ++ wc) locs) (hl : ls.size = nL)
    (hM : Cn l G d y cc2 nL2 ret2 (.ref b :: As) wc rv wc') (B : cbV y cc2 nL2 ret2 n) (hlink : Cond.methodLink own idx y ∈ gw) (hsame : wc'.map Prod.fst = wc.map Prod.fst) (q0 ci : Nat) {rc : vw_C} {fs : List Value} (hci : vwCl[ci]? = some rc) (hrc : rc.1 = y.cls) (hq0 : wc[q0]? = some (b, .inr (ci, fs))) (hR : d + 1 ≤ R.frames ∧ 8 + (nL2 + 11) + 60 * d ≤ R.locals) (hn : As.length = n) (hst : st0 = As.reverse ++ .ref b :: rest) (hroom : (rest.map fun v => v.category).sum ≤ 8) (hcs : cells ≤ R.cells ∧ slots ≤ R.slots) (hdg : decode cc pc = .ok (.invokevirtual idx, 3)) (hst1 : rv.toList ++ rest = st1)
    (kk : ∀ (H1 : Heap) (locs1 : List Loc), Wd G A s.heap H1 (wr ++ wc') locs1 → W p l e R s m args below meth c H1 locs1 cells slots Q (F0 m (pc + 3) ls st1)) : W p l e R s m args below meth c H locs cells slots Q (F0 m pc ls st0) :=
  pV1 C0 (perm_W List.perm_append_comm hW) hl hM B hlink hsame q0 ci hci hrc hq0 hR hn hst hroom hcs hdg hst1 (fun H1 locs1 h => kk H1 locs1 (perm_W List.perm_append_comm h))
end PL
def S_row (Rel : Ww → Md → Prop) : Prop := ∀ (x : Ww) (y : Md), Rel x y → ∀ (v0 v1 : Int32), ∃ (r : Int32) (x1 : Ww) (y1 : Md), f_X5_row x v0 v1 = some (r, x1) ∧ f_X6_row y v0 v1 = some (r, y1) ∧ Rel x1 y1
set_option maxRecDepth 100000 in
set_option maxHeartbeats 4000000 in
theorem lc_row {p : Program} {l : Launch} {e : Env} {s : State} {m : MethodId} {below : List Frame} {meth : Method} {c : Code} {H : Heap} {locs : List Loc} {cells slots : Nat} {Q : State → Prop} {G : GG} {b L : Nat} {xs : Nat → Int32} {a1 a2 : Nat → Nat} {x : Ww} {y : Md} {ls : Array Slot} {x3 : Int32} {Rel : Ww → Md → Prop} (C0 : Cx p s m #[Value.ref b] meth c G (fun q => s.heap.size ≤ q) RL code 4 ret) (hX : va_X b L xs s s.heap) (hbl : b < s.heap.size) (hcs : cells ≤ room_1.cells ∧ slots ≤ room_1.slots) (hS9 : S_row Rel) (hRel : Rel x y) (hl : lv_has ls 4 [(0, .ref b), (1, .ref (a1 0)), (2, .ref (a2 0)), (3, .int x3)]) (hi1 : vp_in (x3 + 1) L) (hi2 : vp_in (x3 + 2) L) (hW : Wd G (fun q => s.heap.size ≤ q) s.heap H (bWw G a1 0 x ++ bMd G a2 0 y) locs)
    (kk : ∀ (x1 : Ww) (y1 : Md) (H1 : Heap) (locs1 : List Loc), Rel x1 y1 → Wd G (fun q => s.heap.size ≤ q) s.heap H1 (bWw G a1 0 x1 ++ bMd G a2 0 y1) locs1 → W p l e room_1 s m #[Value.ref b] below meth c H1 locs1 cells slots Q (F0 m 1265 ls [])) : W p l e room_1 s m #[Value.ref b] below meth c H locs cells slots Q (F0 m 216 ls []) := by
  have hx := C0.1
  have hb := C0.2.1
  have hbA : ¬ (fun q : Nat => s.heap.size ≤ q) b := Nat.not_le.mpr hbl
  obtain ⟨r, x1, y1, h5, h6, hR9⟩ := hS9 x y hRel (xs (x3 + 1).toNatClampNeg) (xs (x3 + 2).toNatClampNeg)
  refine lv_aload_n hx hb dL_law_216 rfl (lv_at hl 1 rfl) ?_
  refine lv_aload_n hx hb dL_law_217 rfl (lv_at hl 0 rfl) ?_
  refine lv_iload_n hx hb dL_law_218 rfl (lv_at hl 3 rfl) ?_
  refine lv_iconst (v := 1) hx hb dL_law_219 (by decide) ?_
  refine lv_iadd hx hb dL_law_220 ?_
  refine va_sld hx hb hX hbl hbA hW.2.2 hi1 dL_law_221 ?_
  refine lv_aload_n hx hb dL_law_222 rfl (lv_at hl 0 rfl) ?_
  refine lv_iload_n hx hb dL_law_223 rfl (lv_at hl 3 rfl) ?_
  refine lv_iconst (v := 2) hx hb dL_law_224 (by decide) ?_
  refine lv_iadd hx hb dL_law_225 ?_
  refine va_sld hx hb hX hbl hbA hW.2.2 hi2 dL_law_226 ?_
  refine pV1 (wc' := bWw G a1 0 x1) (rv := some (.int r)) (rest := []) (st1 := [.int r]) C0 hW hl.1 (c_X5_row l G a1 0 x (xs (x3 + 1).toNatClampNeg) (xs (x3 + 2).toNatClampNeg) _ h5) cb_X5_row mm_L_13 fst_Ww 0 5 rfl rfl rfl (by decide) rfl rfl (Nat.le_of_ble_eq_true rfl) hcs dL_law_227 rfl (fun H locs hW => ?_)
  refine lv_aload_n hx hb dL_law_230 rfl (lv_at hl 2 rfl) ?_
  refine lv_aload_n hx hb dL_law_231 rfl (lv_at hl 0 rfl) ?_
  refine lv_iload_n hx hb dL_law_232 rfl (lv_at hl 3 rfl) ?_
  refine lv_iconst (v := 1) hx hb dL_law_233 (by decide) ?_
  refine lv_iadd hx hb dL_law_234 ?_
  refine va_sld hx hb hX hbl hbA hW.2.2 hi1 dL_law_235 ?_
  refine lv_aload_n hx hb dL_law_236 rfl (lv_at hl 0 rfl) ?_
  refine lv_iload_n hx hb dL_law_237 rfl (lv_at hl 3 rfl) ?_
  refine lv_iconst (v := 2) hx hb dL_law_238 (by decide) ?_
  refine lv_iadd hx hb dL_law_239 ?_
  refine va_sld hx hb hX hbl hbA hW.2.2 hi2 dL_law_240 ?_
  refine pV2 (wc' := bMd G a2 0 y1) (rv := some (.int r)) (rest := [.int r]) (st1 := [.int r, .int r]) C0 hW hl.1 (c_X6_row l G a2 0 y (xs (x3 + 1).toNatClampNeg) (xs (x3 + 2).toNatClampNeg) _ h6) cb_X6_row mm_L_17 fst_Md 0 6 rfl rfl rfl (by decide) rfl rfl (Nat.le_of_ble_eq_true rfl) hcs dL_law_241 rfl (fun H locs hW => ?_)
  refine lv_icmp_eq (tgt := 1265) hx hb dL_law_244 (by decide) (fun _ => ?_) (fun c9 => absurd rfl c9)
  exact kk _ _ _ _ hR9 hW
def S_lay (Rel : Ww → Md → Prop) : Prop := ∀ (x : Ww) (y : Md), Rel x y → ∀ (v0 v1 v2 : Int32), ∃ (r : Int32) (x1 : Ww) (y1 : Md), f_X5_lay x v0 v1 v2 = some (r, x1) ∧ f_X6_lay y v0 v1 v2 = some (r, y1) ∧ Rel x1 y1
set_option maxRecDepth 100000 in
set_option maxHeartbeats 4000000 in
theorem lc_lay {p : Program} {l : Launch} {e : Env} {s : State} {m : MethodId} {below : List Frame} {meth : Method} {c : Code} {H : Heap} {locs : List Loc} {cells slots : Nat} {Q : State → Prop} {G : GG} {b L : Nat} {xs : Nat → Int32} {a1 a2 : Nat → Nat} {x : Ww} {y : Md} {ls : Array Slot} {x3 : Int32} {Rel : Ww → Md → Prop} (C0 : Cx p s m #[Value.ref b] meth c G (fun q => s.heap.size ≤ q) RL code 4 ret) (hX : va_X b L xs s s.heap) (hbl : b < s.heap.size) (hcs : cells ≤ room_1.cells ∧ slots ≤ room_1.slots) (hS9 : S_lay Rel) (hRel : Rel x y) (hl : lv_has ls 4 [(0, .ref b), (1, .ref (a1 0)), (2, .ref (a2 0)), (3, .int x3)]) (hi1 : vp_in (x3 + 1) L) (hi2 : vp_in (x3 + 2) L) (hi3 : vp_in (x3 + 3) L) (hW : Wd G (fun q => s.heap.size ≤ q) s.heap H (bWw G a1 0 x ++ bMd G a2 0 y) locs)
    (kk : ∀ (x1 : Ww) (y1 : Md) (H1 : Heap) (locs1 : List Loc), Rel x1 y1 → Wd G (fun q => s.heap.size ≤ q) s.heap H1 (bWw G a1 0 x1 ++ bMd G a2 0 y1) locs1 → W p l e room_1 s m #[Value.ref b] below meth c H1 locs1 cells slots Q (F0 m 1265 ls [])) : W p l e room_1 s m #[Value.ref b] below meth c H locs cells slots Q (F0 m 249 ls []) := by
  have hx := C0.1
  have hb := C0.2.1
  have hbA : ¬ (fun q : Nat => s.heap.size ≤ q) b := Nat.not_le.mpr hbl
  obtain ⟨r, x1, y1, h5, h6, hR9⟩ := hS9 x y hRel (xs (x3 + 1).toNatClampNeg) (xs (x3 + 2).toNatClampNeg) (xs (x3 + 3).toNatClampNeg)
  refine lv_aload_n hx hb dL_law_249 rfl (lv_at hl 1 rfl) ?_
  refine lv_aload_n hx hb dL_law_250 rfl (lv_at hl 0 rfl) ?_
  refine lv_iload_n hx hb dL_law_251 rfl (lv_at hl 3 rfl) ?_
  refine lv_iconst (v := 1) hx hb dL_law_252 (by decide) ?_
  refine lv_iadd hx hb dL_law_253 ?_
  refine va_sld hx hb hX hbl hbA hW.2.2 hi1 dL_law_254 ?_
  refine lv_aload_n hx hb dL_law_255 rfl (lv_at hl 0 rfl) ?_
  refine lv_iload_n hx hb dL_law_256 rfl (lv_at hl 3 rfl) ?_
  refine lv_iconst (v := 2) hx hb dL_law_257 (by decide) ?_
  refine lv_iadd hx hb dL_law_258 ?_
  refine va_sld hx hb hX hbl hbA hW.2.2 hi2 dL_law_259 ?_
  refine lv_aload_n hx hb dL_law_260 rfl (lv_at hl 0 rfl) ?_
  refine lv_iload_n hx hb dL_law_261 rfl (lv_at hl 3 rfl) ?_
  refine lv_iconst (v := 3) hx hb dL_law_262 (by decide) ?_
  refine lv_iadd hx hb dL_law_263 ?_
  refine va_sld hx hb hX hbl hbA hW.2.2 hi3 dL_law_264 ?_
  refine pV1 (wc' := bWw G a1 0 x1) (rv := some (.int r)) (rest := []) (st1 := [.int r]) C0 hW hl.1 (c_X5_lay l G a1 0 x (xs (x3 + 1).toNatClampNeg) (xs (x3 + 2).toNatClampNeg) (xs (x3 + 3).toNatClampNeg) _ h5) cb_X5_lay mm_L_18 fst_Ww 0 5 rfl rfl rfl (by decide) rfl rfl (Nat.le_of_ble_eq_true rfl) hcs dL_law_265 rfl (fun H locs hW => ?_)
  refine lv_aload_n hx hb dL_law_268 rfl (lv_at hl 2 rfl) ?_
  refine lv_aload_n hx hb dL_law_269 rfl (lv_at hl 0 rfl) ?_
  refine lv_iload_n hx hb dL_law_270 rfl (lv_at hl 3 rfl) ?_
  refine lv_iconst (v := 1) hx hb dL_law_271 (by decide) ?_
  refine lv_iadd hx hb dL_law_272 ?_
  refine va_sld hx hb hX hbl hbA hW.2.2 hi1 dL_law_273 ?_
  refine lv_aload_n hx hb dL_law_274 rfl (lv_at hl 0 rfl) ?_
  refine lv_iload_n hx hb dL_law_275 rfl (lv_at hl 3 rfl) ?_
  refine lv_iconst (v := 2) hx hb dL_law_276 (by decide) ?_
  refine lv_iadd hx hb dL_law_277 ?_
  refine va_sld hx hb hX hbl hbA hW.2.2 hi2 dL_law_278 ?_
  refine lv_aload_n hx hb dL_law_279 rfl (lv_at hl 0 rfl) ?_
  refine lv_iload_n hx hb dL_law_280 rfl (lv_at hl 3 rfl) ?_
  refine lv_iconst (v := 3) hx hb dL_law_281 (by decide) ?_
  refine lv_iadd hx hb dL_law_282 ?_
  refine va_sld hx hb hX hbl hbA hW.2.2 hi3 dL_law_283 ?_
  refine pV2 (wc' := bMd G a2 0 y1) (rv := some (.int r)) (rest := [.int r]) (st1 := [.int r, .int r]) C0 hW hl.1 (c_X6_lay l G a2 0 y (xs (x3 + 1).toNatClampNeg) (xs (x3 + 2).toNatClampNeg) (xs (x3 + 3).toNatClampNeg) _ h6) cb_X6_lay mm_L_22 fst_Md 0 6 rfl rfl rfl (by decide) rfl rfl (Nat.le_of_ble_eq_true rfl) hcs dL_law_284 rfl (fun H locs hW => ?_)
  refine lv_icmp_eq (tgt := 1265) hx hb dL_law_287 (by decide) (fun _ => ?_) (fun c9 => absurd rfl c9)
  exact kk _ _ _ _ hR9 hW
def S_at (Rel : Ww → Md → Prop) : Prop := ∀ (x : Ww) (y : Md), Rel x y → ∀ (v0 v1 : Int32), ∃ (r : Int32) (x1 : Ww) (y1 : Md), f_X5_at x v0 v1 = some (r, x1) ∧ f_X6_at y v0 v1 = some (r, y1) ∧ Rel x1 y1
set_option maxRecDepth 100000 in
set_option maxHeartbeats 4000000 in
theorem lc_at {p : Program} {l : Launch} {e : Env} {s : State} {m : MethodId} {below : List Frame} {meth : Method} {c : Code} {H : Heap} {locs : List Loc} {cells slots : Nat} {Q : State → Prop} {G : GG} {b L : Nat} {xs : Nat → Int32} {a1 a2 : Nat → Nat} {x : Ww} {y : Md} {ls : Array Slot} {x3 : Int32} {Rel : Ww → Md → Prop} (C0 : Cx p s m #[Value.ref b] meth c G (fun q => s.heap.size ≤ q) RL code 4 ret) (hX : va_X b L xs s s.heap) (hbl : b < s.heap.size) (hcs : cells ≤ room_1.cells ∧ slots ≤ room_1.slots) (hS9 : S_at Rel) (hRel : Rel x y) (hl : lv_has ls 4 [(0, .ref b), (1, .ref (a1 0)), (2, .ref (a2 0)), (3, .int x3)]) (hi1 : vp_in (x3 + 1) L) (hi2 : vp_in (x3 + 2) L) (hW : Wd G (fun q => s.heap.size ≤ q) s.heap H (bWw G a1 0 x ++ bMd G a2 0 y) locs)
    (kk : ∀ (x1 : Ww) (y1 : Md) (H1 : Heap) (locs1 : List Loc), Rel x1 y1 → Wd G (fun q => s.heap.size ≤ q) s.heap H1 (bWw G a1 0 x1 ++ bMd G a2 0 y1) locs1 → W p l e room_1 s m #[Value.ref b] below meth c H1 locs1 cells slots Q (F0 m 1265 ls [])) : W p l e room_1 s m #[Value.ref b] below meth c H locs cells slots Q (F0 m 292 ls []) := by
  have hx := C0.1
  have hb := C0.2.1
  have hbA : ¬ (fun q : Nat => s.heap.size ≤ q) b := Nat.not_le.mpr hbl
  obtain ⟨r, x1, y1, h5, h6, hR9⟩ := hS9 x y hRel (xs (x3 + 1).toNatClampNeg) (xs (x3 + 2).toNatClampNeg)
  refine lv_aload_n hx hb dL_law_292 rfl (lv_at hl 1 rfl) ?_
  refine lv_aload_n hx hb dL_law_293 rfl (lv_at hl 0 rfl) ?_
  refine lv_iload_n hx hb dL_law_294 rfl (lv_at hl 3 rfl) ?_
  refine lv_iconst (v := 1) hx hb dL_law_295 (by decide) ?_
  refine lv_iadd hx hb dL_law_296 ?_
  refine va_sld hx hb hX hbl hbA hW.2.2 hi1 dL_law_297 ?_
  refine lv_aload_n hx hb dL_law_298 rfl (lv_at hl 0 rfl) ?_
  refine lv_iload_n hx hb dL_law_299 rfl (lv_at hl 3 rfl) ?_
  refine lv_iconst (v := 2) hx hb dL_law_300 (by decide) ?_
  refine lv_iadd hx hb dL_law_301 ?_
  refine va_sld hx hb hX hbl hbA hW.2.2 hi2 dL_law_302 ?_
  refine pV1 (wc' := bWw G a1 0 x1) (rv := some (.int r)) (rest := []) (st1 := [.int r]) C0 hW hl.1 (c_X5_at l G a1 0 x (xs (x3 + 1).toNatClampNeg) (xs (x3 + 2).toNatClampNeg) _ h5) cb_X5_at mm_L_23 fst_Ww 0 5 rfl rfl rfl (by decide) rfl rfl (Nat.le_of_ble_eq_true rfl) hcs dL_law_303 rfl (fun H locs hW => ?_)
  refine lv_aload_n hx hb dL_law_306 rfl (lv_at hl 2 rfl) ?_
  refine lv_aload_n hx hb dL_law_307 rfl (lv_at hl 0 rfl) ?_
  refine lv_iload_n hx hb dL_law_308 rfl (lv_at hl 3 rfl) ?_
  refine lv_iconst (v := 1) hx hb dL_law_309 (by decide) ?_
  refine lv_iadd hx hb dL_law_310 ?_
  refine va_sld hx hb hX hbl hbA hW.2.2 hi1 dL_law_311 ?_
  refine lv_aload_n hx hb dL_law_312 rfl (lv_at hl 0 rfl) ?_
  refine lv_iload_n hx hb dL_law_313 rfl (lv_at hl 3 rfl) ?_
  refine lv_iconst (v := 2) hx hb dL_law_314 (by decide) ?_
  refine lv_iadd hx hb dL_law_315 ?_
  refine va_sld hx hb hX hbl hbA hW.2.2 hi2 dL_law_316 ?_
  refine pV2 (wc' := bMd G a2 0 y1) (rv := some (.int r)) (rest := [.int r]) (st1 := [.int r, .int r]) C0 hW hl.1 (c_X6_at l G a2 0 y (xs (x3 + 1).toNatClampNeg) (xs (x3 + 2).toNatClampNeg) _ h6) cb_X6_at mm_L_26 fst_Md 0 6 rfl rfl rfl (by decide) rfl rfl (Nat.le_of_ble_eq_true rfl) hcs dL_law_317 rfl (fun H locs hW => ?_)
  refine lv_icmp_eq (tgt := 1265) hx hb dL_law_320 (by decide) (fun _ => ?_) (fun c9 => absurd rfl c9)
  exact kk _ _ _ _ hR9 hW
def S_tear (Rel : Ww → Md → Prop) : Prop := ∀ (x : Ww) (y : Md), Rel x y → ∀ (v0 : Int32), ∃ (r : Int32) (x1 : Ww) (y1 : Md), f_X5_tear x v0 = some (r, x1) ∧ f_X6_tear y v0 = some (r, y1) ∧ Rel x1 y1
set_option maxRecDepth 100000 in
set_option maxHeartbeats 4000000 in
theorem lc_tear {p : Program} {l : Launch} {e : Env} {s : State} {m : MethodId} {below : List Frame} {meth : Method} {c : Code} {H : Heap} {locs : List Loc} {cells slots : Nat} {Q : State → Prop} {G : GG} {b L : Nat} {xs : Nat → Int32} {a1 a2 : Nat → Nat} {x : Ww} {y : Md} {ls : Array Slot} {x3 : Int32} {Rel : Ww → Md → Prop} (C0 : Cx p s m #[Value.ref b] meth c G (fun q => s.heap.size ≤ q) RL code 4 ret) (hX : va_X b L xs s s.heap) (hbl : b < s.heap.size) (hcs : cells ≤ room_1.cells ∧ slots ≤ room_1.slots) (hS9 : S_tear Rel) (hRel : Rel x y) (hl : lv_has ls 4 [(0, .ref b), (1, .ref (a1 0)), (2, .ref (a2 0)), (3, .int x3)]) (hi1 : vp_in (x3 + 1) L) (hW : Wd G (fun q => s.heap.size ≤ q) s.heap H (bWw G a1 0 x ++ bMd G a2 0 y) locs)
    (kk : ∀ (x1 : Ww) (y1 : Md) (H1 : Heap) (locs1 : List Loc), Rel x1 y1 → Wd G (fun q => s.heap.size ≤ q) s.heap H1 (bWw G a1 0 x1 ++ bMd G a2 0 y1) locs1 → W p l e room_1 s m #[Value.ref b] below meth c H1 locs1 cells slots Q (F0 m 1265 ls [])) : W p l e room_1 s m #[Value.ref b] below meth c H locs cells slots Q (F0 m 325 ls []) := by
  have hx := C0.1
  have hb := C0.2.1
  have hbA : ¬ (fun q : Nat => s.heap.size ≤ q) b := Nat.not_le.mpr hbl
  obtain ⟨r, x1, y1, h5, h6, hR9⟩ := hS9 x y hRel (xs (x3 + 1).toNatClampNeg)
  refine lv_aload_n hx hb dL_law_325 rfl (lv_at hl 1 rfl) ?_
  refine lv_aload_n hx hb dL_law_326 rfl (lv_at hl 0 rfl) ?_
  refine lv_iload_n hx hb dL_law_327 rfl (lv_at hl 3 rfl) ?_
  refine lv_iconst (v := 1) hx hb dL_law_328 (by decide) ?_
  refine lv_iadd hx hb dL_law_329 ?_
  refine va_sld hx hb hX hbl hbA hW.2.2 hi1 dL_law_330 ?_
  refine pV1 (wc' := bWw G a1 0 x1) (rv := some (.int r)) (rest := []) (st1 := [.int r]) C0 hW hl.1 (c_X5_tear l G a1 0 x (xs (x3 + 1).toNatClampNeg) _ h5) cb_X5_tear mm_L_27 fst_Ww 0 5 rfl rfl rfl (by decide) rfl rfl (Nat.le_of_ble_eq_true rfl) hcs dL_law_331 rfl (fun H locs hW => ?_)
  refine lv_aload_n hx hb dL_law_334 rfl (lv_at hl 2 rfl) ?_
  refine lv_aload_n hx hb dL_law_335 rfl (lv_at hl 0 rfl) ?_
  refine lv_iload_n hx hb dL_law_336 rfl (lv_at hl 3 rfl) ?_
  refine lv_iconst (v := 1) hx hb dL_law_337 (by decide) ?_
  refine lv_iadd hx hb dL_law_338 ?_
  refine va_sld hx hb hX hbl hbA hW.2.2 hi1 dL_law_339 ?_
  refine pV2 (wc' := bMd G a2 0 y1) (rv := some (.int r)) (rest := [.int r]) (st1 := [.int r, .int r]) C0 hW hl.1 (c_X6_tear l G a2 0 y (xs (x3 + 1).toNatClampNeg) _ h6) cb_X6_tear mm_L_31 fst_Md 0 6 rfl rfl rfl (by decide) rfl rfl (Nat.le_of_ble_eq_true rfl) hcs dL_law_340 rfl (fun H locs hW => ?_)
  refine lv_icmp_eq (tgt := 1265) hx hb dL_law_343 (by decide) (fun _ => ?_) (fun c9 => absurd rfl c9)
  exact kk _ _ _ _ hR9 hW
def S_copy (Rel : Ww → Md → Prop) : Prop := ∀ (x : Ww) (y : Md), Rel x y → ∀ (v0 v1 v2 v3 v4 : Int32), ∃ (r : Int32) (x1 : Ww) (y1 : Md), f_X5_copy x v0 v1 v2 v3 v4 = some (r, x1) ∧ f_X6_copy y v0 v1 v2 v3 v4 = some (r, y1) ∧ Rel x1 y1
set_option maxRecDepth 100000 in
set_option maxHeartbeats 4000000 in
theorem lc_copy {p : Program} {l : Launch} {e : Env} {s : State} {m : MethodId} {below : List Frame} {meth : Method} {c : Code} {H : Heap} {locs : List Loc} {cells slots : Nat} {Q : State → Prop} {G : GG} {b L : Nat} {xs : Nat → Int32} {a1 a2 : Nat → Nat} {x : Ww} {y : Md} {ls : Array Slot} {x3 : Int32} {Rel : Ww → Md → Prop} (C0 : Cx p s m #[Value.ref b] meth c G (fun q => s.heap.size ≤ q) RL code 4 ret) (hX : va_X b L xs s s.heap) (hbl : b < s.heap.size) (hcs : cells ≤ room_1.cells ∧ slots ≤ room_1.slots) (hS9 : S_copy Rel) (hRel : Rel x y) (hl : lv_has ls 4 [(0, .ref b), (1, .ref (a1 0)), (2, .ref (a2 0)), (3, .int x3)]) (hi1 : vp_in (x3 + 1) L) (hi2 : vp_in (x3 + 2) L) (hi3 : vp_in (x3 + 3) L) (hi4 : vp_in (x3 + 4) L) (hi5 : vp_in (x3 + 5) L) (hW : Wd G (fun q => s.heap.size ≤ q) s.heap H (bWw G a1 0 x ++ bMd G a2 0 y) locs)
    (kk : ∀ (x1 : Ww) (y1 : Md) (H1 : Heap) (locs1 : List Loc), Rel x1 y1 → Wd G (fun q => s.heap.size ≤ q) s.heap H1 (bWw G a1 0 x1 ++ bMd G a2 0 y1) locs1 → W p l e room_1 s m #[Value.ref b] below meth c H1 locs1 cells slots Q (F0 m 1265 ls [])) : W p l e room_1 s m #[Value.ref b] below meth c H locs cells slots Q (F0 m 348 ls []) := by
  have hx := C0.1
  have hb := C0.2.1
  have hbA : ¬ (fun q : Nat => s.heap.size ≤ q) b := Nat.not_le.mpr hbl
  obtain ⟨r, x1, y1, h5, h6, hR9⟩ := hS9 x y hRel (xs (x3 + 1).toNatClampNeg) (xs (x3 + 2).toNatClampNeg) (xs (x3 + 3).toNatClampNeg) (xs (x3 + 4).toNatClampNeg) (xs (x3 + 5).toNatClampNeg)
  refine lv_aload_n hx hb dL_law_348 rfl (lv_at hl 1 rfl) ?_
  refine lv_aload_n hx hb dL_law_349 rfl (lv_at hl 0 rfl) ?_
  refine lv_iload_n hx hb dL_law_350 rfl (lv_at hl 3 rfl) ?_
  refine lv_iconst (v := 1) hx hb dL_law_351 (by decide) ?_
  refine lv_iadd hx hb dL_law_352 ?_
  refine va_sld hx hb hX hbl hbA hW.2.2 hi1 dL_law_353 ?_
  refine lv_aload_n hx hb dL_law_354 rfl (lv_at hl 0 rfl) ?_
  refine lv_iload_n hx hb dL_law_355 rfl (lv_at hl 3 rfl) ?_
  refine lv_iconst (v := 2) hx hb dL_law_356 (by decide) ?_
  refine lv_iadd hx hb dL_law_357 ?_
  refine va_sld hx hb hX hbl hbA hW.2.2 hi2 dL_law_358 ?_
  refine lv_aload_n hx hb dL_law_359 rfl (lv_at hl 0 rfl) ?_
  refine lv_iload_n hx hb dL_law_360 rfl (lv_at hl 3 rfl) ?_
  refine lv_iconst (v := 3) hx hb dL_law_361 (by decide) ?_
  refine lv_iadd hx hb dL_law_362 ?_
  refine va_sld hx hb hX hbl hbA hW.2.2 hi3 dL_law_363 ?_
  refine lv_aload_n hx hb dL_law_364 rfl (lv_at hl 0 rfl) ?_
  refine lv_iload_n hx hb dL_law_365 rfl (lv_at hl 3 rfl) ?_
  refine lv_iconst (v := 4) hx hb dL_law_366 (by decide) ?_
  refine lv_iadd hx hb dL_law_367 ?_
  refine va_sld hx hb hX hbl hbA hW.2.2 hi4 dL_law_368 ?_
  refine lv_aload_n hx hb dL_law_369 rfl (lv_at hl 0 rfl) ?_
  refine lv_iload_n hx hb dL_law_370 rfl (lv_at hl 3 rfl) ?_
  refine lv_iconst (v := 5) hx hb dL_law_371 (by decide) ?_
  refine lv_iadd hx hb dL_law_372 ?_
  refine va_sld hx hb hX hbl hbA hW.2.2 hi5 dL_law_373 ?_
  refine pV1 (wc' := bWw G a1 0 x1) (rv := some (.int r)) (rest := []) (st1 := [.int r]) C0 hW hl.1 (c_X5_copy l G a1 0 x (xs (x3 + 1).toNatClampNeg) (xs (x3 + 2).toNatClampNeg) (xs (x3 + 3).toNatClampNeg) (xs (x3 + 4).toNatClampNeg) (xs (x3 + 5).toNatClampNeg) _ h5) cb_X5_copy mm_L_32 fst_Ww 0 5 rfl rfl rfl (by decide) rfl rfl (Nat.le_of_ble_eq_true rfl) hcs dL_law_374 rfl (fun H locs hW => ?_)
  refine lv_aload_n hx hb dL_law_377 rfl (lv_at hl 2 rfl) ?_
  refine lv_aload_n hx hb dL_law_378 rfl (lv_at hl 0 rfl) ?_
  refine lv_iload_n hx hb dL_law_379 rfl (lv_at hl 3 rfl) ?_
  refine lv_iconst (v := 1) hx hb dL_law_380 (by decide) ?_
  refine lv_iadd hx hb dL_law_381 ?_
  refine va_sld hx hb hX hbl hbA hW.2.2 hi1 dL_law_382 ?_
  refine lv_aload_n hx hb dL_law_383 rfl (lv_at hl 0 rfl) ?_
  refine lv_iload_n hx hb dL_law_384 rfl (lv_at hl 3 rfl) ?_
  refine lv_iconst (v := 2) hx hb dL_law_385 (by decide) ?_
  refine lv_iadd hx hb dL_law_386 ?_
  refine va_sld hx hb hX hbl hbA hW.2.2 hi2 dL_law_387 ?_
  refine lv_aload_n hx hb dL_law_388 rfl (lv_at hl 0 rfl) ?_
  refine lv_iload_n hx hb dL_law_389 rfl (lv_at hl 3 rfl) ?_
  refine lv_iconst (v := 3) hx hb dL_law_390 (by decide) ?_
  refine lv_iadd hx hb dL_law_391 ?_
  refine va_sld hx hb hX hbl hbA hW.2.2 hi3 dL_law_392 ?_
  refine lv_aload_n hx hb dL_law_393 rfl (lv_at hl 0 rfl) ?_
  refine lv_iload_n hx hb dL_law_394 rfl (lv_at hl 3 rfl) ?_
  refine lv_iconst (v := 4) hx hb dL_law_395 (by decide) ?_
  refine lv_iadd hx hb dL_law_396 ?_
  refine va_sld hx hb hX hbl hbA hW.2.2 hi4 dL_law_397 ?_
  refine lv_aload_n hx hb dL_law_398 rfl (lv_at hl 0 rfl) ?_
  refine lv_iload_n hx hb dL_law_399 rfl (lv_at hl 3 rfl) ?_
  refine lv_iconst (v := 5) hx hb dL_law_400 (by decide) ?_
  refine lv_iadd hx hb dL_law_401 ?_
  refine va_sld hx hb hX hbl hbA hW.2.2 hi5 dL_law_402 ?_
  refine pV2 (wc' := bMd G a2 0 y1) (rv := some (.int r)) (rest := [.int r]) (st1 := [.int r, .int r]) C0 hW hl.1 (c_X6_copy l G a2 0 y (xs (x3 + 1).toNatClampNeg) (xs (x3 + 2).toNatClampNeg) (xs (x3 + 3).toNatClampNeg) (xs (x3 + 4).toNatClampNeg) (xs (x3 + 5).toNatClampNeg) _ h6) cb_X6_copy mm_L_36 fst_Md 0 6 rfl rfl rfl (by decide) rfl rfl (Nat.le_of_ble_eq_true rfl) hcs dL_law_403 rfl (fun H locs hW => ?_)
  refine lv_icmp_eq (tgt := 1265) hx hb dL_law_406 (by decide) (fun _ => ?_) (fun c9 => absurd rfl c9)
  exact kk _ _ _ _ hR9 hW
def S_mean (Rel : Ww → Md → Prop) : Prop := ∀ (x : Ww) (y : Md), Rel x y → ∀ (v0 : Int32), ∃ (r : Int32) (x1 : Ww) (y1 : Md), f_X5_mean x v0 = some (r, x1) ∧ f_X6_mean y v0 = some (r, y1) ∧ Rel x1 y1
set_option maxRecDepth 100000 in
set_option maxHeartbeats 4000000 in
theorem lc_mean {p : Program} {l : Launch} {e : Env} {s : State} {m : MethodId} {below : List Frame} {meth : Method} {c : Code} {H : Heap} {locs : List Loc} {cells slots : Nat} {Q : State → Prop} {G : GG} {b L : Nat} {xs : Nat → Int32} {a1 a2 : Nat → Nat} {x : Ww} {y : Md} {ls : Array Slot} {x3 : Int32} {Rel : Ww → Md → Prop} (C0 : Cx p s m #[Value.ref b] meth c G (fun q => s.heap.size ≤ q) RL code 4 ret) (hX : va_X b L xs s s.heap) (hbl : b < s.heap.size) (hcs : cells ≤ room_1.cells ∧ slots ≤ room_1.slots) (hS9 : S_mean Rel) (hRel : Rel x y) (hl : lv_has ls 4 [(0, .ref b), (1, .ref (a1 0)), (2, .ref (a2 0)), (3, .int x3)]) (hi1 : vp_in (x3 + 1) L) (hW : Wd G (fun q => s.heap.size ≤ q) s.heap H (bWw G a1 0 x ++ bMd G a2 0 y) locs)
    (kk : ∀ (x1 : Ww) (y1 : Md) (H1 : Heap) (locs1 : List Loc), Rel x1 y1 → Wd G (fun q => s.heap.size ≤ q) s.heap H1 (bWw G a1 0 x1 ++ bMd G a2 0 y1) locs1 → W p l e room_1 s m #[Value.ref b] below meth c H1 locs1 cells slots Q (F0 m 1265 ls [])) : W p l e room_1 s m #[Value.ref b] below meth c H locs cells slots Q (F0 m 411 ls []) := by
  have hx := C0.1
  have hb := C0.2.1
  have hbA : ¬ (fun q : Nat => s.heap.size ≤ q) b := Nat.not_le.mpr hbl
  obtain ⟨r, x1, y1, h5, h6, hR9⟩ := hS9 x y hRel (xs (x3 + 1).toNatClampNeg)
  refine lv_aload_n hx hb dL_law_411 rfl (lv_at hl 1 rfl) ?_
  refine lv_aload_n hx hb dL_law_412 rfl (lv_at hl 0 rfl) ?_
  refine lv_iload_n hx hb dL_law_413 rfl (lv_at hl 3 rfl) ?_
  refine lv_iconst (v := 1) hx hb dL_law_414 (by decide) ?_
  refine lv_iadd hx hb dL_law_415 ?_
  refine va_sld hx hb hX hbl hbA hW.2.2 hi1 dL_law_416 ?_
  refine pV1 (wc' := bWw G a1 0 x1) (rv := some (.int r)) (rest := []) (st1 := [.int r]) C0 hW hl.1 (c_X5_mean l G a1 0 x (xs (x3 + 1).toNatClampNeg) _ h5) cb_X5_mean mm_L_37 fst_Ww 0 5 rfl rfl rfl (by decide) rfl rfl (Nat.le_of_ble_eq_true rfl) hcs dL_law_417 rfl (fun H locs hW => ?_)
  refine lv_aload_n hx hb dL_law_420 rfl (lv_at hl 2 rfl) ?_
  refine lv_aload_n hx hb dL_law_421 rfl (lv_at hl 0 rfl) ?_
  refine lv_iload_n hx hb dL_law_422 rfl (lv_at hl 3 rfl) ?_
  refine lv_iconst (v := 1) hx hb dL_law_423 (by decide) ?_
  refine lv_iadd hx hb dL_law_424 ?_
  refine va_sld hx hb hX hbl hbA hW.2.2 hi1 dL_law_425 ?_
  refine pV2 (wc' := bMd G a2 0 y1) (rv := some (.int r)) (rest := [.int r]) (st1 := [.int r, .int r]) C0 hW hl.1 (c_X6_mean l G a2 0 y (xs (x3 + 1).toNatClampNeg) _ h6) cb_X6_mean mm_L_40 fst_Md 0 6 rfl rfl rfl (by decide) rfl rfl (Nat.le_of_ble_eq_true rfl) hcs dL_law_426 rfl (fun H locs hW => ?_)
  refine lv_icmp_eq (tgt := 1265) hx hb dL_law_429 (by decide) (fun _ => ?_) (fun c9 => absurd rfl c9)
  exact kk _ _ _ _ hR9 hW
def S_text (Rel : Ww → Md → Prop) : Prop := ∀ (x : Ww) (y : Md), Rel x y → ∀ (v0 v1 : Int32), ∃ (r : Int32) (x1 : Ww) (y1 : Md), f_X5_text x v0 v1 = some (r, x1) ∧ f_X6_text y v0 v1 = some (r, y1) ∧ Rel x1 y1
set_option maxRecDepth 100000 in
set_option maxHeartbeats 4000000 in
theorem lc_text {p : Program} {l : Launch} {e : Env} {s : State} {m : MethodId} {below : List Frame} {meth : Method} {c : Code} {H : Heap} {locs : List Loc} {cells slots : Nat} {Q : State → Prop} {G : GG} {b L : Nat} {xs : Nat → Int32} {a1 a2 : Nat → Nat} {x : Ww} {y : Md} {ls : Array Slot} {x3 : Int32} {Rel : Ww → Md → Prop} (C0 : Cx p s m #[Value.ref b] meth c G (fun q => s.heap.size ≤ q) RL code 4 ret) (hX : va_X b L xs s s.heap) (hbl : b < s.heap.size) (hcs : cells ≤ room_1.cells ∧ slots ≤ room_1.slots) (hS9 : S_text Rel) (hRel : Rel x y) (hl : lv_has ls 4 [(0, .ref b), (1, .ref (a1 0)), (2, .ref (a2 0)), (3, .int x3)]) (hi1 : vp_in (x3 + 1) L) (hi2 : vp_in (x3 + 2) L) (hW : Wd G (fun q => s.heap.size ≤ q) s.heap H (bWw G a1 0 x ++ bMd G a2 0 y) locs)
    (kk : ∀ (x1 : Ww) (y1 : Md) (H1 : Heap) (locs1 : List Loc), Rel x1 y1 → Wd G (fun q => s.heap.size ≤ q) s.heap H1 (bWw G a1 0 x1 ++ bMd G a2 0 y1) locs1 → W p l e room_1 s m #[Value.ref b] below meth c H1 locs1 cells slots Q (F0 m 1265 ls [])) : W p l e room_1 s m #[Value.ref b] below meth c H locs cells slots Q (F0 m 434 ls []) := by
  have hx := C0.1
  have hb := C0.2.1
  have hbA : ¬ (fun q : Nat => s.heap.size ≤ q) b := Nat.not_le.mpr hbl
  obtain ⟨r, x1, y1, h5, h6, hR9⟩ := hS9 x y hRel (xs (x3 + 1).toNatClampNeg) (xs (x3 + 2).toNatClampNeg)
  refine lv_aload_n hx hb dL_law_434 rfl (lv_at hl 1 rfl) ?_
  refine lv_aload_n hx hb dL_law_435 rfl (lv_at hl 0 rfl) ?_
  refine lv_iload_n hx hb dL_law_436 rfl (lv_at hl 3 rfl) ?_
  refine lv_iconst (v := 1) hx hb dL_law_437 (by decide) ?_
  refine lv_iadd hx hb dL_law_438 ?_
  refine va_sld hx hb hX hbl hbA hW.2.2 hi1 dL_law_439 ?_
  refine lv_aload_n hx hb dL_law_440 rfl (lv_at hl 0 rfl) ?_
  refine lv_iload_n hx hb dL_law_441 rfl (lv_at hl 3 rfl) ?_
  refine lv_iconst (v := 2) hx hb dL_law_442 (by decide) ?_
  refine lv_iadd hx hb dL_law_443 ?_
  refine va_sld hx hb hX hbl hbA hW.2.2 hi2 dL_law_444 ?_
  refine pV1 (wc' := bWw G a1 0 x1) (rv := some (.int r)) (rest := []) (st1 := [.int r]) C0 hW hl.1 (c_X5_text l G a1 0 x (xs (x3 + 1).toNatClampNeg) (xs (x3 + 2).toNatClampNeg) _ h5) cb_X5_text mm_L_41 fst_Ww 0 5 rfl rfl rfl (by decide) rfl rfl (Nat.le_of_ble_eq_true rfl) hcs dL_law_445 rfl (fun H locs hW => ?_)
  refine lv_aload_n hx hb dL_law_448 rfl (lv_at hl 2 rfl) ?_
  refine lv_aload_n hx hb dL_law_449 rfl (lv_at hl 0 rfl) ?_
  refine lv_iload_n hx hb dL_law_450 rfl (lv_at hl 3 rfl) ?_
  refine lv_iconst (v := 1) hx hb dL_law_451 (by decide) ?_
  refine lv_iadd hx hb dL_law_452 ?_
  refine va_sld hx hb hX hbl hbA hW.2.2 hi1 dL_law_453 ?_
  refine lv_aload_n hx hb dL_law_454 rfl (lv_at hl 0 rfl) ?_
  refine lv_iload_n hx hb dL_law_455 rfl (lv_at hl 3 rfl) ?_
  refine lv_iconst (v := 2) hx hb dL_law_456 (by decide) ?_
  refine lv_iadd hx hb dL_law_457 ?_
  refine va_sld hx hb hX hbl hbA hW.2.2 hi2 dL_law_458 ?_
  refine pV2 (wc' := bMd G a2 0 y1) (rv := some (.int r)) (rest := [.int r]) (st1 := [.int r, .int r]) C0 hW hl.1 (c_X6_text l G a2 0 y (xs (x3 + 1).toNatClampNeg) (xs (x3 + 2).toNatClampNeg) _ h6) cb_X6_text mm_L_44 fst_Md 0 6 rfl rfl rfl (by decide) rfl rfl (Nat.le_of_ble_eq_true rfl) hcs dL_law_459 rfl (fun H locs hW => ?_)
  refine lv_icmp_eq (tgt := 1265) hx hb dL_law_462 (by decide) (fun _ => ?_) (fun c9 => absurd rfl c9)
  exact kk _ _ _ _ hR9 hW
def S_put (Rel : Ww → Md → Prop) : Prop := ∀ (x : Ww) (y : Md), Rel x y → ∀ (v0 v1 v2 : Int32), ∃ (r : Int32) (x1 : Ww) (y1 : Md), f_X5_put x v0 v1 v2 = some (r, x1) ∧ f_X6_put y v0 v1 v2 = some (r, y1) ∧ Rel x1 y1
set_option maxRecDepth 100000 in
set_option maxHeartbeats 4000000 in
theorem lc_put {p : Program} {l : Launch} {e : Env} {s : State} {m : MethodId} {below : List Frame} {meth : Method} {c : Code} {H : Heap} {locs : List Loc} {cells slots : Nat} {Q : State → Prop} {G : GG} {b L : Nat} {xs : Nat → Int32} {a1 a2 : Nat → Nat} {x : Ww} {y : Md} {ls : Array Slot} {x3 : Int32} {Rel : Ww → Md → Prop} (C0 : Cx p s m #[Value.ref b] meth c G (fun q => s.heap.size ≤ q) RL code 4 ret) (hX : va_X b L xs s s.heap) (hbl : b < s.heap.size) (hcs : cells ≤ room_1.cells ∧ slots ≤ room_1.slots) (hS9 : S_put Rel) (hRel : Rel x y) (hl : lv_has ls 4 [(0, .ref b), (1, .ref (a1 0)), (2, .ref (a2 0)), (3, .int x3)]) (hi1 : vp_in (x3 + 1) L) (hi2 : vp_in (x3 + 2) L) (hi3 : vp_in (x3 + 3) L) (hW : Wd G (fun q => s.heap.size ≤ q) s.heap H (bWw G a1 0 x ++ bMd G a2 0 y) locs)
    (kk : ∀ (x1 : Ww) (y1 : Md) (H1 : Heap) (locs1 : List Loc), Rel x1 y1 → Wd G (fun q => s.heap.size ≤ q) s.heap H1 (bWw G a1 0 x1 ++ bMd G a2 0 y1) locs1 → W p l e room_1 s m #[Value.ref b] below meth c H1 locs1 cells slots Q (F0 m 1265 ls [])) : W p l e room_1 s m #[Value.ref b] below meth c H locs cells slots Q (F0 m 467 ls []) := by
  have hx := C0.1
  have hb := C0.2.1
  have hbA : ¬ (fun q : Nat => s.heap.size ≤ q) b := Nat.not_le.mpr hbl
  obtain ⟨r, x1, y1, h5, h6, hR9⟩ := hS9 x y hRel (xs (x3 + 1).toNatClampNeg) (xs (x3 + 2).toNatClampNeg) (xs (x3 + 3).toNatClampNeg)
  refine lv_aload_n hx hb dL_law_467 rfl (lv_at hl 1 rfl) ?_
  refine lv_aload_n hx hb dL_law_468 rfl (lv_at hl 0 rfl) ?_
  refine lv_iload_n hx hb dL_law_469 rfl (lv_at hl 3 rfl) ?_
  refine lv_iconst (v := 1) hx hb dL_law_470 (by decide) ?_
  refine lv_iadd hx hb dL_law_471 ?_
  refine va_sld hx hb hX hbl hbA hW.2.2 hi1 dL_law_472 ?_
  refine lv_aload_n hx hb dL_law_473 rfl (lv_at hl 0 rfl) ?_
  refine lv_iload_n hx hb dL_law_474 rfl (lv_at hl 3 rfl) ?_
  refine lv_iconst (v := 2) hx hb dL_law_475 (by decide) ?_
  refine lv_iadd hx hb dL_law_476 ?_
  refine va_sld hx hb hX hbl hbA hW.2.2 hi2 dL_law_477 ?_
  refine lv_aload_n hx hb dL_law_478 rfl (lv_at hl 0 rfl) ?_
  refine lv_iload_n hx hb dL_law_479 rfl (lv_at hl 3 rfl) ?_
  refine lv_iconst (v := 3) hx hb dL_law_480 (by decide) ?_
  refine lv_iadd hx hb dL_law_481 ?_
  refine va_sld hx hb hX hbl hbA hW.2.2 hi3 dL_law_482 ?_
  refine pV1 (wc' := bWw G a1 0 x1) (rv := some (.int r)) (rest := []) (st1 := [.int r]) C0 hW hl.1 (c_X5_put l G a1 0 x (xs (x3 + 1).toNatClampNeg) (xs (x3 + 2).toNatClampNeg) (xs (x3 + 3).toNatClampNeg) _ h5) cb_X5_put mm_L_45 fst_Ww 0 5 rfl rfl rfl (by decide) rfl rfl (Nat.le_of_ble_eq_true rfl) hcs dL_law_483 rfl (fun H locs hW => ?_)
  refine lv_aload_n hx hb dL_law_486 rfl (lv_at hl 2 rfl) ?_
  refine lv_aload_n hx hb dL_law_487 rfl (lv_at hl 0 rfl) ?_
  refine lv_iload_n hx hb dL_law_488 rfl (lv_at hl 3 rfl) ?_
  refine lv_iconst (v := 1) hx hb dL_law_489 (by decide) ?_
  refine lv_iadd hx hb dL_law_490 ?_
  refine va_sld hx hb hX hbl hbA hW.2.2 hi1 dL_law_491 ?_
  refine lv_aload_n hx hb dL_law_492 rfl (lv_at hl 0 rfl) ?_
  refine lv_iload_n hx hb dL_law_493 rfl (lv_at hl 3 rfl) ?_
  refine lv_iconst (v := 2) hx hb dL_law_494 (by decide) ?_
  refine lv_iadd hx hb dL_law_495 ?_
  refine va_sld hx hb hX hbl hbA hW.2.2 hi2 dL_law_496 ?_
  refine lv_aload_n hx hb dL_law_497 rfl (lv_at hl 0 rfl) ?_
  refine lv_iload_n hx hb dL_law_498 rfl (lv_at hl 3 rfl) ?_
  refine lv_iconst (v := 3) hx hb dL_law_499 (by decide) ?_
  refine lv_iadd hx hb dL_law_500 ?_
  refine va_sld hx hb hX hbl hbA hW.2.2 hi3 dL_law_501 ?_
  refine pV2 (wc' := bMd G a2 0 y1) (rv := some (.int r)) (rest := [.int r]) (st1 := [.int r, .int r]) C0 hW hl.1 (c_X6_put l G a2 0 y (xs (x3 + 1).toNatClampNeg) (xs (x3 + 2).toNatClampNeg) (xs (x3 + 3).toNatClampNeg) _ h6) cb_X6_put mm_L_48 fst_Md 0 6 rfl rfl rfl (by decide) rfl rfl (Nat.le_of_ble_eq_true rfl) hcs dL_law_502 rfl (fun H locs hW => ?_)
  refine lv_icmp_eq (tgt := 1265) hx hb dL_law_505 (by decide) (fun _ => ?_) (fun c9 => absurd rfl c9)
  exact kk _ _ _ _ hR9 hW
def S_fault (Rel : Ww → Md → Prop) : Prop := ∀ (x : Ww) (y : Md), Rel x y → ∀ (v0 : Int32), ∃ (r : Int32) (x1 : Ww) (y1 : Md), f_X5_fault x v0 = some (r, x1) ∧ f_X6_fault y v0 = some (r, y1) ∧ Rel x1 y1
set_option maxRecDepth 100000 in
set_option maxHeartbeats 4000000 in
theorem lc_fault {p : Program} {l : Launch} {e : Env} {s : State} {m : MethodId} {below : List Frame} {meth : Method} {c : Code} {H : Heap} {locs : List Loc} {cells slots : Nat} {Q : State → Prop} {G : GG} {b L : Nat} {xs : Nat → Int32} {a1 a2 : Nat → Nat} {x : Ww} {y : Md} {ls : Array Slot} {x3 : Int32} {Rel : Ww → Md → Prop} (C0 : Cx p s m #[Value.ref b] meth c G (fun q => s.heap.size ≤ q) RL code 4 ret) (hX : va_X b L xs s s.heap) (hbl : b < s.heap.size) (hcs : cells ≤ room_1.cells ∧ slots ≤ room_1.slots) (hS9 : S_fault Rel) (hRel : Rel x y) (hl : lv_has ls 4 [(0, .ref b), (1, .ref (a1 0)), (2, .ref (a2 0)), (3, .int x3)]) (hi1 : vp_in (x3 + 1) L) (hW : Wd G (fun q => s.heap.size ≤ q) s.heap H (bWw G a1 0 x ++ bMd G a2 0 y) locs)
    (kk : ∀ (x1 : Ww) (y1 : Md) (H1 : Heap) (locs1 : List Loc), Rel x1 y1 → Wd G (fun q => s.heap.size ≤ q) s.heap H1 (bWw G a1 0 x1 ++ bMd G a2 0 y1) locs1 → W p l e room_1 s m #[Value.ref b] below meth c H1 locs1 cells slots Q (F0 m 1265 ls [])) : W p l e room_1 s m #[Value.ref b] below meth c H locs cells slots Q (F0 m 510 ls []) := by
  have hx := C0.1
  have hb := C0.2.1
  have hbA : ¬ (fun q : Nat => s.heap.size ≤ q) b := Nat.not_le.mpr hbl
  obtain ⟨r, x1, y1, h5, h6, hR9⟩ := hS9 x y hRel (xs (x3 + 1).toNatClampNeg)
  refine lv_aload_n hx hb dL_law_510 rfl (lv_at hl 1 rfl) ?_
  refine lv_aload_n hx hb dL_law_511 rfl (lv_at hl 0 rfl) ?_
  refine lv_iload_n hx hb dL_law_512 rfl (lv_at hl 3 rfl) ?_
  refine lv_iconst (v := 1) hx hb dL_law_513 (by decide) ?_
  refine lv_iadd hx hb dL_law_514 ?_
  refine va_sld hx hb hX hbl hbA hW.2.2 hi1 dL_law_515 ?_
  refine pV1 (wc' := bWw G a1 0 x1) (rv := some (.int r)) (rest := []) (st1 := [.int r]) C0 hW hl.1 (c_X5_fault l G a1 0 x (xs (x3 + 1).toNatClampNeg) _ h5) cb_X5_fault mm_L_49 fst_Ww 0 5 rfl rfl rfl (by decide) rfl rfl (Nat.le_of_ble_eq_true rfl) hcs dL_law_516 rfl (fun H locs hW => ?_)
  refine lv_aload_n hx hb dL_law_519 rfl (lv_at hl 2 rfl) ?_
  refine lv_aload_n hx hb dL_law_520 rfl (lv_at hl 0 rfl) ?_
  refine lv_iload_n hx hb dL_law_521 rfl (lv_at hl 3 rfl) ?_
  refine lv_iconst (v := 1) hx hb dL_law_522 (by decide) ?_
  refine lv_iadd hx hb dL_law_523 ?_
  refine va_sld hx hb hX hbl hbA hW.2.2 hi1 dL_law_524 ?_
  refine pV2 (wc' := bMd G a2 0 y1) (rv := some (.int r)) (rest := [.int r]) (st1 := [.int r, .int r]) C0 hW hl.1 (c_X6_fault l G a2 0 y (xs (x3 + 1).toNatClampNeg) _ h6) cb_X6_fault mm_L_52 fst_Md 0 6 rfl rfl rfl (by decide) rfl rfl (Nat.le_of_ble_eq_true rfl) hcs dL_law_525 rfl (fun H locs hW => ?_)
  refine lv_icmp_eq (tgt := 1265) hx hb dL_law_528 (by decide) (fun _ => ?_) (fun c9 => absurd rfl c9)
  exact kk _ _ _ _ hR9 hW
def S_wheel (Rel : Ww → Md → Prop) : Prop := ∀ (x : Ww) (y : Md), Rel x y → ∀ (v0 : Int32), ∃ (r : Int32) (x1 : Ww) (y1 : Md), f_X5_wheel x v0 = some (r, x1) ∧ f_X6_wheel y v0 = some (r, y1) ∧ Rel x1 y1
set_option maxRecDepth 100000 in
set_option maxHeartbeats 4000000 in
theorem lc_wheel {p : Program} {l : Launch} {e : Env} {s : State} {m : MethodId} {below : List Frame} {meth : Method} {c : Code} {H : Heap} {locs : List Loc} {cells slots : Nat} {Q : State → Prop} {G : GG} {b L : Nat} {xs : Nat → Int32} {a1 a2 : Nat → Nat} {x : Ww} {y : Md} {ls : Array Slot} {x3 : Int32} {Rel : Ww → Md → Prop} (C0 : Cx p s m #[Value.ref b] meth c G (fun q => s.heap.size ≤ q) RL code 4 ret) (hX : va_X b L xs s s.heap) (hbl : b < s.heap.size) (hcs : cells ≤ room_1.cells ∧ slots ≤ room_1.slots) (hS9 : S_wheel Rel) (hRel : Rel x y) (hl : lv_has ls 4 [(0, .ref b), (1, .ref (a1 0)), (2, .ref (a2 0)), (3, .int x3)]) (hi1 : vp_in (x3 + 1) L) (hW : Wd G (fun q => s.heap.size ≤ q) s.heap H (bWw G a1 0 x ++ bMd G a2 0 y) locs)
    (kk : ∀ (x1 : Ww) (y1 : Md) (H1 : Heap) (locs1 : List Loc), Rel x1 y1 → Wd G (fun q => s.heap.size ≤ q) s.heap H1 (bWw G a1 0 x1 ++ bMd G a2 0 y1) locs1 → W p l e room_1 s m #[Value.ref b] below meth c H1 locs1 cells slots Q (F0 m 1265 ls [])) : W p l e room_1 s m #[Value.ref b] below meth c H locs cells slots Q (F0 m 533 ls []) := by
  have hx := C0.1
  have hb := C0.2.1
  have hbA : ¬ (fun q : Nat => s.heap.size ≤ q) b := Nat.not_le.mpr hbl
  obtain ⟨r, x1, y1, h5, h6, hR9⟩ := hS9 x y hRel (xs (x3 + 1).toNatClampNeg)
  refine lv_aload_n hx hb dL_law_533 rfl (lv_at hl 1 rfl) ?_
  refine lv_aload_n hx hb dL_law_534 rfl (lv_at hl 0 rfl) ?_
  refine lv_iload_n hx hb dL_law_535 rfl (lv_at hl 3 rfl) ?_
  refine lv_iconst (v := 1) hx hb dL_law_536 (by decide) ?_
  refine lv_iadd hx hb dL_law_537 ?_
  refine va_sld hx hb hX hbl hbA hW.2.2 hi1 dL_law_538 ?_
  refine pV1 (wc' := bWw G a1 0 x1) (rv := some (.int r)) (rest := []) (st1 := [.int r]) C0 hW hl.1 (c_X5_wheel l G a1 0 x (xs (x3 + 1).toNatClampNeg) _ h5) cb_X5_wheel mm_L_53 fst_Ww 0 5 rfl rfl rfl (by decide) rfl rfl (Nat.le_of_ble_eq_true rfl) hcs dL_law_539 rfl (fun H locs hW => ?_)
  refine lv_aload_n hx hb dL_law_542 rfl (lv_at hl 2 rfl) ?_
  refine lv_aload_n hx hb dL_law_543 rfl (lv_at hl 0 rfl) ?_
  refine lv_iload_n hx hb dL_law_544 rfl (lv_at hl 3 rfl) ?_
  refine lv_iconst (v := 1) hx hb dL_law_545 (by decide) ?_
  refine lv_iadd hx hb dL_law_546 ?_
  refine va_sld hx hb hX hbl hbA hW.2.2 hi1 dL_law_547 ?_
  refine pV2 (wc' := bMd G a2 0 y1) (rv := some (.int r)) (rest := [.int r]) (st1 := [.int r, .int r]) C0 hW hl.1 (c_X6_wheel l G a2 0 y (xs (x3 + 1).toNatClampNeg) _ h6) cb_X6_wheel mm_L_56 fst_Md 0 6 rfl rfl rfl (by decide) rfl rfl (Nat.le_of_ble_eq_true rfl) hcs dL_law_548 rfl (fun H locs hW => ?_)
  refine lv_icmp_eq (tgt := 1265) hx hb dL_law_551 (by decide) (fun _ => ?_) (fun c9 => absurd rfl c9)
  exact kk _ _ _ _ hR9 hW
def S_spoke (Rel : Ww → Md → Prop) : Prop := ∀ (x : Ww) (y : Md), Rel x y → ∀ (v0 v1 : Int32), ∃ (r : Int32) (x1 : Ww) (y1 : Md), f_X5_spoke x v0 v1 = some (r, x1) ∧ f_X6_spoke y v0 v1 = some (r, y1) ∧ Rel x1 y1
set_option maxRecDepth 100000 in
set_option maxHeartbeats 4000000 in
theorem lc_spoke {p : Program} {l : Launch} {e : Env} {s : State} {m : MethodId} {below : List Frame} {meth : Method} {c : Code} {H : Heap} {locs : List Loc} {cells slots : Nat} {Q : State → Prop} {G : GG} {b L : Nat} {xs : Nat → Int32} {a1 a2 : Nat → Nat} {x : Ww} {y : Md} {ls : Array Slot} {x3 : Int32} {Rel : Ww → Md → Prop} (C0 : Cx p s m #[Value.ref b] meth c G (fun q => s.heap.size ≤ q) RL code 4 ret) (hX : va_X b L xs s s.heap) (hbl : b < s.heap.size) (hcs : cells ≤ room_1.cells ∧ slots ≤ room_1.slots) (hS9 : S_spoke Rel) (hRel : Rel x y) (hl : lv_has ls 4 [(0, .ref b), (1, .ref (a1 0)), (2, .ref (a2 0)), (3, .int x3)]) (hi1 : vp_in (x3 + 1) L) (hi2 : vp_in (x3 + 2) L) (hW : Wd G (fun q => s.heap.size ≤ q) s.heap H (bWw G a1 0 x ++ bMd G a2 0 y) locs)
    (kk : ∀ (x1 : Ww) (y1 : Md) (H1 : Heap) (locs1 : List Loc), Rel x1 y1 → Wd G (fun q => s.heap.size ≤ q) s.heap H1 (bWw G a1 0 x1 ++ bMd G a2 0 y1) locs1 → W p l e room_1 s m #[Value.ref b] below meth c H1 locs1 cells slots Q (F0 m 1265 ls [])) : W p l e room_1 s m #[Value.ref b] below meth c H locs cells slots Q (F0 m 556 ls []) := by
  have hx := C0.1
  have hb := C0.2.1
  have hbA : ¬ (fun q : Nat => s.heap.size ≤ q) b := Nat.not_le.mpr hbl
  obtain ⟨r, x1, y1, h5, h6, hR9⟩ := hS9 x y hRel (xs (x3 + 1).toNatClampNeg) (xs (x3 + 2).toNatClampNeg)
  refine lv_aload_n hx hb dL_law_556 rfl (lv_at hl 1 rfl) ?_
  refine lv_aload_n hx hb dL_law_557 rfl (lv_at hl 0 rfl) ?_
  refine lv_iload_n hx hb dL_law_558 rfl (lv_at hl 3 rfl) ?_
  refine lv_iconst (v := 1) hx hb dL_law_559 (by decide) ?_
  refine lv_iadd hx hb dL_law_560 ?_
  refine va_sld hx hb hX hbl hbA hW.2.2 hi1 dL_law_561 ?_
  refine lv_aload_n hx hb dL_law_562 rfl (lv_at hl 0 rfl) ?_
  refine lv_iload_n hx hb dL_law_563 rfl (lv_at hl 3 rfl) ?_
  refine lv_iconst (v := 2) hx hb dL_law_564 (by decide) ?_
  refine lv_iadd hx hb dL_law_565 ?_
  refine va_sld hx hb hX hbl hbA hW.2.2 hi2 dL_law_566 ?_
  refine pV1 (wc' := bWw G a1 0 x1) (rv := some (.int r)) (rest := []) (st1 := [.int r]) C0 hW hl.1 (c_X5_spoke l G a1 0 x (xs (x3 + 1).toNatClampNeg) (xs (x3 + 2).toNatClampNeg) _ h5) cb_X5_spoke mm_L_57 fst_Ww 0 5 rfl rfl rfl (by decide) rfl rfl (Nat.le_of_ble_eq_true rfl) hcs dL_law_567 rfl (fun H locs hW => ?_)
  refine lv_aload_n hx hb dL_law_570 rfl (lv_at hl 2 rfl) ?_
  refine lv_aload_n hx hb dL_law_571 rfl (lv_at hl 0 rfl) ?_
  refine lv_iload_n hx hb dL_law_572 rfl (lv_at hl 3 rfl) ?_
  refine lv_iconst (v := 1) hx hb dL_law_573 (by decide) ?_
  refine lv_iadd hx hb dL_law_574 ?_
  refine va_sld hx hb hX hbl hbA hW.2.2 hi1 dL_law_575 ?_
  refine lv_aload_n hx hb dL_law_576 rfl (lv_at hl 0 rfl) ?_
  refine lv_iload_n hx hb dL_law_577 rfl (lv_at hl 3 rfl) ?_
  refine lv_iconst (v := 2) hx hb dL_law_578 (by decide) ?_
  refine lv_iadd hx hb dL_law_579 ?_
  refine va_sld hx hb hX hbl hbA hW.2.2 hi2 dL_law_580 ?_
  refine pV2 (wc' := bMd G a2 0 y1) (rv := some (.int r)) (rest := [.int r]) (st1 := [.int r, .int r]) C0 hW hl.1 (c_X6_spoke l G a2 0 y (xs (x3 + 1).toNatClampNeg) (xs (x3 + 2).toNatClampNeg) _ h6) cb_X6_spoke mm_L_60 fst_Md 0 6 rfl rfl rfl (by decide) rfl rfl (Nat.le_of_ble_eq_true rfl) hcs dL_law_581 rfl (fun H locs hW => ?_)
  refine lv_icmp_eq (tgt := 1265) hx hb dL_law_584 (by decide) (fun _ => ?_) (fun c9 => absurd rfl c9)
  exact kk _ _ _ _ hR9 hW
def S_mark (Rel : Ww → Md → Prop) : Prop := ∀ (x : Ww) (y : Md), Rel x y → ∀ (v0 v1 : Int32), ∃ (r : Int32) (x1 : Ww) (y1 : Md), f_X5_mark x v0 v1 = some (r, x1) ∧ f_X6_mark y v0 v1 = some (r, y1) ∧ Rel x1 y1
set_option maxRecDepth 100000 in
set_option maxHeartbeats 4000000 in
theorem lc_mark {p : Program} {l : Launch} {e : Env} {s : State} {m : MethodId} {below : List Frame} {meth : Method} {c : Code} {H : Heap} {locs : List Loc} {cells slots : Nat} {Q : State → Prop} {G : GG} {b L : Nat} {xs : Nat → Int32} {a1 a2 : Nat → Nat} {x : Ww} {y : Md} {ls : Array Slot} {x3 : Int32} {Rel : Ww → Md → Prop} (C0 : Cx p s m #[Value.ref b] meth c G (fun q => s.heap.size ≤ q) RL code 4 ret) (hX : va_X b L xs s s.heap) (hbl : b < s.heap.size) (hcs : cells ≤ room_1.cells ∧ slots ≤ room_1.slots) (hS9 : S_mark Rel) (hRel : Rel x y) (hl : lv_has ls 4 [(0, .ref b), (1, .ref (a1 0)), (2, .ref (a2 0)), (3, .int x3)]) (hi1 : vp_in (x3 + 1) L) (hi2 : vp_in (x3 + 2) L) (hW : Wd G (fun q => s.heap.size ≤ q) s.heap H (bWw G a1 0 x ++ bMd G a2 0 y) locs)
    (kk : ∀ (x1 : Ww) (y1 : Md) (H1 : Heap) (locs1 : List Loc), Rel x1 y1 → Wd G (fun q => s.heap.size ≤ q) s.heap H1 (bWw G a1 0 x1 ++ bMd G a2 0 y1) locs1 → W p l e room_1 s m #[Value.ref b] below meth c H1 locs1 cells slots Q (F0 m 1265 ls [])) : W p l e room_1 s m #[Value.ref b] below meth c H locs cells slots Q (F0 m 589 ls []) := by
  have hx := C0.1
  have hb := C0.2.1
  have hbA : ¬ (fun q : Nat => s.heap.size ≤ q) b := Nat.not_le.mpr hbl
  obtain ⟨r, x1, y1, h5, h6, hR9⟩ := hS9 x y hRel (xs (x3 + 1).toNatClampNeg) (xs (x3 + 2).toNatClampNeg)
  refine lv_aload_n hx hb dL_law_589 rfl (lv_at hl 1 rfl) ?_
  refine lv_aload_n hx hb dL_law_590 rfl (lv_at hl 0 rfl) ?_
  refine lv_iload_n hx hb dL_law_591 rfl (lv_at hl 3 rfl) ?_
  refine lv_iconst (v := 1) hx hb dL_law_592 (by decide) ?_
  refine lv_iadd hx hb dL_law_593 ?_
  refine va_sld hx hb hX hbl hbA hW.2.2 hi1 dL_law_594 ?_
  refine lv_aload_n hx hb dL_law_595 rfl (lv_at hl 0 rfl) ?_
  refine lv_iload_n hx hb dL_law_596 rfl (lv_at hl 3 rfl) ?_
  refine lv_iconst (v := 2) hx hb dL_law_597 (by decide) ?_
  refine lv_iadd hx hb dL_law_598 ?_
  refine va_sld hx hb hX hbl hbA hW.2.2 hi2 dL_law_599 ?_
  refine pV1 (wc' := bWw G a1 0 x1) (rv := some (.int r)) (rest := []) (st1 := [.int r]) C0 hW hl.1 (c_X5_mark l G a1 0 x (xs (x3 + 1).toNatClampNeg) (xs (x3 + 2).toNatClampNeg) _ h5) cb_X5_mark mm_L_61 fst_Ww 0 5 rfl rfl rfl (by decide) rfl rfl (Nat.le_of_ble_eq_true rfl) hcs dL_law_600 rfl (fun H locs hW => ?_)
  refine lv_aload_n hx hb dL_law_603 rfl (lv_at hl 2 rfl) ?_
  refine lv_aload_n hx hb dL_law_604 rfl (lv_at hl 0 rfl) ?_
  refine lv_iload_n hx hb dL_law_605 rfl (lv_at hl 3 rfl) ?_
  refine lv_iconst (v := 1) hx hb dL_law_606 (by decide) ?_
  refine lv_iadd hx hb dL_law_607 ?_
  refine va_sld hx hb hX hbl hbA hW.2.2 hi1 dL_law_608 ?_
  refine lv_aload_n hx hb dL_law_609 rfl (lv_at hl 0 rfl) ?_
  refine lv_iload_n hx hb dL_law_610 rfl (lv_at hl 3 rfl) ?_
  refine lv_iconst (v := 2) hx hb dL_law_611 (by decide) ?_
  refine lv_iadd hx hb dL_law_612 ?_
  refine va_sld hx hb hX hbl hbA hW.2.2 hi2 dL_law_613 ?_
  refine pV2 (wc' := bMd G a2 0 y1) (rv := some (.int r)) (rest := [.int r]) (st1 := [.int r, .int r]) C0 hW hl.1 (c_X6_mark l G a2 0 y (xs (x3 + 1).toNatClampNeg) (xs (x3 + 2).toNatClampNeg) _ h6) cb_X6_mark mm_L_64 fst_Md 0 6 rfl rfl rfl (by decide) rfl rfl (Nat.le_of_ble_eq_true rfl) hcs dL_law_614 rfl (fun H locs hW => ?_)
  refine lv_icmp_eq (tgt := 1265) hx hb dL_law_617 (by decide) (fun _ => ?_) (fun c9 => absurd rfl c9)
  exact kk _ _ _ _ hR9 hW
def S_bears (Rel : Ww → Md → Prop) : Prop := ∀ (x : Ww) (y : Md), Rel x y → ∀ (v0 v1 v2 : Int32), ∃ (r : Int32), f_X5_bears x v0 v1 v2 = some r ∧ f_X6_bears y v0 v1 v2 = some r ∧ Rel x y
set_option maxRecDepth 100000 in
set_option maxHeartbeats 4000000 in
theorem lc_bears {p : Program} {l : Launch} {e : Env} {s : State} {m : MethodId} {below : List Frame} {meth : Method} {c : Code} {H : Heap} {locs : List Loc} {cells slots : Nat} {Q : State → Prop} {G : GG} {b L : Nat} {xs : Nat → Int32} {a1 a2 : Nat → Nat} {x : Ww} {y : Md} {ls : Array Slot} {x3 : Int32} {Rel : Ww → Md → Prop} (C0 : Cx p s m #[Value.ref b] meth c G (fun q => s.heap.size ≤ q) RL code 4 ret) (hX : va_X b L xs s s.heap) (hbl : b < s.heap.size) (hcs : cells ≤ room_1.cells ∧ slots ≤ room_1.slots) (hS9 : S_bears Rel) (hRel : Rel x y) (hl : lv_has ls 4 [(0, .ref b), (1, .ref (a1 0)), (2, .ref (a2 0)), (3, .int x3)]) (hi1 : vp_in (x3 + 1) L) (hi2 : vp_in (x3 + 2) L) (hi3 : vp_in (x3 + 3) L) (hW : Wd G (fun q => s.heap.size ≤ q) s.heap H (bWw G a1 0 x ++ bMd G a2 0 y) locs)
    (kk : ∀ (x1 : Ww) (y1 : Md) (H1 : Heap) (locs1 : List Loc), Rel x1 y1 → Wd G (fun q => s.heap.size ≤ q) s.heap H1 (bWw G a1 0 x1 ++ bMd G a2 0 y1) locs1 → W p l e room_1 s m #[Value.ref b] below meth c H1 locs1 cells slots Q (F0 m 1265 ls [])) : W p l e room_1 s m #[Value.ref b] below meth c H locs cells slots Q (F0 m 622 ls []) := by
  have hx := C0.1
  have hb := C0.2.1
  have hbA : ¬ (fun q : Nat => s.heap.size ≤ q) b := Nat.not_le.mpr hbl
  obtain ⟨r, h5, h6, hR9⟩ := hS9 x y hRel (xs (x3 + 1).toNatClampNeg) (xs (x3 + 2).toNatClampNeg) (xs (x3 + 3).toNatClampNeg)
  refine lv_aload_n hx hb dL_law_622 rfl (lv_at hl 1 rfl) ?_
  refine lv_aload_n hx hb dL_law_623 rfl (lv_at hl 0 rfl) ?_
  refine lv_iload_n hx hb dL_law_624 rfl (lv_at hl 3 rfl) ?_
  refine lv_iconst (v := 1) hx hb dL_law_625 (by decide) ?_
  refine lv_iadd hx hb dL_law_626 ?_
  refine va_sld hx hb hX hbl hbA hW.2.2 hi1 dL_law_627 ?_
  refine lv_aload_n hx hb dL_law_628 rfl (lv_at hl 0 rfl) ?_
  refine lv_iload_n hx hb dL_law_629 rfl (lv_at hl 3 rfl) ?_
  refine lv_iconst (v := 2) hx hb dL_law_630 (by decide) ?_
  refine lv_iadd hx hb dL_law_631 ?_
  refine va_sld hx hb hX hbl hbA hW.2.2 hi2 dL_law_632 ?_
  refine lv_aload_n hx hb dL_law_633 rfl (lv_at hl 0 rfl) ?_
  refine lv_iload_n hx hb dL_law_634 rfl (lv_at hl 3 rfl) ?_
  refine lv_iconst (v := 3) hx hb dL_law_635 (by decide) ?_
  refine lv_iadd hx hb dL_law_636 ?_
  refine va_sld hx hb hX hbl hbA hW.2.2 hi3 dL_law_637 ?_
  refine pV1 (wc' := bWw G a1 0 x) (rv := some (.int r)) (rest := []) (st1 := [.int r]) C0 hW hl.1 (c_X5_bears l G a1 0 x (xs (x3 + 1).toNatClampNeg) (xs (x3 + 2).toNatClampNeg) (xs (x3 + 3).toNatClampNeg) _ h5) cb_X5_bears mm_L_65 fst_Ww 0 5 rfl rfl rfl (by decide) rfl rfl (Nat.le_of_ble_eq_true rfl) hcs dL_law_638 rfl (fun H locs hW => ?_)
  refine lv_aload_n hx hb dL_law_641 rfl (lv_at hl 2 rfl) ?_
  refine lv_aload_n hx hb dL_law_642 rfl (lv_at hl 0 rfl) ?_
  refine lv_iload_n hx hb dL_law_643 rfl (lv_at hl 3 rfl) ?_
  refine lv_iconst (v := 1) hx hb dL_law_644 (by decide) ?_
  refine lv_iadd hx hb dL_law_645 ?_
  refine va_sld hx hb hX hbl hbA hW.2.2 hi1 dL_law_646 ?_
  refine lv_aload_n hx hb dL_law_647 rfl (lv_at hl 0 rfl) ?_
  refine lv_iload_n hx hb dL_law_648 rfl (lv_at hl 3 rfl) ?_
  refine lv_iconst (v := 2) hx hb dL_law_649 (by decide) ?_
  refine lv_iadd hx hb dL_law_650 ?_
  refine va_sld hx hb hX hbl hbA hW.2.2 hi2 dL_law_651 ?_
  refine lv_aload_n hx hb dL_law_652 rfl (lv_at hl 0 rfl) ?_
  refine lv_iload_n hx hb dL_law_653 rfl (lv_at hl 3 rfl) ?_
  refine lv_iconst (v := 3) hx hb dL_law_654 (by decide) ?_
  refine lv_iadd hx hb dL_law_655 ?_
  refine va_sld hx hb hX hbl hbA hW.2.2 hi3 dL_law_656 ?_
  refine pV2 (wc' := bMd G a2 0 y) (rv := some (.int r)) (rest := [.int r]) (st1 := [.int r, .int r]) C0 hW hl.1 (c_X6_bears l G a2 0 y (xs (x3 + 1).toNatClampNeg) (xs (x3 + 2).toNatClampNeg) (xs (x3 + 3).toNatClampNeg) _ h6) cb_X6_bears mm_L_68 fst_Md 0 6 rfl rfl rfl (by decide) rfl rfl (Nat.le_of_ble_eq_true rfl) hcs dL_law_657 rfl (fun H locs hW => ?_)
  refine lv_icmp_eq (tgt := 1265) hx hb dL_law_660 (by decide) (fun _ => ?_) (fun c9 => absurd rfl c9)
  exact kk _ _ _ _ hR9 hW
def S_step (Rel : Ww → Md → Prop) : Prop := ∀ (x : Ww) (y : Md), Rel x y → ∃ (r : Int32) (x1 : Ww) (y1 : Md), f_X5_step x  = some (r, x1) ∧ f_X6_step y  = some (r, y1) ∧ Rel x1 y1
set_option maxRecDepth 100000 in
set_option maxHeartbeats 4000000 in
theorem lc_step {p : Program} {l : Launch} {e : Env} {s : State} {m : MethodId} {below : List Frame} {meth : Method} {c : Code} {H : Heap} {locs : List Loc} {cells slots : Nat} {Q : State → Prop} {G : GG} {b L : Nat} {xs : Nat → Int32} {a1 a2 : Nat → Nat} {x : Ww} {y : Md} {ls : Array Slot} {x3 : Int32} {Rel : Ww → Md → Prop} (C0 : Cx p s m #[Value.ref b] meth c G (fun q => s.heap.size ≤ q) RL code 4 ret) (hX : va_X b L xs s s.heap) (hbl : b < s.heap.size) (hcs : cells ≤ room_1.cells ∧ slots ≤ room_1.slots) (hS9 : S_step Rel) (hRel : Rel x y) (hl : lv_has ls 4 [(0, .ref b), (1, .ref (a1 0)), (2, .ref (a2 0)), (3, .int x3)]) (hW : Wd G (fun q => s.heap.size ≤ q) s.heap H (bWw G a1 0 x ++ bMd G a2 0 y) locs)
    (kk : ∀ (x1 : Ww) (y1 : Md) (H1 : Heap) (locs1 : List Loc), Rel x1 y1 → Wd G (fun q => s.heap.size ≤ q) s.heap H1 (bWw G a1 0 x1 ++ bMd G a2 0 y1) locs1 → W p l e room_1 s m #[Value.ref b] below meth c H1 locs1 cells slots Q (F0 m 1265 ls [])) : W p l e room_1 s m #[Value.ref b] below meth c H locs cells slots Q (F0 m 665 ls []) := by
  have hx := C0.1
  have hb := C0.2.1
  have hbA : ¬ (fun q : Nat => s.heap.size ≤ q) b := Nat.not_le.mpr hbl
  obtain ⟨r, x1, y1, h5, h6, hR9⟩ := hS9 x y hRel 
  refine lv_aload_n hx hb dL_law_665 rfl (lv_at hl 1 rfl) ?_
  refine pV1 (wc' := bWw G a1 0 x1) (rv := some (.int r)) (rest := []) (st1 := [.int r]) C0 hW hl.1 (c_X5_step l G a1 0 x  _ h5) cb_X5_step mm_L_69 fst_Ww 0 5 rfl rfl rfl (by decide) rfl rfl (Nat.le_of_ble_eq_true rfl) hcs dL_law_666 rfl (fun H locs hW => ?_)
  refine lv_aload_n hx hb dL_law_669 rfl (lv_at hl 2 rfl) ?_
  refine pV2 (wc' := bMd G a2 0 y1) (rv := some (.int r)) (rest := [.int r]) (st1 := [.int r, .int r]) C0 hW hl.1 (c_X6_step l G a2 0 y  _ h6) cb_X6_step mm_L_73 fst_Md 0 6 rfl rfl rfl (by decide) rfl rfl (Nat.le_of_ble_eq_true rfl) hcs dL_law_670 rfl (fun H locs hW => ?_)
  refine lv_icmp_eq (tgt := 1265) hx hb dL_law_673 (by decide) (fun _ => ?_) (fun c9 => absurd rfl c9)
  exact kk _ _ _ _ hR9 hW
def S_soak (Rel : Ww → Md → Prop) : Prop := ∀ (x : Ww) (y : Md), Rel x y → ∃ (r : Int32) (x1 : Ww) (y1 : Md), f_X5_soak x  = some (r, x1) ∧ f_X6_soak y  = some (r, y1) ∧ Rel x1 y1
set_option maxRecDepth 100000 in
set_option maxHeartbeats 4000000 in
theorem lc_soak {p : Program} {l : Launch} {e : Env} {s : State} {m : MethodId} {below : List Frame} {meth : Method} {c : Code} {H : Heap} {locs : List Loc} {cells slots : Nat} {Q : State → Prop} {G : GG} {b L : Nat} {xs : Nat → Int32} {a1 a2 : Nat → Nat} {x : Ww} {y : Md} {ls : Array Slot} {x3 : Int32} {Rel : Ww → Md → Prop} (C0 : Cx p s m #[Value.ref b] meth c G (fun q => s.heap.size ≤ q) RL code 4 ret) (hX : va_X b L xs s s.heap) (hbl : b < s.heap.size) (hcs : cells ≤ room_1.cells ∧ slots ≤ room_1.slots) (hS9 : S_soak Rel) (hRel : Rel x y) (hl : lv_has ls 4 [(0, .ref b), (1, .ref (a1 0)), (2, .ref (a2 0)), (3, .int x3)]) (hW : Wd G (fun q => s.heap.size ≤ q) s.heap H (bWw G a1 0 x ++ bMd G a2 0 y) locs)
    (kk : ∀ (x1 : Ww) (y1 : Md) (H1 : Heap) (locs1 : List Loc), Rel x1 y1 → Wd G (fun q => s.heap.size ≤ q) s.heap H1 (bWw G a1 0 x1 ++ bMd G a2 0 y1) locs1 → W p l e room_1 s m #[Value.ref b] below meth c H1 locs1 cells slots Q (F0 m 1265 ls [])) : W p l e room_1 s m #[Value.ref b] below meth c H locs cells slots Q (F0 m 678 ls []) := by
  have hx := C0.1
  have hb := C0.2.1
  have hbA : ¬ (fun q : Nat => s.heap.size ≤ q) b := Nat.not_le.mpr hbl
  obtain ⟨r, x1, y1, h5, h6, hR9⟩ := hS9 x y hRel 
  refine lv_aload_n hx hb dL_law_678 rfl (lv_at hl 1 rfl) ?_
  refine pV1 (wc' := bWw G a1 0 x1) (rv := some (.int r)) (rest := []) (st1 := [.int r]) C0 hW hl.1 (c_X5_soak l G a1 0 x  _ h5) cb_X5_soak mm_L_74 fst_Ww 0 5 rfl rfl rfl (by decide) rfl rfl (Nat.le_of_ble_eq_true rfl) hcs dL_law_679 rfl (fun H locs hW => ?_)
  refine lv_aload_n hx hb dL_law_682 rfl (lv_at hl 2 rfl) ?_
  refine pV2 (wc' := bMd G a2 0 y1) (rv := some (.int r)) (rest := [.int r]) (st1 := [.int r, .int r]) C0 hW hl.1 (c_X6_soak l G a2 0 y  _ h6) cb_X6_soak mm_L_77 fst_Md 0 6 rfl rfl rfl (by decide) rfl rfl (Nat.le_of_ble_eq_true rfl) hcs dL_law_683 rfl (fun H locs hW => ?_)
  refine lv_icmp_eq (tgt := 1265) hx hb dL_law_686 (by decide) (fun _ => ?_) (fun c9 => absurd rfl c9)
  exact kk _ _ _ _ hR9 hW
def S_weather (Rel : Ww → Md → Prop) : Prop := ∀ (x : Ww) (y : Md), Rel x y → ∃ (r : Int32) (x1 : Ww) (y1 : Md), f_X5_weather x  = some (r, x1) ∧ f_X6_weather y  = some (r, y1) ∧ Rel x1 y1
set_option maxRecDepth 100000 in
set_option maxHeartbeats 4000000 in
theorem lc_weather {p : Program} {l : Launch} {e : Env} {s : State} {m : MethodId} {below : List Frame} {meth : Method} {c : Code} {H : Heap} {locs : List Loc} {cells slots : Nat} {Q : State → Prop} {G : GG} {b L : Nat} {xs : Nat → Int32} {a1 a2 : Nat → Nat} {x : Ww} {y : Md} {ls : Array Slot} {x3 : Int32} {Rel : Ww → Md → Prop} (C0 : Cx p s m #[Value.ref b] meth c G (fun q => s.heap.size ≤ q) RL code 4 ret) (hX : va_X b L xs s s.heap) (hbl : b < s.heap.size) (hcs : cells ≤ room_1.cells ∧ slots ≤ room_1.slots) (hS9 : S_weather Rel) (hRel : Rel x y) (hl : lv_has ls 4 [(0, .ref b), (1, .ref (a1 0)), (2, .ref (a2 0)), (3, .int x3)]) (hW : Wd G (fun q => s.heap.size ≤ q) s.heap H (bWw G a1 0 x ++ bMd G a2 0 y) locs)
    (kk : ∀ (x1 : Ww) (y1 : Md) (H1 : Heap) (locs1 : List Loc), Rel x1 y1 → Wd G (fun q => s.heap.size ≤ q) s.heap H1 (bWw G a1 0 x1 ++ bMd G a2 0 y1) locs1 → W p l e room_1 s m #[Value.ref b] below meth c H1 locs1 cells slots Q (F0 m 1265 ls [])) : W p l e room_1 s m #[Value.ref b] below meth c H locs cells slots Q (F0 m 691 ls []) := by
  have hx := C0.1
  have hb := C0.2.1
  have hbA : ¬ (fun q : Nat => s.heap.size ≤ q) b := Nat.not_le.mpr hbl
  obtain ⟨r, x1, y1, h5, h6, hR9⟩ := hS9 x y hRel 
  refine lv_aload_n hx hb dL_law_691 rfl (lv_at hl 1 rfl) ?_
  refine pV1 (wc' := bWw G a1 0 x1) (rv := some (.int r)) (rest := []) (st1 := [.int r]) C0 hW hl.1 (c_X5_weather l G a1 0 x  _ h5) cb_X5_weather mm_L_78 fst_Ww 0 5 rfl rfl rfl (by decide) rfl rfl (Nat.le_of_ble_eq_true rfl) hcs dL_law_692 rfl (fun H locs hW => ?_)
  refine lv_aload_n hx hb dL_law_695 rfl (lv_at hl 2 rfl) ?_
  refine pV2 (wc' := bMd G a2 0 y1) (rv := some (.int r)) (rest := [.int r]) (st1 := [.int r, .int r]) C0 hW hl.1 (c_X6_weather l G a2 0 y  _ h6) cb_X6_weather mm_L_81 fst_Md 0 6 rfl rfl rfl (by decide) rfl rfl (Nat.le_of_ble_eq_true rfl) hcs dL_law_696 rfl (fun H locs hW => ?_)
  refine lv_icmp_eq (tgt := 1265) hx hb dL_law_699 (by decide) (fun _ => ?_) (fun c9 => absurd rfl c9)
  exact kk _ _ _ _ hR9 hW
def S_knock (Rel : Ww → Md → Prop) : Prop := ∀ (x : Ww) (y : Md), Rel x y → ∀ (v0 : Int32), ∃ (r : Int32) (x1 : Ww) (y1 : Md), f_X5_knock x v0 = some (r, x1) ∧ f_X6_knock y v0 = some (r, y1) ∧ Rel x1 y1
set_option maxRecDepth 100000 in
set_option maxHeartbeats 4000000 in
theorem lc_knock {p : Program} {l : Launch} {e : Env} {s : State} {m : MethodId} {below : List Frame} {meth : Method} {c : Code} {H : Heap} {locs : List Loc} {cells slots : Nat} {Q : State → Prop} {G : GG} {b L : Nat} {xs : Nat → Int32} {a1 a2 : Nat → Nat} {x : Ww} {y : Md} {ls : Array Slot} {x3 : Int32} {Rel : Ww → Md → Prop} (C0 : Cx p s m #[Value.ref b] meth c G (fun q => s.heap.size ≤ q) RL code 4 ret) (hX : va_X b L xs s s.heap) (hbl : b < s.heap.size) (hcs : cells ≤ room_1.cells ∧ slots ≤ room_1.slots) (hS9 : S_knock Rel) (hRel : Rel x y) (hl : lv_has ls 4 [(0, .ref b), (1, .ref (a1 0)), (2, .ref (a2 0)), (3, .int x3)]) (hi1 : vp_in (x3 + 1) L) (hW : Wd G (fun q => s.heap.size ≤ q) s.heap H (bWw G a1 0 x ++ bMd G a2 0 y) locs)
    (kk : ∀ (x1 : Ww) (y1 : Md) (H1 : Heap) (locs1 : List Loc), Rel x1 y1 → Wd G (fun q => s.heap.size ≤ q) s.heap H1 (bWw G a1 0 x1 ++ bMd G a2 0 y1) locs1 → W p l e room_1 s m #[Value.ref b] below meth c H1 locs1 cells slots Q (F0 m 1265 ls [])) : W p l e room_1 s m #[Value.ref b] below meth c H locs cells slots Q (F0 m 704 ls []) := by
  have hx := C0.1
  have hb := C0.2.1
  have hbA : ¬ (fun q : Nat => s.heap.size ≤ q) b := Nat.not_le.mpr hbl
  obtain ⟨r, x1, y1, h5, h6, hR9⟩ := hS9 x y hRel (xs (x3 + 1).toNatClampNeg)
  refine lv_aload_n hx hb dL_law_704 rfl (lv_at hl 1 rfl) ?_
  refine lv_aload_n hx hb dL_law_705 rfl (lv_at hl 0 rfl) ?_
  refine lv_iload_n hx hb dL_law_706 rfl (lv_at hl 3 rfl) ?_
  refine lv_iconst (v := 1) hx hb dL_law_707 (by decide) ?_
  refine lv_iadd hx hb dL_law_708 ?_
  refine va_sld hx hb hX hbl hbA hW.2.2 hi1 dL_law_709 ?_
  refine pV1 (wc' := bWw G a1 0 x1) (rv := some (.int r)) (rest := []) (st1 := [.int r]) C0 hW hl.1 (c_X5_knock l G a1 0 x (xs (x3 + 1).toNatClampNeg) _ h5) cb_X5_knock mm_L_82 fst_Ww 0 5 rfl rfl rfl (by decide) rfl rfl (Nat.le_of_ble_eq_true rfl) hcs dL_law_710 rfl (fun H locs hW => ?_)
  refine lv_aload_n hx hb dL_law_713 rfl (lv_at hl 2 rfl) ?_
  refine lv_aload_n hx hb dL_law_714 rfl (lv_at hl 0 rfl) ?_
  refine lv_iload_n hx hb dL_law_715 rfl (lv_at hl 3 rfl) ?_
  refine lv_iconst (v := 1) hx hb dL_law_716 (by decide) ?_
  refine lv_iadd hx hb dL_law_717 ?_
  refine va_sld hx hb hX hbl hbA hW.2.2 hi1 dL_law_718 ?_
  refine pV2 (wc' := bMd G a2 0 y1) (rv := some (.int r)) (rest := [.int r]) (st1 := [.int r, .int r]) C0 hW hl.1 (c_X6_knock l G a2 0 y (xs (x3 + 1).toNatClampNeg) _ h6) cb_X6_knock mm_L_85 fst_Md 0 6 rfl rfl rfl (by decide) rfl rfl (Nat.le_of_ble_eq_true rfl) hcs dL_law_719 rfl (fun H locs hW => ?_)
  refine lv_icmp_eq (tgt := 1265) hx hb dL_law_722 (by decide) (fun _ => ?_) (fun c9 => absurd rfl c9)
  exact kk _ _ _ _ hR9 hW
def S_mend (Rel : Ww → Md → Prop) : Prop := ∀ (x : Ww) (y : Md), Rel x y → ∀ (v0 : Int32), ∃ (r : Int32) (x1 : Ww) (y1 : Md), f_X5_mend x v0 = some (r, x1) ∧ f_X6_mend y v0 = some (r, y1) ∧ Rel x1 y1
set_option maxRecDepth 100000 in
set_option maxHeartbeats 4000000 in
theorem lc_mend {p : Program} {l : Launch} {e : Env} {s : State} {m : MethodId} {below : List Frame} {meth : Method} {c : Code} {H : Heap} {locs : List Loc} {cells slots : Nat} {Q : State → Prop} {G : GG} {b L : Nat} {xs : Nat → Int32} {a1 a2 : Nat → Nat} {x : Ww} {y : Md} {ls : Array Slot} {x3 : Int32} {Rel : Ww → Md → Prop} (C0 : Cx p s m #[Value.ref b] meth c G (fun q => s.heap.size ≤ q) RL code 4 ret) (hX : va_X b L xs s s.heap) (hbl : b < s.heap.size) (hcs : cells ≤ room_1.cells ∧ slots ≤ room_1.slots) (hS9 : S_mend Rel) (hRel : Rel x y) (hl : lv_has ls 4 [(0, .ref b), (1, .ref (a1 0)), (2, .ref (a2 0)), (3, .int x3)]) (hi1 : vp_in (x3 + 1) L) (hW : Wd G (fun q => s.heap.size ≤ q) s.heap H (bWw G a1 0 x ++ bMd G a2 0 y) locs)
    (kk : ∀ (x1 : Ww) (y1 : Md) (H1 : Heap) (locs1 : List Loc), Rel x1 y1 → Wd G (fun q => s.heap.size ≤ q) s.heap H1 (bWw G a1 0 x1 ++ bMd G a2 0 y1) locs1 → W p l e room_1 s m #[Value.ref b] below meth c H1 locs1 cells slots Q (F0 m 1265 ls [])) : W p l e room_1 s m #[Value.ref b] below meth c H locs cells slots Q (F0 m 727 ls []) := by
  have hx := C0.1
  have hb := C0.2.1
  have hbA : ¬ (fun q : Nat => s.heap.size ≤ q) b := Nat.not_le.mpr hbl
  obtain ⟨r, x1, y1, h5, h6, hR9⟩ := hS9 x y hRel (xs (x3 + 1).toNatClampNeg)
  refine lv_aload_n hx hb dL_law_727 rfl (lv_at hl 1 rfl) ?_
  refine lv_aload_n hx hb dL_law_728 rfl (lv_at hl 0 rfl) ?_
  refine lv_iload_n hx hb dL_law_729 rfl (lv_at hl 3 rfl) ?_
  refine lv_iconst (v := 1) hx hb dL_law_730 (by decide) ?_
  refine lv_iadd hx hb dL_law_731 ?_
  refine va_sld hx hb hX hbl hbA hW.2.2 hi1 dL_law_732 ?_
  refine pV1 (wc' := bWw G a1 0 x1) (rv := some (.int r)) (rest := []) (st1 := [.int r]) C0 hW hl.1 (c_X5_mend l G a1 0 x (xs (x3 + 1).toNatClampNeg) _ h5) cb_X5_mend mm_L_86 fst_Ww 0 5 rfl rfl rfl (by decide) rfl rfl (Nat.le_of_ble_eq_true rfl) hcs dL_law_733 rfl (fun H locs hW => ?_)
  refine lv_aload_n hx hb dL_law_736 rfl (lv_at hl 2 rfl) ?_
  refine lv_aload_n hx hb dL_law_737 rfl (lv_at hl 0 rfl) ?_
  refine lv_iload_n hx hb dL_law_738 rfl (lv_at hl 3 rfl) ?_
  refine lv_iconst (v := 1) hx hb dL_law_739 (by decide) ?_
  refine lv_iadd hx hb dL_law_740 ?_
  refine va_sld hx hb hX hbl hbA hW.2.2 hi1 dL_law_741 ?_
  refine pV2 (wc' := bMd G a2 0 y1) (rv := some (.int r)) (rest := [.int r]) (st1 := [.int r, .int r]) C0 hW hl.1 (c_X6_mend l G a2 0 y (xs (x3 + 1).toNatClampNeg) _ h6) cb_X6_mend mm_L_89 fst_Md 0 6 rfl rfl rfl (by decide) rfl rfl (Nat.le_of_ble_eq_true rfl) hcs dL_law_742 rfl (fun H locs hW => ?_)
  refine lv_icmp_eq (tgt := 1265) hx hb dL_law_745 (by decide) (fun _ => ?_) (fun c9 => absurd rfl c9)
  exact kk _ _ _ _ hR9 hW
def S_undo (Rel : Ww → Md → Prop) : Prop := ∀ (x : Ww) (y : Md), Rel x y → ∀ (v0 : Int32), ∃ (r : Int32) (x1 : Ww) (y1 : Md), f_X5_undo x v0 = some (r, x1) ∧ f_X6_undo y v0 = some (r, y1) ∧ Rel x1 y1
set_option maxRecDepth 100000 in
set_option maxHeartbeats 4000000 in
theorem lc_undo {p : Program} {l : Launch} {e : Env} {s : State} {m : MethodId} {below : List Frame} {meth : Method} {c : Code} {H : Heap} {locs : List Loc} {cells slots : Nat} {Q : State → Prop} {G : GG} {b L : Nat} {xs : Nat → Int32} {a1 a2 : Nat → Nat} {x : Ww} {y : Md} {ls : Array Slot} {x3 : Int32} {Rel : Ww → Md → Prop} (C0 : Cx p s m #[Value.ref b] meth c G (fun q => s.heap.size ≤ q) RL code 4 ret) (hX : va_X b L xs s s.heap) (hbl : b < s.heap.size) (hcs : cells ≤ room_1.cells ∧ slots ≤ room_1.slots) (hS9 : S_undo Rel) (hRel : Rel x y) (hl : lv_has ls 4 [(0, .ref b), (1, .ref (a1 0)), (2, .ref (a2 0)), (3, .int x3)]) (hi1 : vp_in (x3 + 1) L) (hW : Wd G (fun q => s.heap.size ≤ q) s.heap H (bWw G a1 0 x ++ bMd G a2 0 y) locs)
    (kk : ∀ (x1 : Ww) (y1 : Md) (H1 : Heap) (locs1 : List Loc), Rel x1 y1 → Wd G (fun q => s.heap.size ≤ q) s.heap H1 (bWw G a1 0 x1 ++ bMd G a2 0 y1) locs1 → W p l e room_1 s m #[Value.ref b] below meth c H1 locs1 cells slots Q (F0 m 1265 ls [])) : W p l e room_1 s m #[Value.ref b] below meth c H locs cells slots Q (F0 m 750 ls []) := by
  have hx := C0.1
  have hb := C0.2.1
  have hbA : ¬ (fun q : Nat => s.heap.size ≤ q) b := Nat.not_le.mpr hbl
  obtain ⟨r, x1, y1, h5, h6, hR9⟩ := hS9 x y hRel (xs (x3 + 1).toNatClampNeg)
  refine lv_aload_n hx hb dL_law_750 rfl (lv_at hl 1 rfl) ?_
  refine lv_aload_n hx hb dL_law_751 rfl (lv_at hl 0 rfl) ?_
  refine lv_iload_n hx hb dL_law_752 rfl (lv_at hl 3 rfl) ?_
  refine lv_iconst (v := 1) hx hb dL_law_753 (by decide) ?_
  refine lv_iadd hx hb dL_law_754 ?_
  refine va_sld hx hb hX hbl hbA hW.2.2 hi1 dL_law_755 ?_
  refine pV1 (wc' := bWw G a1 0 x1) (rv := some (.int r)) (rest := []) (st1 := [.int r]) C0 hW hl.1 (c_X5_undo l G a1 0 x (xs (x3 + 1).toNatClampNeg) _ h5) cb_X5_undo mm_L_90 fst_Ww 0 5 rfl rfl rfl (by decide) rfl rfl (Nat.le_of_ble_eq_true rfl) hcs dL_law_756 rfl (fun H locs hW => ?_)
  refine lv_aload_n hx hb dL_law_759 rfl (lv_at hl 2 rfl) ?_
  refine lv_aload_n hx hb dL_law_760 rfl (lv_at hl 0 rfl) ?_
  refine lv_iload_n hx hb dL_law_761 rfl (lv_at hl 3 rfl) ?_
  refine lv_iconst (v := 1) hx hb dL_law_762 (by decide) ?_
  refine lv_iadd hx hb dL_law_763 ?_
  refine va_sld hx hb hX hbl hbA hW.2.2 hi1 dL_law_764 ?_
  refine pV2 (wc' := bMd G a2 0 y1) (rv := some (.int r)) (rest := [.int r]) (st1 := [.int r, .int r]) C0 hW hl.1 (c_X6_undo l G a2 0 y (xs (x3 + 1).toNatClampNeg) _ h6) cb_X6_undo mm_L_93 fst_Md 0 6 rfl rfl rfl (by decide) rfl rfl (Nat.le_of_ble_eq_true rfl) hcs dL_law_765 rfl (fun H locs hW => ?_)
  refine lv_icmp_eq (tgt := 1265) hx hb dL_law_768 (by decide) (fun _ => ?_) (fun c9 => absurd rfl c9)
  exact kk _ _ _ _ hR9 hW
def S_keep (Rel : Ww → Md → Prop) : Prop := ∀ (x : Ww) (y : Md), Rel x y → ∀ (v0 : Int32), ∃ (r : Int32) (x1 : Ww) (y1 : Md), f_X5_keep x v0 = some (r, x1) ∧ f_X6_keep y v0 = some (r, y1) ∧ Rel x1 y1
set_option maxRecDepth 100000 in
set_option maxHeartbeats 4000000 in
theorem lc_keep {p : Program} {l : Launch} {e : Env} {s : State} {m : MethodId} {below : List Frame} {meth : Method} {c : Code} {H : Heap} {locs : List Loc} {cells slots : Nat} {Q : State → Prop} {G : GG} {b L : Nat} {xs : Nat → Int32} {a1 a2 : Nat → Nat} {x : Ww} {y : Md} {ls : Array Slot} {x3 : Int32} {Rel : Ww → Md → Prop} (C0 : Cx p s m #[Value.ref b] meth c G (fun q => s.heap.size ≤ q) RL code 4 ret) (hX : va_X b L xs s s.heap) (hbl : b < s.heap.size) (hcs : cells ≤ room_1.cells ∧ slots ≤ room_1.slots) (hS9 : S_keep Rel) (hRel : Rel x y) (hl : lv_has ls 4 [(0, .ref b), (1, .ref (a1 0)), (2, .ref (a2 0)), (3, .int x3)]) (hi1 : vp_in (x3 + 1) L) (hW : Wd G (fun q => s.heap.size ≤ q) s.heap H (bWw G a1 0 x ++ bMd G a2 0 y) locs)
    (kk : ∀ (x1 : Ww) (y1 : Md) (H1 : Heap) (locs1 : List Loc), Rel x1 y1 → Wd G (fun q => s.heap.size ≤ q) s.heap H1 (bWw G a1 0 x1 ++ bMd G a2 0 y1) locs1 → W p l e room_1 s m #[Value.ref b] below meth c H1 locs1 cells slots Q (F0 m 1265 ls [])) : W p l e room_1 s m #[Value.ref b] below meth c H locs cells slots Q (F0 m 773 ls []) := by
  have hx := C0.1
  have hb := C0.2.1
  have hbA : ¬ (fun q : Nat => s.heap.size ≤ q) b := Nat.not_le.mpr hbl
  obtain ⟨r, x1, y1, h5, h6, hR9⟩ := hS9 x y hRel (xs (x3 + 1).toNatClampNeg)
  refine lv_aload_n hx hb dL_law_773 rfl (lv_at hl 1 rfl) ?_
  refine lv_aload_n hx hb dL_law_774 rfl (lv_at hl 0 rfl) ?_
  refine lv_iload_n hx hb dL_law_775 rfl (lv_at hl 3 rfl) ?_
  refine lv_iconst (v := 1) hx hb dL_law_776 (by decide) ?_
  refine lv_iadd hx hb dL_law_777 ?_
  refine va_sld hx hb hX hbl hbA hW.2.2 hi1 dL_law_778 ?_
  refine pV1 (wc' := bWw G a1 0 x1) (rv := some (.int r)) (rest := []) (st1 := [.int r]) C0 hW hl.1 (c_X5_keep l G a1 0 x (xs (x3 + 1).toNatClampNeg) _ h5) cb_X5_keep mm_L_94 fst_Ww 0 5 rfl rfl rfl (by decide) rfl rfl (Nat.le_of_ble_eq_true rfl) hcs dL_law_779 rfl (fun H locs hW => ?_)
  refine lv_aload_n hx hb dL_law_782 rfl (lv_at hl 2 rfl) ?_
  refine lv_aload_n hx hb dL_law_783 rfl (lv_at hl 0 rfl) ?_
  refine lv_iload_n hx hb dL_law_784 rfl (lv_at hl 3 rfl) ?_
  refine lv_iconst (v := 1) hx hb dL_law_785 (by decide) ?_
  refine lv_iadd hx hb dL_law_786 ?_
  refine va_sld hx hb hX hbl hbA hW.2.2 hi1 dL_law_787 ?_
  refine pV2 (wc' := bMd G a2 0 y1) (rv := some (.int r)) (rest := [.int r]) (st1 := [.int r, .int r]) C0 hW hl.1 (c_X6_keep l G a2 0 y (xs (x3 + 1).toNatClampNeg) _ h6) cb_X6_keep mm_L_97 fst_Md 0 6 rfl rfl rfl (by decide) rfl rfl (Nat.le_of_ble_eq_true rfl) hcs dL_law_788 rfl (fun H locs hW => ?_)
  refine lv_icmp_eq (tgt := 1265) hx hb dL_law_791 (by decide) (fun _ => ?_) (fun c9 => absurd rfl c9)
  exact kk _ _ _ _ hR9 hW
def S_on (Rel : Ww → Md → Prop) : Prop := ∀ (x : Ww) (y : Md), Rel x y → ∀ (v0 : Int32), ∃ (r : Int32) (x1 : Ww) (y1 : Md), f_X5_on x v0 = some (r, x1) ∧ f_X6_on y v0 = some (r, y1) ∧ Rel x1 y1
set_option maxRecDepth 100000 in
set_option maxHeartbeats 4000000 in
theorem lc_on {p : Program} {l : Launch} {e : Env} {s : State} {m : MethodId} {below : List Frame} {meth : Method} {c : Code} {H : Heap} {locs : List Loc} {cells slots : Nat} {Q : State → Prop} {G : GG} {b L : Nat} {xs : Nat → Int32} {a1 a2 : Nat → Nat} {x : Ww} {y : Md} {ls : Array Slot} {x3 : Int32} {Rel : Ww → Md → Prop} (C0 : Cx p s m #[Value.ref b] meth c G (fun q => s.heap.size ≤ q) RL code 4 ret) (hX : va_X b L xs s s.heap) (hbl : b < s.heap.size) (hcs : cells ≤ room_1.cells ∧ slots ≤ room_1.slots) (hS9 : S_on Rel) (hRel : Rel x y) (hl : lv_has ls 4 [(0, .ref b), (1, .ref (a1 0)), (2, .ref (a2 0)), (3, .int x3)]) (hi1 : vp_in (x3 + 1) L) (hW : Wd G (fun q => s.heap.size ≤ q) s.heap H (bWw G a1 0 x ++ bMd G a2 0 y) locs)
    (kk : ∀ (x1 : Ww) (y1 : Md) (H1 : Heap) (locs1 : List Loc), Rel x1 y1 → Wd G (fun q => s.heap.size ≤ q) s.heap H1 (bWw G a1 0 x1 ++ bMd G a2 0 y1) locs1 → W p l e room_1 s m #[Value.ref b] below meth c H1 locs1 cells slots Q (F0 m 1265 ls [])) : W p l e room_1 s m #[Value.ref b] below meth c H locs cells slots Q (F0 m 796 ls []) := by
  have hx := C0.1
  have hb := C0.2.1
  have hbA : ¬ (fun q : Nat => s.heap.size ≤ q) b := Nat.not_le.mpr hbl
  obtain ⟨r, x1, y1, h5, h6, hR9⟩ := hS9 x y hRel (xs (x3 + 1).toNatClampNeg)
  refine lv_aload_n hx hb dL_law_796 rfl (lv_at hl 1 rfl) ?_
  refine lv_aload_n hx hb dL_law_797 rfl (lv_at hl 0 rfl) ?_
  refine lv_iload_n hx hb dL_law_798 rfl (lv_at hl 3 rfl) ?_
  refine lv_iconst (v := 1) hx hb dL_law_799 (by decide) ?_
  refine lv_iadd hx hb dL_law_800 ?_
  refine va_sld hx hb hX hbl hbA hW.2.2 hi1 dL_law_801 ?_
  refine pV1 (wc' := bWw G a1 0 x1) (rv := some (.int r)) (rest := []) (st1 := [.int r]) C0 hW hl.1 (c_X5_on l G a1 0 x (xs (x3 + 1).toNatClampNeg) _ h5) cb_X5_on mm_L_98 fst_Ww 0 5 rfl rfl rfl (by decide) rfl rfl (Nat.le_of_ble_eq_true rfl) hcs dL_law_802 rfl (fun H locs hW => ?_)
  refine lv_aload_n hx hb dL_law_805 rfl (lv_at hl 2 rfl) ?_
  refine lv_aload_n hx hb dL_law_806 rfl (lv_at hl 0 rfl) ?_
  refine lv_iload_n hx hb dL_law_807 rfl (lv_at hl 3 rfl) ?_
  refine lv_iconst (v := 1) hx hb dL_law_808 (by decide) ?_
  refine lv_iadd hx hb dL_law_809 ?_
  refine va_sld hx hb hX hbl hbA hW.2.2 hi1 dL_law_810 ?_
  refine pV2 (wc' := bMd G a2 0 y1) (rv := some (.int r)) (rest := [.int r]) (st1 := [.int r, .int r]) C0 hW hl.1 (c_X6_on l G a2 0 y (xs (x3 + 1).toNatClampNeg) _ h6) cb_X6_on mm_L_101 fst_Md 0 6 rfl rfl rfl (by decide) rfl rfl (Nat.le_of_ble_eq_true rfl) hcs dL_law_811 rfl (fun H locs hW => ?_)
  refine lv_icmp_eq (tgt := 1265) hx hb dL_law_814 (by decide) (fun _ => ?_) (fun c9 => absurd rfl c9)
  exact kk _ _ _ _ hR9 hW
def S_goes (Rel : Ww → Md → Prop) : Prop := ∀ (x : Ww) (y : Md), Rel x y → ∀ (v0 : Int32), ∃ (r : Int32) (x1 : Ww) (y1 : Md), f_X5_goes x v0 = some (r, x1) ∧ f_X6_goes y v0 = some (r, y1) ∧ Rel x1 y1
set_option maxRecDepth 100000 in
set_option maxHeartbeats 4000000 in
theorem lc_goes {p : Program} {l : Launch} {e : Env} {s : State} {m : MethodId} {below : List Frame} {meth : Method} {c : Code} {H : Heap} {locs : List Loc} {cells slots : Nat} {Q : State → Prop} {G : GG} {b L : Nat} {xs : Nat → Int32} {a1 a2 : Nat → Nat} {x : Ww} {y : Md} {ls : Array Slot} {x3 : Int32} {Rel : Ww → Md → Prop} (C0 : Cx p s m #[Value.ref b] meth c G (fun q => s.heap.size ≤ q) RL code 4 ret) (hX : va_X b L xs s s.heap) (hbl : b < s.heap.size) (hcs : cells ≤ room_1.cells ∧ slots ≤ room_1.slots) (hS9 : S_goes Rel) (hRel : Rel x y) (hl : lv_has ls 4 [(0, .ref b), (1, .ref (a1 0)), (2, .ref (a2 0)), (3, .int x3)]) (hi1 : vp_in (x3 + 1) L) (hW : Wd G (fun q => s.heap.size ≤ q) s.heap H (bWw G a1 0 x ++ bMd G a2 0 y) locs)
    (kk : ∀ (x1 : Ww) (y1 : Md) (H1 : Heap) (locs1 : List Loc), Rel x1 y1 → Wd G (fun q => s.heap.size ≤ q) s.heap H1 (bWw G a1 0 x1 ++ bMd G a2 0 y1) locs1 → W p l e room_1 s m #[Value.ref b] below meth c H1 locs1 cells slots Q (F0 m 1265 ls [])) : W p l e room_1 s m #[Value.ref b] below meth c H locs cells slots Q (F0 m 819 ls []) := by
  have hx := C0.1
  have hb := C0.2.1
  have hbA : ¬ (fun q : Nat => s.heap.size ≤ q) b := Nat.not_le.mpr hbl
  obtain ⟨r, x1, y1, h5, h6, hR9⟩ := hS9 x y hRel (xs (x3 + 1).toNatClampNeg)
  refine lv_aload_n hx hb dL_law_819 rfl (lv_at hl 1 rfl) ?_
  refine lv_aload_n hx hb dL_law_820 rfl (lv_at hl 0 rfl) ?_
  refine lv_iload_n hx hb dL_law_821 rfl (lv_at hl 3 rfl) ?_
  refine lv_iconst (v := 1) hx hb dL_law_822 (by decide) ?_
  refine lv_iadd hx hb dL_law_823 ?_
  refine va_sld hx hb hX hbl hbA hW.2.2 hi1 dL_law_824 ?_
  refine pV1 (wc' := bWw G a1 0 x1) (rv := some (.int r)) (rest := []) (st1 := [.int r]) C0 hW hl.1 (c_X5_goes l G a1 0 x (xs (x3 + 1).toNatClampNeg) _ h5) cb_X5_goes mm_L_102 fst_Ww 0 5 rfl rfl rfl (by decide) rfl rfl (Nat.le_of_ble_eq_true rfl) hcs dL_law_825 rfl (fun H locs hW => ?_)
  refine lv_aload_n hx hb dL_law_828 rfl (lv_at hl 2 rfl) ?_
  refine lv_aload_n hx hb dL_law_829 rfl (lv_at hl 0 rfl) ?_
  refine lv_iload_n hx hb dL_law_830 rfl (lv_at hl 3 rfl) ?_
  refine lv_iconst (v := 1) hx hb dL_law_831 (by decide) ?_
  refine lv_iadd hx hb dL_law_832 ?_
  refine va_sld hx hb hX hbl hbA hW.2.2 hi1 dL_law_833 ?_
  refine pV2 (wc' := bMd G a2 0 y1) (rv := some (.int r)) (rest := [.int r]) (st1 := [.int r, .int r]) C0 hW hl.1 (c_X6_goes l G a2 0 y (xs (x3 + 1).toNatClampNeg) _ h6) cb_X6_goes mm_L_105 fst_Md 0 6 rfl rfl rfl (by decide) rfl rfl (Nat.le_of_ble_eq_true rfl) hcs dL_law_834 rfl (fun H locs hW => ?_)
  refine lv_icmp_eq (tgt := 1265) hx hb dL_law_837 (by decide) (fun _ => ?_) (fun c9 => absurd rfl c9)
  exact kk _ _ _ _ hR9 hW
def S_over (Rel : Ww → Md → Prop) : Prop := ∀ (x : Ww) (y : Md), Rel x y → ∃ (r : Int32) (x1 : Ww) (y1 : Md), f_X5_over x  = some (r, x1) ∧ f_X6_over y  = some (r, y1) ∧ Rel x1 y1
set_option maxRecDepth 100000 in
set_option maxHeartbeats 4000000 in
theorem lc_over {p : Program} {l : Launch} {e : Env} {s : State} {m : MethodId} {below : List Frame} {meth : Method} {c : Code} {H : Heap} {locs : List Loc} {cells slots : Nat} {Q : State → Prop} {G : GG} {b L : Nat} {xs : Nat → Int32} {a1 a2 : Nat → Nat} {x : Ww} {y : Md} {ls : Array Slot} {x3 : Int32} {Rel : Ww → Md → Prop} (C0 : Cx p s m #[Value.ref b] meth c G (fun q => s.heap.size ≤ q) RL code 4 ret) (hX : va_X b L xs s s.heap) (hbl : b < s.heap.size) (hcs : cells ≤ room_1.cells ∧ slots ≤ room_1.slots) (hS9 : S_over Rel) (hRel : Rel x y) (hl : lv_has ls 4 [(0, .ref b), (1, .ref (a1 0)), (2, .ref (a2 0)), (3, .int x3)]) (hW : Wd G (fun q => s.heap.size ≤ q) s.heap H (bWw G a1 0 x ++ bMd G a2 0 y) locs)
    (kk : ∀ (x1 : Ww) (y1 : Md) (H1 : Heap) (locs1 : List Loc), Rel x1 y1 → Wd G (fun q => s.heap.size ≤ q) s.heap H1 (bWw G a1 0 x1 ++ bMd G a2 0 y1) locs1 → W p l e room_1 s m #[Value.ref b] below meth c H1 locs1 cells slots Q (F0 m 1265 ls [])) : W p l e room_1 s m #[Value.ref b] below meth c H locs cells slots Q (F0 m 842 ls []) := by
  have hx := C0.1
  have hb := C0.2.1
  have hbA : ¬ (fun q : Nat => s.heap.size ≤ q) b := Nat.not_le.mpr hbl
  obtain ⟨r, x1, y1, h5, h6, hR9⟩ := hS9 x y hRel 
  refine lv_aload_n hx hb dL_law_842 rfl (lv_at hl 1 rfl) ?_
  refine pV1 (wc' := bWw G a1 0 x1) (rv := some (.int r)) (rest := []) (st1 := [.int r]) C0 hW hl.1 (c_X5_over l G a1 0 x  _ h5) cb_X5_over mm_L_106 fst_Ww 0 5 rfl rfl rfl (by decide) rfl rfl (Nat.le_of_ble_eq_true rfl) hcs dL_law_843 rfl (fun H locs hW => ?_)
  refine lv_aload_n hx hb dL_law_846 rfl (lv_at hl 2 rfl) ?_
  refine pV2 (wc' := bMd G a2 0 y1) (rv := some (.int r)) (rest := [.int r]) (st1 := [.int r, .int r]) C0 hW hl.1 (c_X6_over l G a2 0 y  _ h6) cb_X6_over mm_L_109 fst_Md 0 6 rfl rfl rfl (by decide) rfl rfl (Nat.le_of_ble_eq_true rfl) hcs dL_law_847 rfl (fun H locs hW => ?_)
  refine lv_icmp_eq (tgt := 1265) hx hb dL_law_850 (by decide) (fun _ => ?_) (fun c9 => absurd rfl c9)
  exact kk _ _ _ _ hR9 hW
def S_limps (Rel : Ww → Md → Prop) : Prop := ∀ (x : Ww) (y : Md), Rel x y → ∀ (v0 v1 : Int32), ∃ (r : Int32) (x1 : Ww) (y1 : Md), f_X5_limps x v0 v1 = some (r, x1) ∧ f_X6_limps y v0 v1 = some (r, y1) ∧ Rel x1 y1
set_option maxRecDepth 100000 in
set_option maxHeartbeats 4000000 in
theorem lc_limps {p : Program} {l : Launch} {e : Env} {s : State} {m : MethodId} {below : List Frame} {meth : Method} {c : Code} {H : Heap} {locs : List Loc} {cells slots : Nat} {Q : State → Prop} {G : GG} {b L : Nat} {xs : Nat → Int32} {a1 a2 : Nat → Nat} {x : Ww} {y : Md} {ls : Array Slot} {x3 : Int32} {Rel : Ww → Md → Prop} (C0 : Cx p s m #[Value.ref b] meth c G (fun q => s.heap.size ≤ q) RL code 4 ret) (hX : va_X b L xs s s.heap) (hbl : b < s.heap.size) (hcs : cells ≤ room_1.cells ∧ slots ≤ room_1.slots) (hS9 : S_limps Rel) (hRel : Rel x y) (hl : lv_has ls 4 [(0, .ref b), (1, .ref (a1 0)), (2, .ref (a2 0)), (3, .int x3)]) (hi1 : vp_in (x3 + 1) L) (hi2 : vp_in (x3 + 2) L) (hW : Wd G (fun q => s.heap.size ≤ q) s.heap H (bWw G a1 0 x ++ bMd G a2 0 y) locs)
    (kk : ∀ (x1 : Ww) (y1 : Md) (H1 : Heap) (locs1 : List Loc), Rel x1 y1 → Wd G (fun q => s.heap.size ≤ q) s.heap H1 (bWw G a1 0 x1 ++ bMd G a2 0 y1) locs1 → W p l e room_1 s m #[Value.ref b] below meth c H1 locs1 cells slots Q (F0 m 1265 ls [])) : W p l e room_1 s m #[Value.ref b] below meth c H locs cells slots Q (F0 m 855 ls []) := by
  have hx := C0.1
  have hb := C0.2.1
  have hbA : ¬ (fun q : Nat => s.heap.size ≤ q) b := Nat.not_le.mpr hbl
  obtain ⟨r, x1, y1, h5, h6, hR9⟩ := hS9 x y hRel (xs (x3 + 1).toNatClampNeg) (xs (x3 + 2).toNatClampNeg)
  refine lv_aload_n hx hb dL_law_855 rfl (lv_at hl 1 rfl) ?_
  refine lv_aload_n hx hb dL_law_856 rfl (lv_at hl 0 rfl) ?_
  refine lv_iload_n hx hb dL_law_857 rfl (lv_at hl 3 rfl) ?_
  refine lv_iconst (v := 1) hx hb dL_law_858 (by decide) ?_
  refine lv_iadd hx hb dL_law_859 ?_
  refine va_sld hx hb hX hbl hbA hW.2.2 hi1 dL_law_860 ?_
  refine lv_aload_n hx hb dL_law_861 rfl (lv_at hl 0 rfl) ?_
  refine lv_iload_n hx hb dL_law_862 rfl (lv_at hl 3 rfl) ?_
  refine lv_iconst (v := 2) hx hb dL_law_863 (by decide) ?_
  refine lv_iadd hx hb dL_law_864 ?_
  refine va_sld hx hb hX hbl hbA hW.2.2 hi2 dL_law_865 ?_
  refine pV1 (wc' := bWw G a1 0 x1) (rv := some (.int r)) (rest := []) (st1 := [.int r]) C0 hW hl.1 (c_X5_limps l G a1 0 x (xs (x3 + 1).toNatClampNeg) (xs (x3 + 2).toNatClampNeg) _ h5) cb_X5_limps mm_L_110 fst_Ww 0 5 rfl rfl rfl (by decide) rfl rfl (Nat.le_of_ble_eq_true rfl) hcs dL_law_866 rfl (fun H locs hW => ?_)
  refine lv_aload_n hx hb dL_law_869 rfl (lv_at hl 2 rfl) ?_
  refine lv_aload_n hx hb dL_law_870 rfl (lv_at hl 0 rfl) ?_
  refine lv_iload_n hx hb dL_law_871 rfl (lv_at hl 3 rfl) ?_
  refine lv_iconst (v := 1) hx hb dL_law_872 (by decide) ?_
  refine lv_iadd hx hb dL_law_873 ?_
  refine va_sld hx hb hX hbl hbA hW.2.2 hi1 dL_law_874 ?_
  refine lv_aload_n hx hb dL_law_875 rfl (lv_at hl 0 rfl) ?_
  refine lv_iload_n hx hb dL_law_876 rfl (lv_at hl 3 rfl) ?_
  refine lv_iconst (v := 2) hx hb dL_law_877 (by decide) ?_
  refine lv_iadd hx hb dL_law_878 ?_
  refine va_sld hx hb hX hbl hbA hW.2.2 hi2 dL_law_879 ?_
  refine pV2 (wc' := bMd G a2 0 y1) (rv := some (.int r)) (rest := [.int r]) (st1 := [.int r, .int r]) C0 hW hl.1 (c_X6_limps l G a2 0 y (xs (x3 + 1).toNatClampNeg) (xs (x3 + 2).toNatClampNeg) _ h6) cb_X6_limps mm_L_113 fst_Md 0 6 rfl rfl rfl (by decide) rfl rfl (Nat.le_of_ble_eq_true rfl) hcs dL_law_880 rfl (fun H locs hW => ?_)
  refine lv_icmp_eq (tgt := 1265) hx hb dL_law_883 (by decide) (fun _ => ?_) (fun c9 => absurd rfl c9)
  exact kk _ _ _ _ hR9 hW
def S_gate (Rel : Ww → Md → Prop) : Prop := ∀ (x : Ww) (y : Md), Rel x y → ∃ (r : Int32) (x1 : Ww) (y1 : Md), f_X5_gate x  = some (r, x1) ∧ f_X6_gate y  = some (r, y1) ∧ Rel x1 y1
set_option maxRecDepth 100000 in
set_option maxHeartbeats 4000000 in
theorem lc_gate {p : Program} {l : Launch} {e : Env} {s : State} {m : MethodId} {below : List Frame} {meth : Method} {c : Code} {H : Heap} {locs : List Loc} {cells slots : Nat} {Q : State → Prop} {G : GG} {b L : Nat} {xs : Nat → Int32} {a1 a2 : Nat → Nat} {x : Ww} {y : Md} {ls : Array Slot} {x3 : Int32} {Rel : Ww → Md → Prop} (C0 : Cx p s m #[Value.ref b] meth c G (fun q => s.heap.size ≤ q) RL code 4 ret) (hX : va_X b L xs s s.heap) (hbl : b < s.heap.size) (hcs : cells ≤ room_1.cells ∧ slots ≤ room_1.slots) (hS9 : S_gate Rel) (hRel : Rel x y) (hl : lv_has ls 4 [(0, .ref b), (1, .ref (a1 0)), (2, .ref (a2 0)), (3, .int x3)]) (hW : Wd G (fun q => s.heap.size ≤ q) s.heap H (bWw G a1 0 x ++ bMd G a2 0 y) locs)
    (kk : ∀ (x1 : Ww) (y1 : Md) (H1 : Heap) (locs1 : List Loc), Rel x1 y1 → Wd G (fun q => s.heap.size ≤ q) s.heap H1 (bWw G a1 0 x1 ++ bMd G a2 0 y1) locs1 → W p l e room_1 s m #[Value.ref b] below meth c H1 locs1 cells slots Q (F0 m 1265 ls [])) : W p l e room_1 s m #[Value.ref b] below meth c H locs cells slots Q (F0 m 888 ls []) := by
  have hx := C0.1
  have hb := C0.2.1
  have hbA : ¬ (fun q : Nat => s.heap.size ≤ q) b := Nat.not_le.mpr hbl
  obtain ⟨r, x1, y1, h5, h6, hR9⟩ := hS9 x y hRel 
  refine lv_aload_n hx hb dL_law_888 rfl (lv_at hl 1 rfl) ?_
  refine pV1 (wc' := bWw G a1 0 x1) (rv := some (.int r)) (rest := []) (st1 := [.int r]) C0 hW hl.1 (c_X5_gate l G a1 0 x  _ h5) cb_X5_gate mm_L_114 fst_Ww 0 5 rfl rfl rfl (by decide) rfl rfl (Nat.le_of_ble_eq_true rfl) hcs dL_law_889 rfl (fun H locs hW => ?_)
  refine lv_aload_n hx hb dL_law_892 rfl (lv_at hl 2 rfl) ?_
  refine pV2 (wc' := bMd G a2 0 y1) (rv := some (.int r)) (rest := [.int r]) (st1 := [.int r, .int r]) C0 hW hl.1 (c_X6_gate l G a2 0 y  _ h6) cb_X6_gate mm_L_117 fst_Md 0 6 rfl rfl rfl (by decide) rfl rfl (Nat.le_of_ble_eq_true rfl) hcs dL_law_893 rfl (fun H locs hW => ?_)
  refine lv_icmp_eq (tgt := 1265) hx hb dL_law_896 (by decide) (fun _ => ?_) (fun c9 => absurd rfl c9)
  exact kk _ _ _ _ hR9 hW
def S_turned (Rel : Ww → Md → Prop) : Prop := ∀ (x : Ww) (y : Md), Rel x y → ∃ (r : Int32) (x1 : Ww) (y1 : Md), f_X5_turned x  = some (r, x1) ∧ f_X6_turned y  = some (r, y1) ∧ Rel x1 y1
set_option maxRecDepth 100000 in
set_option maxHeartbeats 4000000 in
theorem lc_turned {p : Program} {l : Launch} {e : Env} {s : State} {m : MethodId} {below : List Frame} {meth : Method} {c : Code} {H : Heap} {locs : List Loc} {cells slots : Nat} {Q : State → Prop} {G : GG} {b L : Nat} {xs : Nat → Int32} {a1 a2 : Nat → Nat} {x : Ww} {y : Md} {ls : Array Slot} {x3 : Int32} {Rel : Ww → Md → Prop} (C0 : Cx p s m #[Value.ref b] meth c G (fun q => s.heap.size ≤ q) RL code 4 ret) (hX : va_X b L xs s s.heap) (hbl : b < s.heap.size) (hcs : cells ≤ room_1.cells ∧ slots ≤ room_1.slots) (hS9 : S_turned Rel) (hRel : Rel x y) (hl : lv_has ls 4 [(0, .ref b), (1, .ref (a1 0)), (2, .ref (a2 0)), (3, .int x3)]) (hW : Wd G (fun q => s.heap.size ≤ q) s.heap H (bWw G a1 0 x ++ bMd G a2 0 y) locs)
    (kk : ∀ (x1 : Ww) (y1 : Md) (H1 : Heap) (locs1 : List Loc), Rel x1 y1 → Wd G (fun q => s.heap.size ≤ q) s.heap H1 (bWw G a1 0 x1 ++ bMd G a2 0 y1) locs1 → W p l e room_1 s m #[Value.ref b] below meth c H1 locs1 cells slots Q (F0 m 1265 ls [])) : W p l e room_1 s m #[Value.ref b] below meth c H locs cells slots Q (F0 m 901 ls []) := by
  have hx := C0.1
  have hb := C0.2.1
  have hbA : ¬ (fun q : Nat => s.heap.size ≤ q) b := Nat.not_le.mpr hbl
  obtain ⟨r, x1, y1, h5, h6, hR9⟩ := hS9 x y hRel 
  refine lv_aload_n hx hb dL_law_901 rfl (lv_at hl 1 rfl) ?_
  refine pV1 (wc' := bWw G a1 0 x1) (rv := some (.int r)) (rest := []) (st1 := [.int r]) C0 hW hl.1 (c_X5_turned l G a1 0 x  _ h5) cb_X5_turned mm_L_118 fst_Ww 0 5 rfl rfl rfl (by decide) rfl rfl (Nat.le_of_ble_eq_true rfl) hcs dL_law_902 rfl (fun H locs hW => ?_)
  refine lv_aload_n hx hb dL_law_905 rfl (lv_at hl 2 rfl) ?_
  refine pV2 (wc' := bMd G a2 0 y1) (rv := some (.int r)) (rest := [.int r]) (st1 := [.int r, .int r]) C0 hW hl.1 (c_X6_turned l G a2 0 y  _ h6) cb_X6_turned mm_L_121 fst_Md 0 6 rfl rfl rfl (by decide) rfl rfl (Nat.le_of_ble_eq_true rfl) hcs dL_law_906 rfl (fun H locs hW => ?_)
  refine lv_icmp_eq (tgt := 1265) hx hb dL_law_909 (by decide) (fun _ => ?_) (fun c9 => absurd rfl c9)
  exact kk _ _ _ _ hR9 hW
def S_change (Rel : Ww → Md → Prop) : Prop := ∀ (x : Ww) (y : Md), Rel x y → ∃ (r : Int32) (x1 : Ww) (y1 : Md), f_X5_change x  = some (r, x1) ∧ f_X6_change y  = some (r, y1) ∧ Rel x1 y1
set_option maxRecDepth 100000 in
set_option maxHeartbeats 4000000 in
theorem lc_change {p : Program} {l : Launch} {e : Env} {s : State} {m : MethodId} {below : List Frame} {meth : Method} {c : Code} {H : Heap} {locs : List Loc} {cells slots : Nat} {Q : State → Prop} {G : GG} {b L : Nat} {xs : Nat → Int32} {a1 a2 : Nat → Nat} {x : Ww} {y : Md} {ls : Array Slot} {x3 : Int32} {Rel : Ww → Md → Prop} (C0 : Cx p s m #[Value.ref b] meth c G (fun q => s.heap.size ≤ q) RL code 4 ret) (hX : va_X b L xs s s.heap) (hbl : b < s.heap.size) (hcs : cells ≤ room_1.cells ∧ slots ≤ room_1.slots) (hS9 : S_change Rel) (hRel : Rel x y) (hl : lv_has ls 4 [(0, .ref b), (1, .ref (a1 0)), (2, .ref (a2 0)), (3, .int x3)]) (hW : Wd G (fun q => s.heap.size ≤ q) s.heap H (bWw G a1 0 x ++ bMd G a2 0 y) locs)
    (kk : ∀ (x1 : Ww) (y1 : Md) (H1 : Heap) (locs1 : List Loc), Rel x1 y1 → Wd G (fun q => s.heap.size ≤ q) s.heap H1 (bWw G a1 0 x1 ++ bMd G a2 0 y1) locs1 → W p l e room_1 s m #[Value.ref b] below meth c H1 locs1 cells slots Q (F0 m 1265 ls [])) : W p l e room_1 s m #[Value.ref b] below meth c H locs cells slots Q (F0 m 914 ls []) := by
  have hx := C0.1
  have hb := C0.2.1
  have hbA : ¬ (fun q : Nat => s.heap.size ≤ q) b := Nat.not_le.mpr hbl
  obtain ⟨r, x1, y1, h5, h6, hR9⟩ := hS9 x y hRel 
  refine lv_aload_n hx hb dL_law_914 rfl (lv_at hl 1 rfl) ?_
  refine pV1 (wc' := bWw G a1 0 x1) (rv := some (.int r)) (rest := []) (st1 := [.int r]) C0 hW hl.1 (c_X5_change l G a1 0 x  _ h5) cb_X5_change mm_L_122 fst_Ww 0 5 rfl rfl rfl (by decide) rfl rfl (Nat.le_of_ble_eq_true rfl) hcs dL_law_915 rfl (fun H locs hW => ?_)
  refine lv_aload_n hx hb dL_law_918 rfl (lv_at hl 2 rfl) ?_
  refine pV2 (wc' := bMd G a2 0 y1) (rv := some (.int r)) (rest := [.int r]) (st1 := [.int r, .int r]) C0 hW hl.1 (c_X6_change l G a2 0 y  _ h6) cb_X6_change mm_L_125 fst_Md 0 6 rfl rfl rfl (by decide) rfl rfl (Nat.le_of_ble_eq_true rfl) hcs dL_law_919 rfl (fun H locs hW => ?_)
  refine lv_icmp_eq (tgt := 1265) hx hb dL_law_922 (by decide) (fun _ => ?_) (fun c9 => absurd rfl c9)
  exact kk _ _ _ _ hR9 hW
def S_gone (Rel : Ww → Md → Prop) : Prop := ∀ (x : Ww) (y : Md), Rel x y → ∀ (v0 : Int32), ∃ (r : Int32) (x1 : Ww) (y1 : Md), f_X5_gone x v0 = some (r, x1) ∧ f_X6_gone y v0 = some (r, y1) ∧ Rel x1 y1
set_option maxRecDepth 100000 in
set_option maxHeartbeats 4000000 in
theorem lc_gone {p : Program} {l : Launch} {e : Env} {s : State} {m : MethodId} {below : List Frame} {meth : Method} {c : Code} {H : Heap} {locs : List Loc} {cells slots : Nat} {Q : State → Prop} {G : GG} {b L : Nat} {xs : Nat → Int32} {a1 a2 : Nat → Nat} {x : Ww} {y : Md} {ls : Array Slot} {x3 : Int32} {Rel : Ww → Md → Prop} (C0 : Cx p s m #[Value.ref b] meth c G (fun q => s.heap.size ≤ q) RL code 4 ret) (hX : va_X b L xs s s.heap) (hbl : b < s.heap.size) (hcs : cells ≤ room_1.cells ∧ slots ≤ room_1.slots) (hS9 : S_gone Rel) (hRel : Rel x y) (hl : lv_has ls 4 [(0, .ref b), (1, .ref (a1 0)), (2, .ref (a2 0)), (3, .int x3)]) (hi1 : vp_in (x3 + 1) L) (hW : Wd G (fun q => s.heap.size ≤ q) s.heap H (bWw G a1 0 x ++ bMd G a2 0 y) locs)
    (kk : ∀ (x1 : Ww) (y1 : Md) (H1 : Heap) (locs1 : List Loc), Rel x1 y1 → Wd G (fun q => s.heap.size ≤ q) s.heap H1 (bWw G a1 0 x1 ++ bMd G a2 0 y1) locs1 → W p l e room_1 s m #[Value.ref b] below meth c H1 locs1 cells slots Q (F0 m 1265 ls [])) : W p l e room_1 s m #[Value.ref b] below meth c H locs cells slots Q (F0 m 927 ls []) := by
  have hx := C0.1
  have hb := C0.2.1
  have hbA : ¬ (fun q : Nat => s.heap.size ≤ q) b := Nat.not_le.mpr hbl
  obtain ⟨r, x1, y1, h5, h6, hR9⟩ := hS9 x y hRel (xs (x3 + 1).toNatClampNeg)
  refine lv_aload_n hx hb dL_law_927 rfl (lv_at hl 1 rfl) ?_
  refine lv_aload_n hx hb dL_law_928 rfl (lv_at hl 0 rfl) ?_
  refine lv_iload_n hx hb dL_law_929 rfl (lv_at hl 3 rfl) ?_
  refine lv_iconst (v := 1) hx hb dL_law_930 (by decide) ?_
  refine lv_iadd hx hb dL_law_931 ?_
  refine va_sld hx hb hX hbl hbA hW.2.2 hi1 dL_law_932 ?_
  refine pV1 (wc' := bWw G a1 0 x1) (rv := some (.int r)) (rest := []) (st1 := [.int r]) C0 hW hl.1 (c_X5_gone l G a1 0 x (xs (x3 + 1).toNatClampNeg) _ h5) cb_X5_gone mm_L_126 fst_Ww 0 5 rfl rfl rfl (by decide) rfl rfl (Nat.le_of_ble_eq_true rfl) hcs dL_law_933 rfl (fun H locs hW => ?_)
  refine lv_aload_n hx hb dL_law_936 rfl (lv_at hl 2 rfl) ?_
  refine lv_aload_n hx hb dL_law_937 rfl (lv_at hl 0 rfl) ?_
  refine lv_iload_n hx hb dL_law_938 rfl (lv_at hl 3 rfl) ?_
  refine lv_iconst (v := 1) hx hb dL_law_939 (by decide) ?_
  refine lv_iadd hx hb dL_law_940 ?_
  refine va_sld hx hb hX hbl hbA hW.2.2 hi1 dL_law_941 ?_
  refine pV2 (wc' := bMd G a2 0 y1) (rv := some (.int r)) (rest := [.int r]) (st1 := [.int r, .int r]) C0 hW hl.1 (c_X6_gone l G a2 0 y (xs (x3 + 1).toNatClampNeg) _ h6) cb_X6_gone mm_L_129 fst_Md 0 6 rfl rfl rfl (by decide) rfl rfl (Nat.le_of_ble_eq_true rfl) hcs dL_law_942 rfl (fun H locs hW => ?_)
  refine lv_icmp_eq (tgt := 1265) hx hb dL_law_945 (by decide) (fun _ => ?_) (fun c9 => absurd rfl c9)
  exact kk _ _ _ _ hR9 hW
def S_strengths (Rel : Ww → Md → Prop) : Prop := ∀ (x : Ww) (y : Md), Rel x y → ∀ (v0 v1 : Int32), ∃ (r : Int32) (x1 : Ww) (y1 : Md), f_X5_strengths x v0 v1 = some (r, x1) ∧ f_X6_strengths y v0 v1 = some (r, y1) ∧ Rel x1 y1
set_option maxRecDepth 100000 in
set_option maxHeartbeats 4000000 in
theorem lc_strengths {p : Program} {l : Launch} {e : Env} {s : State} {m : MethodId} {below : List Frame} {meth : Method} {c : Code} {H : Heap} {locs : List Loc} {cells slots : Nat} {Q : State → Prop} {G : GG} {b L : Nat} {xs : Nat → Int32} {a1 a2 : Nat → Nat} {x : Ww} {y : Md} {ls : Array Slot} {x3 : Int32} {Rel : Ww → Md → Prop} (C0 : Cx p s m #[Value.ref b] meth c G (fun q => s.heap.size ≤ q) RL code 4 ret) (hX : va_X b L xs s s.heap) (hbl : b < s.heap.size) (hcs : cells ≤ room_1.cells ∧ slots ≤ room_1.slots) (hS9 : S_strengths Rel) (hRel : Rel x y) (hl : lv_has ls 4 [(0, .ref b), (1, .ref (a1 0)), (2, .ref (a2 0)), (3, .int x3)]) (hi1 : vp_in (x3 + 1) L) (hi2 : vp_in (x3 + 2) L) (hW : Wd G (fun q => s.heap.size ≤ q) s.heap H (bWw G a1 0 x ++ bMd G a2 0 y) locs)
    (kk : ∀ (x1 : Ww) (y1 : Md) (H1 : Heap) (locs1 : List Loc), Rel x1 y1 → Wd G (fun q => s.heap.size ≤ q) s.heap H1 (bWw G a1 0 x1 ++ bMd G a2 0 y1) locs1 → W p l e room_1 s m #[Value.ref b] below meth c H1 locs1 cells slots Q (F0 m 1265 ls [])) : W p l e room_1 s m #[Value.ref b] below meth c H locs cells slots Q (F0 m 950 ls []) := by
  have hx := C0.1
  have hb := C0.2.1
  have hbA : ¬ (fun q : Nat => s.heap.size ≤ q) b := Nat.not_le.mpr hbl
  obtain ⟨r, x1, y1, h5, h6, hR9⟩ := hS9 x y hRel (xs (x3 + 1).toNatClampNeg) (xs (x3 + 2).toNatClampNeg)
  refine lv_aload_n hx hb dL_law_950 rfl (lv_at hl 1 rfl) ?_
  refine lv_aload_n hx hb dL_law_951 rfl (lv_at hl 0 rfl) ?_
  refine lv_iload_n hx hb dL_law_952 rfl (lv_at hl 3 rfl) ?_
  refine lv_iconst (v := 1) hx hb dL_law_953 (by decide) ?_
  refine lv_iadd hx hb dL_law_954 ?_
  refine va_sld hx hb hX hbl hbA hW.2.2 hi1 dL_law_955 ?_
  refine lv_aload_n hx hb dL_law_956 rfl (lv_at hl 0 rfl) ?_
  refine lv_iload_n hx hb dL_law_957 rfl (lv_at hl 3 rfl) ?_
  refine lv_iconst (v := 2) hx hb dL_law_958 (by decide) ?_
  refine lv_iadd hx hb dL_law_959 ?_
  refine va_sld hx hb hX hbl hbA hW.2.2 hi2 dL_law_960 ?_
  refine pV1 (wc' := bWw G a1 0 x1) (rv := some (.int r)) (rest := []) (st1 := [.int r]) C0 hW hl.1 (c_X5_strengths l G a1 0 x (xs (x3 + 1).toNatClampNeg) (xs (x3 + 2).toNatClampNeg) _ h5) cb_X5_strengths mm_L_130 fst_Ww 0 5 rfl rfl rfl (by decide) rfl rfl (Nat.le_of_ble_eq_true rfl) hcs dL_law_961 rfl (fun H locs hW => ?_)
  refine lv_aload_n hx hb dL_law_964 rfl (lv_at hl 2 rfl) ?_
  refine lv_aload_n hx hb dL_law_965 rfl (lv_at hl 0 rfl) ?_
  refine lv_iload_n hx hb dL_law_966 rfl (lv_at hl 3 rfl) ?_
  refine lv_iconst (v := 1) hx hb dL_law_967 (by decide) ?_
  refine lv_iadd hx hb dL_law_968 ?_
  refine va_sld hx hb hX hbl hbA hW.2.2 hi1 dL_law_969 ?_
  refine lv_aload_n hx hb dL_law_970 rfl (lv_at hl 0 rfl) ?_
  refine lv_iload_n hx hb dL_law_971 rfl (lv_at hl 3 rfl) ?_
  refine lv_iconst (v := 2) hx hb dL_law_972 (by decide) ?_
  refine lv_iadd hx hb dL_law_973 ?_
  refine va_sld hx hb hX hbl hbA hW.2.2 hi2 dL_law_974 ?_
  refine pV2 (wc' := bMd G a2 0 y1) (rv := some (.int r)) (rest := [.int r]) (st1 := [.int r, .int r]) C0 hW hl.1 (c_X6_strengths l G a2 0 y (xs (x3 + 1).toNatClampNeg) (xs (x3 + 2).toNatClampNeg) _ h6) cb_X6_strengths mm_L_133 fst_Md 0 6 rfl rfl rfl (by decide) rfl rfl (Nat.le_of_ble_eq_true rfl) hcs dL_law_975 rfl (fun H locs hW => ?_)
  refine lv_icmp_eq (tgt := 1265) hx hb dL_law_978 (by decide) (fun _ => ?_) (fun c9 => absurd rfl c9)
  exact kk _ _ _ _ hR9 hW
def S_kinds (Rel : Ww → Md → Prop) : Prop := ∀ (x : Ww) (y : Md), Rel x y → ∀ (v0 v1 : Int32), ∃ (r : Int32) (x1 : Ww) (y1 : Md), f_X5_kinds x v0 v1 = some (r, x1) ∧ f_X6_kinds y v0 v1 = some (r, y1) ∧ Rel x1 y1
set_option maxRecDepth 100000 in
set_option maxHeartbeats 4000000 in
theorem lc_kinds {p : Program} {l : Launch} {e : Env} {s : State} {m : MethodId} {below : List Frame} {meth : Method} {c : Code} {H : Heap} {locs : List Loc} {cells slots : Nat} {Q : State → Prop} {G : GG} {b L : Nat} {xs : Nat → Int32} {a1 a2 : Nat → Nat} {x : Ww} {y : Md} {ls : Array Slot} {x3 : Int32} {Rel : Ww → Md → Prop} (C0 : Cx p s m #[Value.ref b] meth c G (fun q => s.heap.size ≤ q) RL code 4 ret) (hX : va_X b L xs s s.heap) (hbl : b < s.heap.size) (hcs : cells ≤ room_1.cells ∧ slots ≤ room_1.slots) (hS9 : S_kinds Rel) (hRel : Rel x y) (hl : lv_has ls 4 [(0, .ref b), (1, .ref (a1 0)), (2, .ref (a2 0)), (3, .int x3)]) (hi1 : vp_in (x3 + 1) L) (hi2 : vp_in (x3 + 2) L) (hW : Wd G (fun q => s.heap.size ≤ q) s.heap H (bWw G a1 0 x ++ bMd G a2 0 y) locs)
    (kk : ∀ (x1 : Ww) (y1 : Md) (H1 : Heap) (locs1 : List Loc), Rel x1 y1 → Wd G (fun q => s.heap.size ≤ q) s.heap H1 (bWw G a1 0 x1 ++ bMd G a2 0 y1) locs1 → W p l e room_1 s m #[Value.ref b] below meth c H1 locs1 cells slots Q (F0 m 1265 ls [])) : W p l e room_1 s m #[Value.ref b] below meth c H locs cells slots Q (F0 m 983 ls []) := by
  have hx := C0.1
  have hb := C0.2.1
  have hbA : ¬ (fun q : Nat => s.heap.size ≤ q) b := Nat.not_le.mpr hbl
  obtain ⟨r, x1, y1, h5, h6, hR9⟩ := hS9 x y hRel (xs (x3 + 1).toNatClampNeg) (xs (x3 + 2).toNatClampNeg)
  refine lv_aload_n hx hb dL_law_983 rfl (lv_at hl 1 rfl) ?_
  refine lv_aload_n hx hb dL_law_984 rfl (lv_at hl 0 rfl) ?_
  refine lv_iload_n hx hb dL_law_985 rfl (lv_at hl 3 rfl) ?_
  refine lv_iconst (v := 1) hx hb dL_law_986 (by decide) ?_
  refine lv_iadd hx hb dL_law_987 ?_
  refine va_sld hx hb hX hbl hbA hW.2.2 hi1 dL_law_988 ?_
  refine lv_aload_n hx hb dL_law_989 rfl (lv_at hl 0 rfl) ?_
  refine lv_iload_n hx hb dL_law_990 rfl (lv_at hl 3 rfl) ?_
  refine lv_iconst (v := 2) hx hb dL_law_991 (by decide) ?_
  refine lv_iadd hx hb dL_law_992 ?_
  refine va_sld hx hb hX hbl hbA hW.2.2 hi2 dL_law_993 ?_
  refine pV1 (wc' := bWw G a1 0 x1) (rv := some (.int r)) (rest := []) (st1 := [.int r]) C0 hW hl.1 (c_X5_kinds l G a1 0 x (xs (x3 + 1).toNatClampNeg) (xs (x3 + 2).toNatClampNeg) _ h5) cb_X5_kinds mm_L_134 fst_Ww 0 5 rfl rfl rfl (by decide) rfl rfl (Nat.le_of_ble_eq_true rfl) hcs dL_law_994 rfl (fun H locs hW => ?_)
  refine lv_aload_n hx hb dL_law_997 rfl (lv_at hl 2 rfl) ?_
  refine lv_aload_n hx hb dL_law_998 rfl (lv_at hl 0 rfl) ?_
  refine lv_iload_n hx hb dL_law_999 rfl (lv_at hl 3 rfl) ?_
  refine lv_iconst (v := 1) hx hb dL_law_1000 (by decide) ?_
  refine lv_iadd hx hb dL_law_1001 ?_
  refine va_sld hx hb hX hbl hbA hW.2.2 hi1 dL_law_1002 ?_
  refine lv_aload_n hx hb dL_law_1003 rfl (lv_at hl 0 rfl) ?_
  refine lv_iload_n hx hb dL_law_1004 rfl (lv_at hl 3 rfl) ?_
  refine lv_iconst (v := 2) hx hb dL_law_1005 (by decide) ?_
  refine lv_iadd hx hb dL_law_1006 ?_
  refine va_sld hx hb hX hbl hbA hW.2.2 hi2 dL_law_1007 ?_
  refine pV2 (wc' := bMd G a2 0 y1) (rv := some (.int r)) (rest := [.int r]) (st1 := [.int r, .int r]) C0 hW hl.1 (c_X6_kinds l G a2 0 y (xs (x3 + 1).toNatClampNeg) (xs (x3 + 2).toNatClampNeg) _ h6) cb_X6_kinds mm_L_137 fst_Md 0 6 rfl rfl rfl (by decide) rfl rfl (Nat.le_of_ble_eq_true rfl) hcs dL_law_1008 rfl (fun H locs hW => ?_)
  refine lv_icmp_eq (tgt := 1265) hx hb dL_law_1011 (by decide) (fun _ => ?_) (fun c9 => absurd rfl c9)
  exact kk _ _ _ _ hR9 hW
def S_look (Rel : Ww → Md → Prop) : Prop := ∀ (x : Ww) (y : Md), Rel x y → ∀ (v0 : Int32), ∃ (r : Int32) (x1 : Ww) (y1 : Md), f_X5_look x v0 = some (r, x1) ∧ f_X6_look y v0 = some (r, y1) ∧ Rel x1 y1
set_option maxRecDepth 100000 in
set_option maxHeartbeats 4000000 in
theorem lc_look {p : Program} {l : Launch} {e : Env} {s : State} {m : MethodId} {below : List Frame} {meth : Method} {c : Code} {H : Heap} {locs : List Loc} {cells slots : Nat} {Q : State → Prop} {G : GG} {b L : Nat} {xs : Nat → Int32} {a1 a2 : Nat → Nat} {x : Ww} {y : Md} {ls : Array Slot} {x3 : Int32} {Rel : Ww → Md → Prop} (C0 : Cx p s m #[Value.ref b] meth c G (fun q => s.heap.size ≤ q) RL code 4 ret) (hX : va_X b L xs s s.heap) (hbl : b < s.heap.size) (hcs : cells ≤ room_1.cells ∧ slots ≤ room_1.slots) (hS9 : S_look Rel) (hRel : Rel x y) (hl : lv_has ls 4 [(0, .ref b), (1, .ref (a1 0)), (2, .ref (a2 0)), (3, .int x3)]) (hi1 : vp_in (x3 + 1) L) (hW : Wd G (fun q => s.heap.size ≤ q) s.heap H (bWw G a1 0 x ++ bMd G a2 0 y) locs)
    (kk : ∀ (x1 : Ww) (y1 : Md) (H1 : Heap) (locs1 : List Loc), Rel x1 y1 → Wd G (fun q => s.heap.size ≤ q) s.heap H1 (bWw G a1 0 x1 ++ bMd G a2 0 y1) locs1 → W p l e room_1 s m #[Value.ref b] below meth c H1 locs1 cells slots Q (F0 m 1265 ls [])) : W p l e room_1 s m #[Value.ref b] below meth c H locs cells slots Q (F0 m 1016 ls []) := by
  have hx := C0.1
  have hb := C0.2.1
  have hbA : ¬ (fun q : Nat => s.heap.size ≤ q) b := Nat.not_le.mpr hbl
  obtain ⟨r, x1, y1, h5, h6, hR9⟩ := hS9 x y hRel (xs (x3 + 1).toNatClampNeg)
  refine lv_aload_n hx hb dL_law_1016 rfl (lv_at hl 1 rfl) ?_
  refine lv_aload_n hx hb dL_law_1017 rfl (lv_at hl 0 rfl) ?_
  refine lv_iload_n hx hb dL_law_1018 rfl (lv_at hl 3 rfl) ?_
  refine lv_iconst (v := 1) hx hb dL_law_1019 (by decide) ?_
  refine lv_iadd hx hb dL_law_1020 ?_
  refine va_sld hx hb hX hbl hbA hW.2.2 hi1 dL_law_1021 ?_
  refine pV1 (wc' := bWw G a1 0 x1) (rv := some (.int r)) (rest := []) (st1 := [.int r]) C0 hW hl.1 (c_X5_look l G a1 0 x (xs (x3 + 1).toNatClampNeg) _ h5) cb_X5_look mm_L_138 fst_Ww 0 5 rfl rfl rfl (by decide) rfl rfl (Nat.le_of_ble_eq_true rfl) hcs dL_law_1022 rfl (fun H locs hW => ?_)
  refine lv_aload_n hx hb dL_law_1025 rfl (lv_at hl 2 rfl) ?_
  refine lv_aload_n hx hb dL_law_1026 rfl (lv_at hl 0 rfl) ?_
  refine lv_iload_n hx hb dL_law_1027 rfl (lv_at hl 3 rfl) ?_
  refine lv_iconst (v := 1) hx hb dL_law_1028 (by decide) ?_
  refine lv_iadd hx hb dL_law_1029 ?_
  refine va_sld hx hb hX hbl hbA hW.2.2 hi1 dL_law_1030 ?_
  refine pV2 (wc' := bMd G a2 0 y1) (rv := some (.int r)) (rest := [.int r]) (st1 := [.int r, .int r]) C0 hW hl.1 (c_X6_look l G a2 0 y (xs (x3 + 1).toNatClampNeg) _ h6) cb_X6_look mm_L_141 fst_Md 0 6 rfl rfl rfl (by decide) rfl rfl (Nat.le_of_ble_eq_true rfl) hcs dL_law_1031 rfl (fun H locs hW => ?_)
  refine lv_icmp_eq (tgt := 1265) hx hb dL_law_1034 (by decide) (fun _ => ?_) (fun c9 => absurd rfl c9)
  exact kk _ _ _ _ hR9 hW
def S_duel (Rel : Ww → Md → Prop) : Prop := ∀ (x : Ww) (y : Md), Rel x y → ∀ (v0 : Int32), ∃ (r : Int32) (x1 : Ww) (y1 : Md), f_X5_duel x v0 = some (r, x1) ∧ f_X6_duel y v0 = some (r, y1) ∧ Rel x1 y1
set_option maxRecDepth 100000 in
set_option maxHeartbeats 4000000 in
theorem lc_duel {p : Program} {l : Launch} {e : Env} {s : State} {m : MethodId} {below : List Frame} {meth : Method} {c : Code} {H : Heap} {locs : List Loc} {cells slots : Nat} {Q : State → Prop} {G : GG} {b L : Nat} {xs : Nat → Int32} {a1 a2 : Nat → Nat} {x : Ww} {y : Md} {ls : Array Slot} {x3 : Int32} {Rel : Ww → Md → Prop} (C0 : Cx p s m #[Value.ref b] meth c G (fun q => s.heap.size ≤ q) RL code 4 ret) (hX : va_X b L xs s s.heap) (hbl : b < s.heap.size) (hcs : cells ≤ room_1.cells ∧ slots ≤ room_1.slots) (hS9 : S_duel Rel) (hRel : Rel x y) (hl : lv_has ls 4 [(0, .ref b), (1, .ref (a1 0)), (2, .ref (a2 0)), (3, .int x3)]) (hi1 : vp_in (x3 + 1) L) (hW : Wd G (fun q => s.heap.size ≤ q) s.heap H (bWw G a1 0 x ++ bMd G a2 0 y) locs)
    (kk : ∀ (x1 : Ww) (y1 : Md) (H1 : Heap) (locs1 : List Loc), Rel x1 y1 → Wd G (fun q => s.heap.size ≤ q) s.heap H1 (bWw G a1 0 x1 ++ bMd G a2 0 y1) locs1 → W p l e room_1 s m #[Value.ref b] below meth c H1 locs1 cells slots Q (F0 m 1265 ls [])) : W p l e room_1 s m #[Value.ref b] below meth c H locs cells slots Q (F0 m 1039 ls []) := by
  have hx := C0.1
  have hb := C0.2.1
  have hbA : ¬ (fun q : Nat => s.heap.size ≤ q) b := Nat.not_le.mpr hbl
  obtain ⟨r, x1, y1, h5, h6, hR9⟩ := hS9 x y hRel (xs (x3 + 1).toNatClampNeg)
  refine lv_aload_n hx hb dL_law_1039 rfl (lv_at hl 1 rfl) ?_
  refine lv_aload_n hx hb dL_law_1040 rfl (lv_at hl 0 rfl) ?_
  refine lv_iload_n hx hb dL_law_1041 rfl (lv_at hl 3 rfl) ?_
  refine lv_iconst (v := 1) hx hb dL_law_1042 (by decide) ?_
  refine lv_iadd hx hb dL_law_1043 ?_
  refine va_sld hx hb hX hbl hbA hW.2.2 hi1 dL_law_1044 ?_
  refine pV1 (wc' := bWw G a1 0 x1) (rv := some (.int r)) (rest := []) (st1 := [.int r]) C0 hW hl.1 (c_X5_duel l G a1 0 x (xs (x3 + 1).toNatClampNeg) _ h5) cb_X5_duel mm_L_142 fst_Ww 0 5 rfl rfl rfl (by decide) rfl rfl (Nat.le_of_ble_eq_true rfl) hcs dL_law_1045 rfl (fun H locs hW => ?_)
  refine lv_aload_n hx hb dL_law_1048 rfl (lv_at hl 2 rfl) ?_
  refine lv_aload_n hx hb dL_law_1049 rfl (lv_at hl 0 rfl) ?_
  refine lv_iload_n hx hb dL_law_1050 rfl (lv_at hl 3 rfl) ?_
  refine lv_iconst (v := 1) hx hb dL_law_1051 (by decide) ?_
  refine lv_iadd hx hb dL_law_1052 ?_
  refine va_sld hx hb hX hbl hbA hW.2.2 hi1 dL_law_1053 ?_
  refine pV2 (wc' := bMd G a2 0 y1) (rv := some (.int r)) (rest := [.int r]) (st1 := [.int r, .int r]) C0 hW hl.1 (c_X6_duel l G a2 0 y (xs (x3 + 1).toNatClampNeg) _ h6) cb_X6_duel mm_L_145 fst_Md 0 6 rfl rfl rfl (by decide) rfl rfl (Nat.le_of_ble_eq_true rfl) hcs dL_law_1054 rfl (fun H locs hW => ?_)
  refine lv_icmp_eq (tgt := 1265) hx hb dL_law_1057 (by decide) (fun _ => ?_) (fun c9 => absurd rfl c9)
  exact kk _ _ _ _ hR9 hW
def S_odds (Rel : Ww → Md → Prop) : Prop := ∀ (x : Ww) (y : Md), Rel x y → ∀ (v0 v1 : Int32), ∃ (r : Int32) (x1 : Ww) (y1 : Md), f_X5_odds x v0 v1 = some (r, x1) ∧ f_X6_odds y v0 v1 = some (r, y1) ∧ Rel x1 y1
set_option maxRecDepth 100000 in
set_option maxHeartbeats 4000000 in
theorem lc_odds {p : Program} {l : Launch} {e : Env} {s : State} {m : MethodId} {below : List Frame} {meth : Method} {c : Code} {H : Heap} {locs : List Loc} {cells slots : Nat} {Q : State → Prop} {G : GG} {b L : Nat} {xs : Nat → Int32} {a1 a2 : Nat → Nat} {x : Ww} {y : Md} {ls : Array Slot} {x3 : Int32} {Rel : Ww → Md → Prop} (C0 : Cx p s m #[Value.ref b] meth c G (fun q => s.heap.size ≤ q) RL code 4 ret) (hX : va_X b L xs s s.heap) (hbl : b < s.heap.size) (hcs : cells ≤ room_1.cells ∧ slots ≤ room_1.slots) (hS9 : S_odds Rel) (hRel : Rel x y) (hl : lv_has ls 4 [(0, .ref b), (1, .ref (a1 0)), (2, .ref (a2 0)), (3, .int x3)]) (hi1 : vp_in (x3 + 1) L) (hi2 : vp_in (x3 + 2) L) (hW : Wd G (fun q => s.heap.size ≤ q) s.heap H (bWw G a1 0 x ++ bMd G a2 0 y) locs)
    (kk : ∀ (x1 : Ww) (y1 : Md) (H1 : Heap) (locs1 : List Loc), Rel x1 y1 → Wd G (fun q => s.heap.size ≤ q) s.heap H1 (bWw G a1 0 x1 ++ bMd G a2 0 y1) locs1 → W p l e room_1 s m #[Value.ref b] below meth c H1 locs1 cells slots Q (F0 m 1265 ls [])) : W p l e room_1 s m #[Value.ref b] below meth c H locs cells slots Q (F0 m 1062 ls []) := by
  have hx := C0.1
  have hb := C0.2.1
  have hbA : ¬ (fun q : Nat => s.heap.size ≤ q) b := Nat.not_le.mpr hbl
  obtain ⟨r, x1, y1, h5, h6, hR9⟩ := hS9 x y hRel (xs (x3 + 1).toNatClampNeg) (xs (x3 + 2).toNatClampNeg)
  refine lv_aload_n hx hb dL_law_1062 rfl (lv_at hl 1 rfl) ?_
  refine lv_aload_n hx hb dL_law_1063 rfl (lv_at hl 0 rfl) ?_
  refine lv_iload_n hx hb dL_law_1064 rfl (lv_at hl 3 rfl) ?_
  refine lv_iconst (v := 1) hx hb dL_law_1065 (by decide) ?_
  refine lv_iadd hx hb dL_law_1066 ?_
  refine va_sld hx hb hX hbl hbA hW.2.2 hi1 dL_law_1067 ?_
  refine lv_aload_n hx hb dL_law_1068 rfl (lv_at hl 0 rfl) ?_
  refine lv_iload_n hx hb dL_law_1069 rfl (lv_at hl 3 rfl) ?_
  refine lv_iconst (v := 2) hx hb dL_law_1070 (by decide) ?_
  refine lv_iadd hx hb dL_law_1071 ?_
  refine va_sld hx hb hX hbl hbA hW.2.2 hi2 dL_law_1072 ?_
  refine pV1 (wc' := bWw G a1 0 x1) (rv := some (.int r)) (rest := []) (st1 := [.int r]) C0 hW hl.1 (c_X5_odds l G a1 0 x (xs (x3 + 1).toNatClampNeg) (xs (x3 + 2).toNatClampNeg) _ h5) cb_X5_odds mm_L_146 fst_Ww 0 5 rfl rfl rfl (by decide) rfl rfl (Nat.le_of_ble_eq_true rfl) hcs dL_law_1073 rfl (fun H locs hW => ?_)
  refine lv_aload_n hx hb dL_law_1076 rfl (lv_at hl 2 rfl) ?_
  refine lv_aload_n hx hb dL_law_1077 rfl (lv_at hl 0 rfl) ?_
  refine lv_iload_n hx hb dL_law_1078 rfl (lv_at hl 3 rfl) ?_
  refine lv_iconst (v := 1) hx hb dL_law_1079 (by decide) ?_
  refine lv_iadd hx hb dL_law_1080 ?_
  refine va_sld hx hb hX hbl hbA hW.2.2 hi1 dL_law_1081 ?_
  refine lv_aload_n hx hb dL_law_1082 rfl (lv_at hl 0 rfl) ?_
  refine lv_iload_n hx hb dL_law_1083 rfl (lv_at hl 3 rfl) ?_
  refine lv_iconst (v := 2) hx hb dL_law_1084 (by decide) ?_
  refine lv_iadd hx hb dL_law_1085 ?_
  refine va_sld hx hb hX hbl hbA hW.2.2 hi2 dL_law_1086 ?_
  refine pV2 (wc' := bMd G a2 0 y1) (rv := some (.int r)) (rest := [.int r]) (st1 := [.int r, .int r]) C0 hW hl.1 (c_X6_odds l G a2 0 y (xs (x3 + 1).toNatClampNeg) (xs (x3 + 2).toNatClampNeg) _ h6) cb_X6_odds mm_L_149 fst_Md 0 6 rfl rfl rfl (by decide) rfl rfl (Nat.le_of_ble_eq_true rfl) hcs dL_law_1087 rfl (fun H locs hW => ?_)
  refine lv_icmp_eq (tgt := 1265) hx hb dL_law_1090 (by decide) (fun _ => ?_) (fun c9 => absurd rfl c9)
  exact kk _ _ _ _ hR9 hW
def S_mid (Rel : Ww → Md → Prop) : Prop := ∀ (x : Ww) (y : Md), Rel x y → ∀ (v0 : Int32), ∃ (r : Int32) (x1 : Ww) (y1 : Md), f_X5_mid x v0 = some (r, x1) ∧ f_X6_mid y v0 = some (r, y1) ∧ Rel x1 y1
set_option maxRecDepth 100000 in
set_option maxHeartbeats 4000000 in
theorem lc_mid {p : Program} {l : Launch} {e : Env} {s : State} {m : MethodId} {below : List Frame} {meth : Method} {c : Code} {H : Heap} {locs : List Loc} {cells slots : Nat} {Q : State → Prop} {G : GG} {b L : Nat} {xs : Nat → Int32} {a1 a2 : Nat → Nat} {x : Ww} {y : Md} {ls : Array Slot} {x3 : Int32} {Rel : Ww → Md → Prop} (C0 : Cx p s m #[Value.ref b] meth c G (fun q => s.heap.size ≤ q) RL code 4 ret) (hX : va_X b L xs s s.heap) (hbl : b < s.heap.size) (hcs : cells ≤ room_1.cells ∧ slots ≤ room_1.slots) (hS9 : S_mid Rel) (hRel : Rel x y) (hl : lv_has ls 4 [(0, .ref b), (1, .ref (a1 0)), (2, .ref (a2 0)), (3, .int x3)]) (hi1 : vp_in (x3 + 1) L) (hW : Wd G (fun q => s.heap.size ≤ q) s.heap H (bWw G a1 0 x ++ bMd G a2 0 y) locs)
    (kk : ∀ (x1 : Ww) (y1 : Md) (H1 : Heap) (locs1 : List Loc), Rel x1 y1 → Wd G (fun q => s.heap.size ≤ q) s.heap H1 (bWw G a1 0 x1 ++ bMd G a2 0 y1) locs1 → W p l e room_1 s m #[Value.ref b] below meth c H1 locs1 cells slots Q (F0 m 1265 ls [])) : W p l e room_1 s m #[Value.ref b] below meth c H locs cells slots Q (F0 m 1095 ls []) := by
  have hx := C0.1
  have hb := C0.2.1
  have hbA : ¬ (fun q : Nat => s.heap.size ≤ q) b := Nat.not_le.mpr hbl
  obtain ⟨r, x1, y1, h5, h6, hR9⟩ := hS9 x y hRel (xs (x3 + 1).toNatClampNeg)
  refine lv_aload_n hx hb dL_law_1095 rfl (lv_at hl 1 rfl) ?_
  refine lv_aload_n hx hb dL_law_1096 rfl (lv_at hl 0 rfl) ?_
  refine lv_iload_n hx hb dL_law_1097 rfl (lv_at hl 3 rfl) ?_
  refine lv_iconst (v := 1) hx hb dL_law_1098 (by decide) ?_
  refine lv_iadd hx hb dL_law_1099 ?_
  refine va_sld hx hb hX hbl hbA hW.2.2 hi1 dL_law_1100 ?_
  refine pV1 (wc' := bWw G a1 0 x1) (rv := some (.int r)) (rest := []) (st1 := [.int r]) C0 hW hl.1 (c_X5_mid l G a1 0 x (xs (x3 + 1).toNatClampNeg) _ h5) cb_X5_mid mm_L_150 fst_Ww 0 5 rfl rfl rfl (by decide) rfl rfl (Nat.le_of_ble_eq_true rfl) hcs dL_law_1101 rfl (fun H locs hW => ?_)
  refine lv_aload_n hx hb dL_law_1104 rfl (lv_at hl 2 rfl) ?_
  refine lv_aload_n hx hb dL_law_1105 rfl (lv_at hl 0 rfl) ?_
  refine lv_iload_n hx hb dL_law_1106 rfl (lv_at hl 3 rfl) ?_
  refine lv_iconst (v := 1) hx hb dL_law_1107 (by decide) ?_
  refine lv_iadd hx hb dL_law_1108 ?_
  refine va_sld hx hb hX hbl hbA hW.2.2 hi1 dL_law_1109 ?_
  refine pV2 (wc' := bMd G a2 0 y1) (rv := some (.int r)) (rest := [.int r]) (st1 := [.int r, .int r]) C0 hW hl.1 (c_X6_mid l G a2 0 y (xs (x3 + 1).toNatClampNeg) _ h6) cb_X6_mid mm_L_153 fst_Md 0 6 rfl rfl rfl (by decide) rfl rfl (Nat.le_of_ble_eq_true rfl) hcs dL_law_1110 rfl (fun H locs hW => ?_)
  refine lv_icmp_eq (tgt := 1265) hx hb dL_law_1113 (by decide) (fun _ => ?_) (fun c9 => absurd rfl c9)
  exact kk _ _ _ _ hR9 hW
def S_lots (Rel : Ww → Md → Prop) : Prop := ∀ (x : Ww) (y : Md), Rel x y → ∀ (v0 v1 : Int32), ∃ (r : Int32) (x1 : Ww) (y1 : Md), f_X5_lots x v0 v1 = some (r, x1) ∧ f_X6_lots y v0 v1 = some (r, y1) ∧ Rel x1 y1
set_option maxRecDepth 100000 in
set_option maxHeartbeats 4000000 in
theorem lc_lots {p : Program} {l : Launch} {e : Env} {s : State} {m : MethodId} {below : List Frame} {meth : Method} {c : Code} {H : Heap} {locs : List Loc} {cells slots : Nat} {Q : State → Prop} {G : GG} {b L : Nat} {xs : Nat → Int32} {a1 a2 : Nat → Nat} {x : Ww} {y : Md} {ls : Array Slot} {x3 : Int32} {Rel : Ww → Md → Prop} (C0 : Cx p s m #[Value.ref b] meth c G (fun q => s.heap.size ≤ q) RL code 4 ret) (hX : va_X b L xs s s.heap) (hbl : b < s.heap.size) (hcs : cells ≤ room_1.cells ∧ slots ≤ room_1.slots) (hS9 : S_lots Rel) (hRel : Rel x y) (hl : lv_has ls 4 [(0, .ref b), (1, .ref (a1 0)), (2, .ref (a2 0)), (3, .int x3)]) (hi1 : vp_in (x3 + 1) L) (hi2 : vp_in (x3 + 2) L) (hW : Wd G (fun q => s.heap.size ≤ q) s.heap H (bWw G a1 0 x ++ bMd G a2 0 y) locs)
    (kk : ∀ (x1 : Ww) (y1 : Md) (H1 : Heap) (locs1 : List Loc), Rel x1 y1 → Wd G (fun q => s.heap.size ≤ q) s.heap H1 (bWw G a1 0 x1 ++ bMd G a2 0 y1) locs1 → W p l e room_1 s m #[Value.ref b] below meth c H1 locs1 cells slots Q (F0 m 1265 ls [])) : W p l e room_1 s m #[Value.ref b] below meth c H locs cells slots Q (F0 m 1118 ls []) := by
  have hx := C0.1
  have hb := C0.2.1
  have hbA : ¬ (fun q : Nat => s.heap.size ≤ q) b := Nat.not_le.mpr hbl
  obtain ⟨r, x1, y1, h5, h6, hR9⟩ := hS9 x y hRel (xs (x3 + 1).toNatClampNeg) (xs (x3 + 2).toNatClampNeg)
  refine lv_aload_n hx hb dL_law_1118 rfl (lv_at hl 1 rfl) ?_
  refine lv_aload_n hx hb dL_law_1119 rfl (lv_at hl 0 rfl) ?_
  refine lv_iload_n hx hb dL_law_1120 rfl (lv_at hl 3 rfl) ?_
  refine lv_iconst (v := 1) hx hb dL_law_1121 (by decide) ?_
  refine lv_iadd hx hb dL_law_1122 ?_
  refine va_sld hx hb hX hbl hbA hW.2.2 hi1 dL_law_1123 ?_
  refine lv_aload_n hx hb dL_law_1124 rfl (lv_at hl 0 rfl) ?_
  refine lv_iload_n hx hb dL_law_1125 rfl (lv_at hl 3 rfl) ?_
  refine lv_iconst (v := 2) hx hb dL_law_1126 (by decide) ?_
  refine lv_iadd hx hb dL_law_1127 ?_
  refine va_sld hx hb hX hbl hbA hW.2.2 hi2 dL_law_1128 ?_
  refine pV1 (wc' := bWw G a1 0 x1) (rv := some (.int r)) (rest := []) (st1 := [.int r]) C0 hW hl.1 (c_X5_lots l G a1 0 x (xs (x3 + 1).toNatClampNeg) (xs (x3 + 2).toNatClampNeg) _ h5) cb_X5_lots mm_L_154 fst_Ww 0 5 rfl rfl rfl (by decide) rfl rfl (Nat.le_of_ble_eq_true rfl) hcs dL_law_1129 rfl (fun H locs hW => ?_)
  refine lv_aload_n hx hb dL_law_1132 rfl (lv_at hl 2 rfl) ?_
  refine lv_aload_n hx hb dL_law_1133 rfl (lv_at hl 0 rfl) ?_
  refine lv_iload_n hx hb dL_law_1134 rfl (lv_at hl 3 rfl) ?_
  refine lv_iconst (v := 1) hx hb dL_law_1135 (by decide) ?_
  refine lv_iadd hx hb dL_law_1136 ?_
  refine va_sld hx hb hX hbl hbA hW.2.2 hi1 dL_law_1137 ?_
  refine lv_aload_n hx hb dL_law_1138 rfl (lv_at hl 0 rfl) ?_
  refine lv_iload_n hx hb dL_law_1139 rfl (lv_at hl 3 rfl) ?_
  refine lv_iconst (v := 2) hx hb dL_law_1140 (by decide) ?_
  refine lv_iadd hx hb dL_law_1141 ?_
  refine va_sld hx hb hX hbl hbA hW.2.2 hi2 dL_law_1142 ?_
  refine pV2 (wc' := bMd G a2 0 y1) (rv := some (.int r)) (rest := [.int r]) (st1 := [.int r, .int r]) C0 hW hl.1 (c_X6_lots l G a2 0 y (xs (x3 + 1).toNatClampNeg) (xs (x3 + 2).toNatClampNeg) _ h6) cb_X6_lots mm_L_157 fst_Md 0 6 rfl rfl rfl (by decide) rfl rfl (Nat.le_of_ble_eq_true rfl) hcs dL_law_1143 rfl (fun H locs hW => ?_)
  refine lv_icmp_eq (tgt := 1265) hx hb dL_law_1146 (by decide) (fun _ => ?_) (fun c9 => absurd rfl c9)
  exact kk _ _ _ _ hR9 hW
def S_asked (Rel : Ww → Md → Prop) : Prop := ∀ (x : Ww) (y : Md), Rel x y → ∃ (r : Int32), f_X5_asked x  = some r ∧ f_X6_asked y  = some r ∧ Rel x y
set_option maxRecDepth 100000 in
set_option maxHeartbeats 4000000 in
theorem lc_asked {p : Program} {l : Launch} {e : Env} {s : State} {m : MethodId} {below : List Frame} {meth : Method} {c : Code} {H : Heap} {locs : List Loc} {cells slots : Nat} {Q : State → Prop} {G : GG} {b L : Nat} {xs : Nat → Int32} {a1 a2 : Nat → Nat} {x : Ww} {y : Md} {ls : Array Slot} {x3 : Int32} {Rel : Ww → Md → Prop} (C0 : Cx p s m #[Value.ref b] meth c G (fun q => s.heap.size ≤ q) RL code 4 ret) (hX : va_X b L xs s s.heap) (hbl : b < s.heap.size) (hcs : cells ≤ room_1.cells ∧ slots ≤ room_1.slots) (hS9 : S_asked Rel) (hRel : Rel x y) (hl : lv_has ls 4 [(0, .ref b), (1, .ref (a1 0)), (2, .ref (a2 0)), (3, .int x3)]) (hW : Wd G (fun q => s.heap.size ≤ q) s.heap H (bWw G a1 0 x ++ bMd G a2 0 y) locs)
    (kk : ∀ (x1 : Ww) (y1 : Md) (H1 : Heap) (locs1 : List Loc), Rel x1 y1 → Wd G (fun q => s.heap.size ≤ q) s.heap H1 (bWw G a1 0 x1 ++ bMd G a2 0 y1) locs1 → W p l e room_1 s m #[Value.ref b] below meth c H1 locs1 cells slots Q (F0 m 1265 ls [])) : W p l e room_1 s m #[Value.ref b] below meth c H locs cells slots Q (F0 m 1151 ls []) := by
  have hx := C0.1
  have hb := C0.2.1
  have hbA : ¬ (fun q : Nat => s.heap.size ≤ q) b := Nat.not_le.mpr hbl
  obtain ⟨r, h5, h6, hR9⟩ := hS9 x y hRel 
  refine lv_aload_n hx hb dL_law_1151 rfl (lv_at hl 1 rfl) ?_
  refine pV1 (wc' := bWw G a1 0 x) (rv := some (.int r)) (rest := []) (st1 := [.int r]) C0 hW hl.1 (c_X5_asked l G a1 0 x  _ h5) cb_X5_asked mm_L_158 fst_Ww 0 5 rfl rfl rfl (by decide) rfl rfl (Nat.le_of_ble_eq_true rfl) hcs dL_law_1152 rfl (fun H locs hW => ?_)
  refine lv_aload_n hx hb dL_law_1155 rfl (lv_at hl 2 rfl) ?_
  refine pV2 (wc' := bMd G a2 0 y) (rv := some (.int r)) (rest := [.int r]) (st1 := [.int r, .int r]) C0 hW hl.1 (c_X6_asked l G a2 0 y  _ h6) cb_X6_asked mm_L_161 fst_Md 0 6 rfl rfl rfl (by decide) rfl rfl (Nat.le_of_ble_eq_true rfl) hcs dL_law_1156 rfl (fun H locs hW => ?_)
  refine lv_icmp_eq (tgt := 1265) hx hb dL_law_1159 (by decide) (fun _ => ?_) (fun c9 => absurd rfl c9)
  exact kk _ _ _ _ hR9 hW
def S_upper (Rel : Ww → Md → Prop) : Prop := ∀ (x : Ww) (y : Md), Rel x y → ∃ (r : Int64), f_X5_upper x  = some r ∧ f_X6_upper y  = some r ∧ Rel x y
set_option maxRecDepth 100000 in
set_option maxHeartbeats 4000000 in
theorem lc_upper {p : Program} {l : Launch} {e : Env} {s : State} {m : MethodId} {below : List Frame} {meth : Method} {c : Code} {H : Heap} {locs : List Loc} {cells slots : Nat} {Q : State → Prop} {G : GG} {b L : Nat} {xs : Nat → Int32} {a1 a2 : Nat → Nat} {x : Ww} {y : Md} {ls : Array Slot} {x3 : Int32} {Rel : Ww → Md → Prop} (C0 : Cx p s m #[Value.ref b] meth c G (fun q => s.heap.size ≤ q) RL code 4 ret) (hX : va_X b L xs s s.heap) (hbl : b < s.heap.size) (hcs : cells ≤ room_1.cells ∧ slots ≤ room_1.slots) (hS9 : S_upper Rel) (hRel : Rel x y) (hl : lv_has ls 4 [(0, .ref b), (1, .ref (a1 0)), (2, .ref (a2 0)), (3, .int x3)]) (hW : Wd G (fun q => s.heap.size ≤ q) s.heap H (bWw G a1 0 x ++ bMd G a2 0 y) locs)
    (kk : ∀ (x1 : Ww) (y1 : Md) (H1 : Heap) (locs1 : List Loc), Rel x1 y1 → Wd G (fun q => s.heap.size ≤ q) s.heap H1 (bWw G a1 0 x1 ++ bMd G a2 0 y1) locs1 → W p l e room_1 s m #[Value.ref b] below meth c H1 locs1 cells slots Q (F0 m 1265 ls [])) : W p l e room_1 s m #[Value.ref b] below meth c H locs cells slots Q (F0 m 1164 ls []) := by
  have hx := C0.1
  have hb := C0.2.1
  have hbA : ¬ (fun q : Nat => s.heap.size ≤ q) b := Nat.not_le.mpr hbl
  obtain ⟨r, h5, h6, hR9⟩ := hS9 x y hRel 
  refine lv_aload_n hx hb dL_law_1164 rfl (lv_at hl 1 rfl) ?_
  refine pV1 (wc' := bWw G a1 0 x) (rv := some (.long r)) (rest := []) (st1 := [.long r]) C0 hW hl.1 (c_X5_upper l G a1 0 x  _ h5) cb_X5_upper mm_L_162 fst_Ww 0 5 rfl rfl rfl (by decide) rfl rfl (Nat.le_of_ble_eq_true rfl) hcs dL_law_1165 rfl (fun H locs hW => ?_)
  refine lv_aload_n hx hb dL_law_1168 rfl (lv_at hl 2 rfl) ?_
  refine pV2 (wc' := bMd G a2 0 y) (rv := some (.long r)) (rest := [.long r]) (st1 := [.long r, .long r]) C0 hW hl.1 (c_X6_upper l G a2 0 y  _ h6) cb_X6_upper mm_L_166 fst_Md 0 6 rfl rfl rfl (by decide) rfl rfl (Nat.le_of_ble_eq_true rfl) hcs dL_law_1169 rfl (fun H locs hW => ?_)
  refine W.lcmp hx hb dL_law_1172 ?_
  refine lv_if_eq (tgt := 1265) hx hb dL_law_1173 (by decide) (fun _ => ?_) (fun c9 => absurd (lg_self r) c9)
  exact kk _ _ _ _ hR9 hW
def S_lower (Rel : Ww → Md → Prop) : Prop := ∀ (x : Ww) (y : Md), Rel x y → ∃ (r : Int64), f_X5_lower x  = some r ∧ f_X6_lower y  = some r ∧ Rel x y
set_option maxRecDepth 100000 in
set_option maxHeartbeats 4000000 in
theorem lc_lower {p : Program} {l : Launch} {e : Env} {s : State} {m : MethodId} {below : List Frame} {meth : Method} {c : Code} {H : Heap} {locs : List Loc} {cells slots : Nat} {Q : State → Prop} {G : GG} {b L : Nat} {xs : Nat → Int32} {a1 a2 : Nat → Nat} {x : Ww} {y : Md} {ls : Array Slot} {x3 : Int32} {Rel : Ww → Md → Prop} (C0 : Cx p s m #[Value.ref b] meth c G (fun q => s.heap.size ≤ q) RL code 4 ret) (hX : va_X b L xs s s.heap) (hbl : b < s.heap.size) (hcs : cells ≤ room_1.cells ∧ slots ≤ room_1.slots) (hS9 : S_lower Rel) (hRel : Rel x y) (hl : lv_has ls 4 [(0, .ref b), (1, .ref (a1 0)), (2, .ref (a2 0)), (3, .int x3)]) (hW : Wd G (fun q => s.heap.size ≤ q) s.heap H (bWw G a1 0 x ++ bMd G a2 0 y) locs)
    (kk : ∀ (x1 : Ww) (y1 : Md) (H1 : Heap) (locs1 : List Loc), Rel x1 y1 → Wd G (fun q => s.heap.size ≤ q) s.heap H1 (bWw G a1 0 x1 ++ bMd G a2 0 y1) locs1 → W p l e room_1 s m #[Value.ref b] below meth c H1 locs1 cells slots Q (F0 m 1265 ls [])) : W p l e room_1 s m #[Value.ref b] below meth c H locs cells slots Q (F0 m 1178 ls []) := by
  have hx := C0.1
  have hb := C0.2.1
  have hbA : ¬ (fun q : Nat => s.heap.size ≤ q) b := Nat.not_le.mpr hbl
  obtain ⟨r, h5, h6, hR9⟩ := hS9 x y hRel 
  refine lv_aload_n hx hb dL_law_1178 rfl (lv_at hl 1 rfl) ?_
  refine pV1 (wc' := bWw G a1 0 x) (rv := some (.long r)) (rest := []) (st1 := [.long r]) C0 hW hl.1 (c_X5_lower l G a1 0 x  _ h5) cb_X5_lower mm_L_167 fst_Ww 0 5 rfl rfl rfl (by decide) rfl rfl (Nat.le_of_ble_eq_true rfl) hcs dL_law_1179 rfl (fun H locs hW => ?_)
  refine lv_aload_n hx hb dL_law_1182 rfl (lv_at hl 2 rfl) ?_
  refine pV2 (wc' := bMd G a2 0 y) (rv := some (.long r)) (rest := [.long r]) (st1 := [.long r, .long r]) C0 hW hl.1 (c_X6_lower l G a2 0 y  _ h6) cb_X6_lower mm_L_170 fst_Md 0 6 rfl rfl rfl (by decide) rfl rfl (Nat.le_of_ble_eq_true rfl) hcs dL_law_1183 rfl (fun H locs hW => ?_)
  refine W.lcmp hx hb dL_law_1186 ?_
  refine lv_if_eq (tgt := 1265) hx hb dL_law_1187 (by decide) (fun _ => ?_) (fun c9 => absurd (lg_self r) c9)
  exact kk _ _ _ _ hR9 hW
def S_count (Rel : Ww → Md → Prop) : Prop := ∀ (x : Ww) (y : Md), Rel x y → ∀ (v0 : Int32), ∃ (r : Int32), f_X5_count x v0 = some r ∧ f_X6_count y v0 = some r ∧ Rel x y
set_option maxRecDepth 100000 in
set_option maxHeartbeats 4000000 in
theorem lc_count {p : Program} {l : Launch} {e : Env} {s : State} {m : MethodId} {below : List Frame} {meth : Method} {c : Code} {H : Heap} {locs : List Loc} {cells slots : Nat} {Q : State → Prop} {G : GG} {b L : Nat} {xs : Nat → Int32} {a1 a2 : Nat → Nat} {x : Ww} {y : Md} {ls : Array Slot} {x3 : Int32} {Rel : Ww → Md → Prop} (C0 : Cx p s m #[Value.ref b] meth c G (fun q => s.heap.size ≤ q) RL code 4 ret) (hX : va_X b L xs s s.heap) (hbl : b < s.heap.size) (hcs : cells ≤ room_1.cells ∧ slots ≤ room_1.slots) (hS9 : S_count Rel) (hRel : Rel x y) (hl : lv_has ls 4 [(0, .ref b), (1, .ref (a1 0)), (2, .ref (a2 0)), (3, .int x3)]) (hi1 : vp_in (x3 + 1) L) (hW : Wd G (fun q => s.heap.size ≤ q) s.heap H (bWw G a1 0 x ++ bMd G a2 0 y) locs)
    (kk : ∀ (x1 : Ww) (y1 : Md) (H1 : Heap) (locs1 : List Loc), Rel x1 y1 → Wd G (fun q => s.heap.size ≤ q) s.heap H1 (bWw G a1 0 x1 ++ bMd G a2 0 y1) locs1 → W p l e room_1 s m #[Value.ref b] below meth c H1 locs1 cells slots Q (F0 m 1265 ls [])) : W p l e room_1 s m #[Value.ref b] below meth c H locs cells slots Q (F0 m 1192 ls []) := by
  have hx := C0.1
  have hb := C0.2.1
  have hbA : ¬ (fun q : Nat => s.heap.size ≤ q) b := Nat.not_le.mpr hbl
  obtain ⟨r, h5, h6, hR9⟩ := hS9 x y hRel (xs (x3 + 1).toNatClampNeg)
  refine lv_aload_n hx hb dL_law_1192 rfl (lv_at hl 1 rfl) ?_
  refine lv_aload_n hx hb dL_law_1193 rfl (lv_at hl 0 rfl) ?_
  refine lv_iload_n hx hb dL_law_1194 rfl (lv_at hl 3 rfl) ?_
  refine lv_iconst (v := 1) hx hb dL_law_1195 (by decide) ?_
  refine lv_iadd hx hb dL_law_1196 ?_
  refine va_sld hx hb hX hbl hbA hW.2.2 hi1 dL_law_1197 ?_
  refine pV1 (wc' := bWw G a1 0 x) (rv := some (.int r)) (rest := []) (st1 := [.int r]) C0 hW hl.1 (c_X5_count l G a1 0 x (xs (x3 + 1).toNatClampNeg) _ h5) cb_X5_count mm_L_171 fst_Ww 0 5 rfl rfl rfl (by decide) rfl rfl (Nat.le_of_ble_eq_true rfl) hcs dL_law_1198 rfl (fun H locs hW => ?_)
  refine lv_aload_n hx hb dL_law_1201 rfl (lv_at hl 2 rfl) ?_
  refine lv_aload_n hx hb dL_law_1202 rfl (lv_at hl 0 rfl) ?_
  refine lv_iload_n hx hb dL_law_1203 rfl (lv_at hl 3 rfl) ?_
  refine lv_iconst (v := 1) hx hb dL_law_1204 (by decide) ?_
  refine lv_iadd hx hb dL_law_1205 ?_
  refine va_sld hx hb hX hbl hbA hW.2.2 hi1 dL_law_1206 ?_
  refine pV2 (wc' := bMd G a2 0 y) (rv := some (.int r)) (rest := [.int r]) (st1 := [.int r, .int r]) C0 hW hl.1 (c_X6_count l G a2 0 y (xs (x3 + 1).toNatClampNeg) _ h6) cb_X6_count mm_L_174 fst_Md 0 6 rfl rfl rfl (by decide) rfl rfl (Nat.le_of_ble_eq_true rfl) hcs dL_law_1207 rfl (fun H locs hW => ?_)
  refine lv_icmp_eq (tgt := 1265) hx hb dL_law_1210 (by decide) (fun _ => ?_) (fun c9 => absurd rfl c9)
  exact kk _ _ _ _ hR9 hW
def S_finding (Rel : Ww → Md → Prop) : Prop := ∀ (x : Ww) (y : Md), Rel x y → ∃ (r : Int32), f_X5_finding x  = some r ∧ f_X6_finding y  = some r ∧ Rel x y
set_option maxRecDepth 100000 in
set_option maxHeartbeats 4000000 in
theorem lc_finding {p : Program} {l : Launch} {e : Env} {s : State} {m : MethodId} {below : List Frame} {meth : Method} {c : Code} {H : Heap} {locs : List Loc} {cells slots : Nat} {Q : State → Prop} {G : GG} {b L : Nat} {xs : Nat → Int32} {a1 a2 : Nat → Nat} {x : Ww} {y : Md} {ls : Array Slot} {x3 : Int32} {Rel : Ww → Md → Prop} (C0 : Cx p s m #[Value.ref b] meth c G (fun q => s.heap.size ≤ q) RL code 4 ret) (hX : va_X b L xs s s.heap) (hbl : b < s.heap.size) (hcs : cells ≤ room_1.cells ∧ slots ≤ room_1.slots) (hS9 : S_finding Rel) (hRel : Rel x y) (hl : lv_has ls 4 [(0, .ref b), (1, .ref (a1 0)), (2, .ref (a2 0)), (3, .int x3)]) (hW : Wd G (fun q => s.heap.size ≤ q) s.heap H (bWw G a1 0 x ++ bMd G a2 0 y) locs)
    (kk : ∀ (x1 : Ww) (y1 : Md) (H1 : Heap) (locs1 : List Loc), Rel x1 y1 → Wd G (fun q => s.heap.size ≤ q) s.heap H1 (bWw G a1 0 x1 ++ bMd G a2 0 y1) locs1 → W p l e room_1 s m #[Value.ref b] below meth c H1 locs1 cells slots Q (F0 m 1265 ls [])) : W p l e room_1 s m #[Value.ref b] below meth c H locs cells slots Q (F0 m 1215 ls []) := by
  have hx := C0.1
  have hb := C0.2.1
  have hbA : ¬ (fun q : Nat => s.heap.size ≤ q) b := Nat.not_le.mpr hbl
  obtain ⟨r, h5, h6, hR9⟩ := hS9 x y hRel 
  refine lv_aload_n hx hb dL_law_1215 rfl (lv_at hl 1 rfl) ?_
  refine pV1 (wc' := bWw G a1 0 x) (rv := some (.int r)) (rest := []) (st1 := [.int r]) C0 hW hl.1 (c_X5_finding l G a1 0 x  _ h5) cb_X5_finding mm_L_175 fst_Ww 0 5 rfl rfl rfl (by decide) rfl rfl (Nat.le_of_ble_eq_true rfl) hcs dL_law_1216 rfl (fun H locs hW => ?_)
  refine lv_aload_n hx hb dL_law_1219 rfl (lv_at hl 2 rfl) ?_
  refine pV2 (wc' := bMd G a2 0 y) (rv := some (.int r)) (rest := [.int r]) (st1 := [.int r, .int r]) C0 hW hl.1 (c_X6_finding l G a2 0 y  _ h6) cb_X6_finding mm_L_178 fst_Md 0 6 rfl rfl rfl (by decide) rfl rfl (Nat.le_of_ble_eq_true rfl) hcs dL_law_1220 rfl (fun H locs hW => ?_)
  refine lv_icmp_eq (tgt := 1265) hx hb dL_law_1223 (by decide) (fun _ => ?_) (fun c9 => absurd rfl c9)
  exact kk _ _ _ _ hR9 hW
def S_findings (Rel : Ww → Md → Prop) : Prop := ∀ (x : Ww) (y : Md), Rel x y → ∀ (v0 : Int32), ∃ (r : Int32), f_X5_findings x v0 = some r ∧ f_X6_findings y v0 = some r ∧ Rel x y
set_option maxRecDepth 100000 in
set_option maxHeartbeats 4000000 in
theorem lc_findings {p : Program} {l : Launch} {e : Env} {s : State} {m : MethodId} {below : List Frame} {meth : Method} {c : Code} {H : Heap} {locs : List Loc} {cells slots : Nat} {Q : State → Prop} {G : GG} {b L : Nat} {xs : Nat → Int32} {a1 a2 : Nat → Nat} {x : Ww} {y : Md} {ls : Array Slot} {x3 : Int32} {Rel : Ww → Md → Prop} (C0 : Cx p s m #[Value.ref b] meth c G (fun q => s.heap.size ≤ q) RL code 4 ret) (hX : va_X b L xs s s.heap) (hbl : b < s.heap.size) (hcs : cells ≤ room_1.cells ∧ slots ≤ room_1.slots) (hS9 : S_findings Rel) (hRel : Rel x y) (hl : lv_has ls 4 [(0, .ref b), (1, .ref (a1 0)), (2, .ref (a2 0)), (3, .int x3)]) (hi1 : vp_in (x3 + 1) L) (hW : Wd G (fun q => s.heap.size ≤ q) s.heap H (bWw G a1 0 x ++ bMd G a2 0 y) locs)
    (kk : ∀ (x1 : Ww) (y1 : Md) (H1 : Heap) (locs1 : List Loc), Rel x1 y1 → Wd G (fun q => s.heap.size ≤ q) s.heap H1 (bWw G a1 0 x1 ++ bMd G a2 0 y1) locs1 → W p l e room_1 s m #[Value.ref b] below meth c H1 locs1 cells slots Q (F0 m 1265 ls [])) : W p l e room_1 s m #[Value.ref b] below meth c H locs cells slots Q (F0 m 1228 ls []) := by
  have hx := C0.1
  have hb := C0.2.1
  have hbA : ¬ (fun q : Nat => s.heap.size ≤ q) b := Nat.not_le.mpr hbl
  obtain ⟨r, h5, h6, hR9⟩ := hS9 x y hRel (xs (x3 + 1).toNatClampNeg)
  refine lv_aload_n hx hb dL_law_1228 rfl (lv_at hl 1 rfl) ?_
  refine lv_aload_n hx hb dL_law_1229 rfl (lv_at hl 0 rfl) ?_
  refine lv_iload_n hx hb dL_law_1230 rfl (lv_at hl 3 rfl) ?_
  refine lv_iconst (v := 1) hx hb dL_law_1231 (by decide) ?_
  refine lv_iadd hx hb dL_law_1232 ?_
  refine va_sld hx hb hX hbl hbA hW.2.2 hi1 dL_law_1233 ?_
  refine pV1 (wc' := bWw G a1 0 x) (rv := some (.int r)) (rest := []) (st1 := [.int r]) C0 hW hl.1 (c_X5_findings l G a1 0 x (xs (x3 + 1).toNatClampNeg) _ h5) cb_X5_findings mm_L_179 fst_Ww 0 5 rfl rfl rfl (by decide) rfl rfl (Nat.le_of_ble_eq_true rfl) hcs dL_law_1234 rfl (fun H locs hW => ?_)
  refine lv_aload_n hx hb dL_law_1237 rfl (lv_at hl 2 rfl) ?_
  refine lv_aload_n hx hb dL_law_1238 rfl (lv_at hl 0 rfl) ?_
  refine lv_iload_n hx hb dL_law_1239 rfl (lv_at hl 3 rfl) ?_
  refine lv_iconst (v := 1) hx hb dL_law_1240 (by decide) ?_
  refine lv_iadd hx hb dL_law_1241 ?_
  refine va_sld hx hb hX hbl hbA hW.2.2 hi1 dL_law_1242 ?_
  refine pV2 (wc' := bMd G a2 0 y) (rv := some (.int r)) (rest := [.int r]) (st1 := [.int r, .int r]) C0 hW hl.1 (c_X6_findings l G a2 0 y (xs (x3 + 1).toNatClampNeg) _ h6) cb_X6_findings mm_L_182 fst_Md 0 6 rfl rfl rfl (by decide) rfl rfl (Nat.le_of_ble_eq_true rfl) hcs dL_law_1243 rfl (fun H locs hW => ?_)
  refine lv_icmp_eq (tgt := 1265) hx hb dL_law_1246 (by decide) (fun _ => ?_) (fun c9 => absurd rfl c9)
  exact kk _ _ _ _ hR9 hW
def S_digest (Rel : Ww → Md → Prop) : Prop := ∀ (x : Ww) (y : Md), Rel x y → ∃ (r : Int64) (y1 : Md), f_X5_digest x  = some r ∧ f_X6_digest y  = some (r, y1) ∧ Rel x y1
set_option maxRecDepth 100000 in
set_option maxHeartbeats 4000000 in
theorem lc_digest {p : Program} {l : Launch} {e : Env} {s : State} {m : MethodId} {below : List Frame} {meth : Method} {c : Code} {H : Heap} {locs : List Loc} {cells slots : Nat} {Q : State → Prop} {G : GG} {b L : Nat} {xs : Nat → Int32} {a1 a2 : Nat → Nat} {x : Ww} {y : Md} {ls : Array Slot} {x3 : Int32} {Rel : Ww → Md → Prop} (C0 : Cx p s m #[Value.ref b] meth c G (fun q => s.heap.size ≤ q) RL code 4 ret) (hX : va_X b L xs s s.heap) (hbl : b < s.heap.size) (hcs : cells ≤ room_1.cells ∧ slots ≤ room_1.slots) (hS9 : S_digest Rel) (hRel : Rel x y) (hl : lv_has ls 4 [(0, .ref b), (1, .ref (a1 0)), (2, .ref (a2 0)), (3, .int x3)]) (hW : Wd G (fun q => s.heap.size ≤ q) s.heap H (bWw G a1 0 x ++ bMd G a2 0 y) locs)
    (kk : ∀ (x1 : Ww) (y1 : Md) (H1 : Heap) (locs1 : List Loc), Rel x1 y1 → Wd G (fun q => s.heap.size ≤ q) s.heap H1 (bWw G a1 0 x1 ++ bMd G a2 0 y1) locs1 → W p l e room_1 s m #[Value.ref b] below meth c H1 locs1 cells slots Q (F0 m 1265 ls [])) : W p l e room_1 s m #[Value.ref b] below meth c H locs cells slots Q (F0 m 1251 ls []) := by
  have hx := C0.1
  have hb := C0.2.1
  have hbA : ¬ (fun q : Nat => s.heap.size ≤ q) b := Nat.not_le.mpr hbl
  obtain ⟨r, y1, h5, h6, hR9⟩ := hS9 x y hRel 
  refine lv_aload_n hx hb dL_law_1251 rfl (lv_at hl 1 rfl) ?_
  refine pV1 (wc' := bWw G a1 0 x) (rv := some (.long r)) (rest := []) (st1 := [.long r]) C0 hW hl.1 (c_X5_digest l G a1 0 x  _ h5) cb_X5_digest mm_L_183 fst_Ww 0 5 rfl rfl rfl (by decide) rfl rfl (Nat.le_of_ble_eq_true rfl) hcs dL_law_1252 rfl (fun H locs hW => ?_)
  refine lv_aload_n hx hb dL_law_1255 rfl (lv_at hl 2 rfl) ?_
  refine pV2 (wc' := bMd G a2 0 y1) (rv := some (.long r)) (rest := [.long r]) (st1 := [.long r, .long r]) C0 hW hl.1 (c_X6_digest l G a2 0 y  _ h6) cb_X6_digest mm_L_186 fst_Md 0 6 rfl rfl rfl (by decide) rfl rfl (Nat.le_of_ble_eq_true rfl) hcs dL_law_1256 rfl (fun H locs hW => ?_)
  refine W.lcmp hx hb dL_law_1259 ?_
  refine lv_if_eq (tgt := 1265) hx hb dL_law_1260 (by decide) (fun _ => ?_) (fun c9 => absurd (lg_self r) c9)
  exact kk _ _ _ _ hR9 hW
