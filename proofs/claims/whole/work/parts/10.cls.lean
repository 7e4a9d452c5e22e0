def f_J6_bitCount_0f7a4 (x0 : Int32) : Option (Int32) :=
  nm (x0 - ((jushr x0 (1 : Int32)) &&& (1431655765 : Int32))) (fun v9 => nm ((v9 &&& (858993459 : Int32)) + ((jushr v9 (2 : Int32)) &&& (858993459 : Int32))) (fun v23 => nm ((v23 + (jushr v23 (4 : Int32))) &&& (252645135 : Int32)) (fun v33 => nm (v33 + (jushr v33 (8 : Int32))) (fun v40 => nm (v40 + (jushr v40 (16 : Int32))) (fun v47 => some (v47 &&& (63 : Int32)))))))
set_option maxRecDepth 100000 in
set_option maxHeartbeats 8000000 in
theorem c_J6_bitCount_0f7a4 (l : Launch) (G : GG) (x0 : Int32) (out : Int32) (hf : f_J6_bitCount_0f7a4 x0 = some out) : Cn l G 0 yJ6_bitCount_0f7a4 cJ6_bitCount_0f7a4 1 (some .int) [.int x0] ([] : va_W) (some (.int out)) ([] : va_W) := by
  refine cn_start (by decide) (Nat.le_of_ble_eq_true rfl) ?_
  intro p e s m below meth c A ls C0 hW hl
  have hx := C0.1
  have hb := C0.2.1
  have hl : lv_has ls 1 [(0, .int x0)] := hl
  obtain ⟨r, hr⟩ : ∃ r, f_J6_bitCount_0f7a4 x0 = some r ∧ r = out := ⟨out, hf, rfl⟩
  replace hf := hr.1
  have hF := hr.2
  clear hr
  unfold f_J6_bitCount_0f7a4 at hf
  refine lv_iload_n hx hb dJ6_bitCount_0f7a4_0 rfl (lv_at hl 0 rfl) ?_
  refine lv_iload_n hx hb dJ6_bitCount_0f7a4_1 rfl (lv_at hl 0 rfl) ?_
  refine lv_iconst (v := 1) hx hb dJ6_bitCount_0f7a4_2 (by decide) ?_
  refine lv_iushr (v := (jushr x0 (1 : Int32))) hx hb dJ6_bitCount_0f7a4_3 rfl ?_
  refine lv_ldcw hx hb C0.2.2.2.2.2.1 (C0.2.2.2.2.2.2.1 _ mk_J6_265) dJ6_bitCount_0f7a4_4 ?_
  refine lv_iand hx hb dJ6_bitCount_0f7a4_7 ?_
  refine lv_isub hx hb dJ6_bitCount_0f7a4_8 ?_
  refine lv_topi (fun v9 ev9 => ?_)
  replace hf := nm_s ev9 hf
  refine lv_istore_n (lv' := [(0, .int v9)]) hx hb dJ6_bitCount_0f7a4_9 rfl hl (by decide) rfl (fun ls hl => ?_)
  refine lv_iload_n hx hb dJ6_bitCount_0f7a4_10 rfl (lv_at hl 0 rfl) ?_
  refine lv_ldcw hx hb C0.2.2.2.2.2.1 (C0.2.2.2.2.2.2.1 _ mk_J6_266) dJ6_bitCount_0f7a4_11 ?_
  refine lv_iand hx hb dJ6_bitCount_0f7a4_14 ?_
  refine lv_iload_n hx hb dJ6_bitCount_0f7a4_15 rfl (lv_at hl 0 rfl) ?_
  refine lv_iconst (v := 2) hx hb dJ6_bitCount_0f7a4_16 (by decide) ?_
  refine lv_iushr (v := (jushr v9 (2 : Int32))) hx hb dJ6_bitCount_0f7a4_17 rfl ?_
  refine lv_ldcw hx hb C0.2.2.2.2.2.1 (C0.2.2.2.2.2.2.1 _ mk_J6_266) dJ6_bitCount_0f7a4_18 ?_
  refine lv_iand hx hb dJ6_bitCount_0f7a4_21 ?_
  refine lv_iadd hx hb dJ6_bitCount_0f7a4_22 ?_
  refine lv_topi (fun v23 ev23 => ?_)
  replace hf := nm_s ev23 hf
  refine lv_istore_n (lv' := [(0, .int v23)]) hx hb dJ6_bitCount_0f7a4_23 rfl hl (by decide) rfl (fun ls hl => ?_)
  refine lv_iload_n hx hb dJ6_bitCount_0f7a4_24 rfl (lv_at hl 0 rfl) ?_
  refine lv_iload_n hx hb dJ6_bitCount_0f7a4_25 rfl (lv_at hl 0 rfl) ?_
  refine lv_iconst (v := 4) hx hb dJ6_bitCount_0f7a4_26 (by decide) ?_
  refine lv_iushr (v := (jushr v23 (4 : Int32))) hx hb dJ6_bitCount_0f7a4_27 rfl ?_
  refine lv_iadd hx hb dJ6_bitCount_0f7a4_28 ?_
  refine lv_ldcw hx hb C0.2.2.2.2.2.1 (C0.2.2.2.2.2.2.1 _ mk_J6_267) dJ6_bitCount_0f7a4_29 ?_
  refine lv_iand hx hb dJ6_bitCount_0f7a4_32 ?_
  refine lv_topi (fun v33 ev33 => ?_)
  replace hf := nm_s ev33 hf
  refine lv_istore_n (lv' := [(0, .int v33)]) hx hb dJ6_bitCount_0f7a4_33 rfl hl (by decide) rfl (fun ls hl => ?_)
  refine lv_iload_n hx hb dJ6_bitCount_0f7a4_34 rfl (lv_at hl 0 rfl) ?_
  refine lv_iload_n hx hb dJ6_bitCount_0f7a4_35 rfl (lv_at hl 0 rfl) ?_
  refine lv_bipush (v := 8) hx hb dJ6_bitCount_0f7a4_36 (by decide) ?_
  refine lv_iushr (v := (jushr v33 (8 : Int32))) hx hb dJ6_bitCount_0f7a4_38 rfl ?_
  refine lv_iadd hx hb dJ6_bitCount_0f7a4_39 ?_
  refine lv_topi (fun v40 ev40 => ?_)
  replace hf := nm_s ev40 hf
  refine lv_istore_n (lv' := [(0, .int v40)]) hx hb dJ6_bitCount_0f7a4_40 rfl hl (by decide) rfl (fun ls hl => ?_)
  refine lv_iload_n hx hb dJ6_bitCount_0f7a4_41 rfl (lv_at hl 0 rfl) ?_
  refine lv_iload_n hx hb dJ6_bitCount_0f7a4_42 rfl (lv_at hl 0 rfl) ?_
  refine lv_bipush (v := 16) hx hb dJ6_bitCount_0f7a4_43 (by decide) ?_
  refine lv_iushr (v := (jushr v40 (16 : Int32))) hx hb dJ6_bitCount_0f7a4_45 rfl ?_
  refine lv_iadd hx hb dJ6_bitCount_0f7a4_46 ?_
  refine lv_topi (fun v47 ev47 => ?_)
  replace hf := nm_s ev47 hf
  refine lv_istore_n (lv' := [(0, .int v47)]) hx hb dJ6_bitCount_0f7a4_47 rfl hl (by decide) rfl (fun ls hl => ?_)
  refine lv_iload_n hx hb dJ6_bitCount_0f7a4_48 rfl (lv_at hl 0 rfl) ?_
  refine lv_bipush (v := 63) hx hb dJ6_bitCount_0f7a4_49 (by decide) ?_
  refine lv_iand hx hb dJ6_bitCount_0f7a4_51 ?_
  have e1 := Option.some.inj hf
  subst e1
  have hF : ((v47 &&& (63 : Int32)) : Int32) = out := hF
  subst hF
  exact k_iret C0 hW dJ6_bitCount_0f7a4_52

def f_J7_fill_53178_B5 (k : Nat) (x1 : Int32) (x3 : Int32) (x2 : Int32) (f : Ar) : Option ((Int32 × Ar) ⊕ (Ar)) :=
  if x3 ≤ x2 then (Option.map Sum.inr (some f)) else (gd (inb x2 k) (some (Sum.inl ((x2 + (1 : Int32)), (upd f (ix x2) x1)))))
def f_J7_fill_53178_L5 (k : Nat) (x1 : Int32) (x3 : Int32) (sg : Int32 × Ar) : Option ((Int32 × Ar) ⊕ (Ar)) := f_J7_fill_53178_B5 k x1 x3 sg.1 sg.2
def f_J7_fill_53178 (k : Nat) (f : Ar) (x1 : Int32) : Option (Ar) :=
  lp (f_J7_fill_53178_L5 k x1 (Int32.ofNat k)) fuel ((0 : Int32), f)
set_option maxRecDepth 100000 in
set_option maxHeartbeats 8000000 in
theorem c_J7_fill_53178 (l : Launch) (G : GG) (aa : Nat) (k : Nat) (f : Ar) (x1 : Int32) (out : Ar) (hf : f_J7_fill_53178 k f x1 = some out) : Cn l G 0 yJ7_fill_53178 cJ7_fill_53178 4 (none) [.ref (aa), .int x1] ([(aa, eI G k f)]) (none) ([(aa, eI G k out)]) := by
  refine cn_start (by decide) (Nat.le_of_ble_eq_true rfl) ?_
  intro p e s m below meth c A ls C0 hW hl
  have hx := C0.1
  have hb := C0.2.1
  have hl : lv_has ls 4 [(0, .ref (aa)), (1, .int x1)] := hl
  have L5 : ∀ (x3 : Int32) (k8 : Nat) (sg : Int32 × Ar) (o9 : Ar), lp (f_J7_fill_53178_L5 k x1 x3) k8 sg = some o9 → (fun (r : Ar) => r = out) o9 → (fun (sg : Int32 × Ar) => ∀ (H : Heap) (locs : List Loc) (ls : Array Slot), Wd G A s.heap H ([(aa, eI G k sg.2)]) locs → lv_has ls 4 [(0, .ref (aa)), (1, .int x1), (2, .int sg.1), (3, .int x3)] → WW p l e 0 s m [.ref (aa), .int x1] below meth c G A (none) (([(aa, eI G k out)])) H locs 5 ls []) sg := by
    intro x3
    have B5 : ∀ (x2 : Int32) (f : Ar) (r : (Int32 × Ar) ⊕ (Ar)), f_J7_fill_53178_B5 k x1 x3 x2 f = some r → (Sum.elim (fun (sg : Int32 × Ar) => ∀ (H : Heap) (locs : List Loc) (ls : Array Slot), Wd G A s.heap H ([(aa, eI G k sg.2)]) locs → lv_has ls 4 [(0, .ref (aa)), (1, .int x1), (2, .int sg.1), (3, .int x3)] → WW p l e 0 s m [.ref (aa), .int x1] below meth c G A (none) (([(aa, eI G k out)])) H locs 5 ls []) (fun (r : Ar) => r = out)) r → ∀ (H : Heap) (locs : List Loc) (ls : Array Slot), Wd G A s.heap H ([(aa, eI G k f)]) locs → lv_has ls 4 [(0, .ref (aa)), (1, .int x1), (2, .int x2), (3, .int x3)] → WW p l e 0 s m [.ref (aa), .int x1] below meth c G A (none) (([(aa, eI G k out)])) H locs 5 ls [] := by
      intro x2 f r hf hF H locs ls hW hl
      unfold f_J7_fill_53178_B5 at hf
      refine lv_iload_n hx hb dJ7_fill_53178_5 rfl (lv_at hl 2 rfl) ?_
      refine lv_iload_n hx hb dJ7_fill_53178_6 rfl (lv_at hl 3 rfl) ?_
      refine lv_icmp_ge (tgt := 20) hx hb dJ7_fill_53178_7 (by decide) (fun c7_1 => ?_) (fun c7_1 => ?_)
      · replace hf := if_t c7_1 hf
        obtain ⟨r2, e2⟩ := om_s hf
        replace hf := e2.1
        replace e2 := e2.2
        subst e2
        replace hF := elim_r hF
        have e1 := Option.some.inj hf
        subst e1
        have hF : (f : Ar) = out := hF
        subst hF
        exact k_vret C0 hW dJ7_fill_53178_20
      · replace hf := if_f c7_1 hf
        refine lv_aload_n hx hb dJ7_fill_53178_10 rfl (lv_at hl 0 rfl) ?_
        refine lv_iload_n hx hb dJ7_fill_53178_11 rfl (lv_at hl 2 rfl) ?_
        refine lv_iload_n hx hb dJ7_fill_53178_12 rfl (lv_at hl 1 rfl) ?_
        have g13_2 := (gd_some hf).1; replace hf := (gd_some hf).2
        refine k_iast C0 hW 0 (ix x2) rfl (inb_in g13_2) rfl dJ7_fill_53178_13 (fun H locs hW => ?_)
        have hW : Wd G A s.heap H ([(aa, eI G k (upd f (ix x2) x1))]) locs := hW
        refine lv_iinc (v := (x2 + (1 : Int32))) (lv' := [(2, .int (x2 + (1 : Int32))), (0, .ref (aa)), (1, .int x1), (3, .int x3)]) hx hb dJ7_fill_53178_14 hl (k := 2) rfl rfl (by decide) rfl (fun ls hl => ?_)
        refine lv_goto (tgt := 5) hx hb dJ7_fill_53178_17 (by decide) ?_
        have e1 := Option.some.inj hf
        subst e1
        exact (elim_l hF) _ _ _ hW (lv_sub hl [1, 2, 0, 3] rfl)
    exact lp_sound (fun sg r hb hz => B5 sg.1 sg.2 r hb hz)
  obtain ⟨r, hr⟩ : ∃ r, f_J7_fill_53178 k f x1 = some r ∧ r = out := ⟨out, hf, rfl⟩
  replace hf := hr.1
  have hF := hr.2
  clear hr
  unfold f_J7_fill_53178 at hf
  refine lv_iconst (v := 0) hx hb dJ7_fill_53178_0 (by decide) ?_
  refine lv_istore_n (lv' := [(2, .int (0 : Int32)), (0, .ref (aa)), (1, .int x1)]) hx hb dJ7_fill_53178_1 rfl hl (by decide) rfl (fun ls hl => ?_)
  refine lv_aload_n hx hb dJ7_fill_53178_2 rfl (lv_at hl 1 rfl) ?_
  refine k_alen C0 hW 0 (v := (Int32.ofNat k)) rfl rfl dJ7_fill_53178_3 ?_
  refine lv_istore_n (lv' := [(3, .int (Int32.ofNat k)), (2, .int (0 : Int32)), (0, .ref (aa)), (1, .int x1)]) hx hb dJ7_fill_53178_4 rfl hl (by decide) rfl (fun ls hl => ?_)
  exact L5 _ fuel ((0 : Int32), f) _ hf hF _ _ _ hW (lv_sub hl [2, 3, 1, 0] rfl)

def f_X4_take (w : Wh) (w2 : Wh) : Option (Wh) :=
  gd (isB (wh_dry w2)) (some (wh_set_dry (wh_set_there (wh_set_rut (wh_set_stand (wh_set_gateRut (wh_set_spokes (wh_set_wear (wh_set_strong (wh_set_length (wh_set_kind (wh_set_depths w (acpy (wh_depths w2) (wh_depths w) (0 : Int32) (0 : Int32) (8 : Int32))) (acpy (wh_kind w2) (wh_kind w) (0 : Int32) (0 : Int32) (8 : Int32))) (acpy (wh_length w2) (wh_length w) (0 : Int32) (0 : Int32) (8 : Int32))) (acpy (wh_strong w2) (wh_strong w) (0 : Int32) (0 : Int32) (8 : Int32))) (acpy (wh_wear w2) (wh_wear w) (0 : Int32) (0 : Int32) (8 : Int32))) (wh_spokes w2)) (wh_gateRut w2)) (wh_stand w2)) (wh_rut w2)) (wh_there w2)) (wh_dry w2)))
set_option maxRecDepth 100000 in
set_option maxHeartbeats 8000000 in
theorem c_X4_take (l : Launch) (G : GG) (a : Nat → Nat) (o : Nat) (b : Nat → Nat) (q : Nat) (w : Wh) (w2 : Wh) (out : Wh) (hf : f_X4_take w w2 = some out) : Cn l G 1 yX4_take cX4_take 2 (none) [.ref (a o), .ref (b q)] ((bWh G a o w) ++ (bWh G b q w2)) (none) ((bWh G a o out) ++ (bWh G b q w2)) := by
  refine cn_start (by decide) (Nat.le_of_ble_eq_true rfl) ?_
  intro p e s m below meth c A ls C0 hW hl
  have hx := C0.1
  have hb := C0.2.1
  have hl : lv_has ls 2 [(0, .ref (a o)), (1, .ref (b q))] := hl
  obtain ⟨r, hr⟩ : ∃ r, f_X4_take w w2 = some r ∧ r = out := ⟨out, hf, rfl⟩
  replace hf := hr.1
  have hF := hr.2
  clear hr
  unfold f_X4_take at hf
  refine lv_aload_n hx hb dX4_take_0 rfl (lv_at hl 1 rfl) ?_
  refine k_get C0 hW 4 0 6 (v := .ref (b (q + 1))) rfl (by decide) inX4 mf_X4_9 rfl rfl dX4_take_1 ?_
  refine lv_iconst (v := 0) hx hb dX4_take_4 (by decide) ?_
  refine lv_aload_n hx hb dX4_take_5 rfl (lv_at hl 0 rfl) ?_
  refine k_get C0 hW 4 0 0 (v := .ref (a (o + 1))) rfl (by decide) inX4 mf_X4_9 rfl rfl dX4_take_6 ?_
  refine lv_iconst (v := 0) hx hb dX4_take_9 (by decide) ?_
  refine lv_bipush (v := 8) hx hb dX4_take_10 (by decide) ?_
  refine k_copy C0 hW hl.1 mm_X4_27 (by decide) (Nat.le_of_ble_eq_true rfl) 7 1 rfl rfl (by decide) dX4_take_12 (fun H locs hW => ?_)
  have hW : Wd G A s.heap H ((bWh G a o (wh_set_depths w (acpy (wh_depths w2) (wh_depths w) (0 : Int32) (0 : Int32) (8 : Int32)))) ++ (bWh G b q w2)) locs := hW
  refine lv_aload_n hx hb dX4_take_15 rfl (lv_at hl 1 rfl) ?_
  refine k_get C0 hW 4 1 6 (v := .ref (b (q + 2))) rfl (by decide) inX4 mf_X4_15 rfl rfl dX4_take_16 ?_
  refine lv_iconst (v := 0) hx hb dX4_take_19 (by decide) ?_
  refine lv_aload_n hx hb dX4_take_20 rfl (lv_at hl 0 rfl) ?_
  refine k_get C0 hW 4 1 0 (v := .ref (a (o + 2))) rfl (by decide) inX4 mf_X4_15 rfl rfl dX4_take_21 ?_
  refine lv_iconst (v := 0) hx hb dX4_take_24 (by decide) ?_
  refine lv_bipush (v := 8) hx hb dX4_take_25 (by decide) ?_
  refine k_copy C0 hW hl.1 mm_X4_27 (by decide) (Nat.le_of_ble_eq_true rfl) 8 2 rfl rfl (by decide) dX4_take_27 (fun H locs hW => ?_)
  have hW : Wd G A s.heap H ((bWh G a o (wh_set_kind (wh_set_depths w (acpy (wh_depths w2) (wh_depths w) (0 : Int32) (0 : Int32) (8 : Int32))) (acpy (wh_kind w2) (wh_kind w) (0 : Int32) (0 : Int32) (8 : Int32)))) ++ (bWh G b q w2)) locs := hW
  refine lv_aload_n hx hb dX4_take_30 rfl (lv_at hl 1 rfl) ?_
  refine k_get C0 hW 4 2 6 (v := .ref (b (q + 3))) rfl (by decide) inX4 mf_X4_18 rfl rfl dX4_take_31 ?_
  refine lv_iconst (v := 0) hx hb dX4_take_34 (by decide) ?_
  refine lv_aload_n hx hb dX4_take_35 rfl (lv_at hl 0 rfl) ?_
  refine k_get C0 hW 4 2 0 (v := .ref (a (o + 3))) rfl (by decide) inX4 mf_X4_18 rfl rfl dX4_take_36 ?_
  refine lv_iconst (v := 0) hx hb dX4_take_39 (by decide) ?_
  refine lv_bipush (v := 8) hx hb dX4_take_40 (by decide) ?_
  refine k_copy C0 hW hl.1 mm_X4_27 (by decide) (Nat.le_of_ble_eq_true rfl) 9 3 rfl rfl (by decide) dX4_take_42 (fun H locs hW => ?_)
  have hW : Wd G A s.heap H ((bWh G a o (wh_set_length (wh_set_kind (wh_set_depths w (acpy (wh_depths w2) (wh_depths w) (0 : Int32) (0 : Int32) (8 : Int32))) (acpy (wh_kind w2) (wh_kind w) (0 : Int32) (0 : Int32) (8 : Int32))) (acpy (wh_length w2) (wh_length w) (0 : Int32) (0 : Int32) (8 : Int32)))) ++ (bWh G b q w2)) locs := hW
  refine lv_aload_n hx hb dX4_take_45 rfl (lv_at hl 1 rfl) ?_
  refine k_get C0 hW 4 3 6 (v := .ref (b (q + 4))) rfl (by decide) inX4 mf_X4_21 rfl rfl dX4_take_46 ?_
  refine lv_iconst (v := 0) hx hb dX4_take_49 (by decide) ?_
  refine lv_aload_n hx hb dX4_take_50 rfl (lv_at hl 0 rfl) ?_
  refine k_get C0 hW 4 3 0 (v := .ref (a (o + 4))) rfl (by decide) inX4 mf_X4_21 rfl rfl dX4_take_51 ?_
  refine lv_iconst (v := 0) hx hb dX4_take_54 (by decide) ?_
  refine lv_bipush (v := 8) hx hb dX4_take_55 (by decide) ?_
  refine k_copy C0 hW hl.1 mm_X4_27 (by decide) (Nat.le_of_ble_eq_true rfl) 10 4 rfl rfl (by decide) dX4_take_57 (fun H locs hW => ?_)
  have hW : Wd G A s.heap H ((bWh G a o (wh_set_strong (wh_set_length (wh_set_kind (wh_set_depths w (acpy (wh_depths w2) (wh_depths w) (0 : Int32) (0 : Int32) (8 : Int32))) (acpy (wh_kind w2) (wh_kind w) (0 : Int32) (0 : Int32) (8 : Int32))) (acpy (wh_length w2) (wh_length w) (0 : Int32) (0 : Int32) (8 : Int32))) (acpy (wh_strong w2) (wh_strong w) (0 : Int32) (0 : Int32) (8 : Int32)))) ++ (bWh G b q w2)) locs := hW
  refine lv_aload_n hx hb dX4_take_60 rfl (lv_at hl 1 rfl) ?_
  refine k_get C0 hW 4 4 6 (v := .ref (b (q + 5))) rfl (by decide) inX4 mf_X4_24 rfl rfl dX4_take_61 ?_
  refine lv_iconst (v := 0) hx hb dX4_take_64 (by decide) ?_
  refine lv_aload_n hx hb dX4_take_65 rfl (lv_at hl 0 rfl) ?_
  refine k_get C0 hW 4 4 0 (v := .ref (a (o + 5))) rfl (by decide) inX4 mf_X4_24 rfl rfl dX4_take_66 ?_
  refine lv_iconst (v := 0) hx hb dX4_take_69 (by decide) ?_
  refine lv_bipush (v := 8) hx hb dX4_take_70 (by decide) ?_
  refine k_copy C0 hW hl.1 mm_X4_27 (by decide) (Nat.le_of_ble_eq_true rfl) 11 5 rfl rfl (by decide) dX4_take_72 (fun H locs hW => ?_)
  have hW : Wd G A s.heap H ((bWh G a o (wh_set_wear (wh_set_strong (wh_set_length (wh_set_kind (wh_set_depths w (acpy (wh_depths w2) (wh_depths w) (0 : Int32) (0 : Int32) (8 : Int32))) (acpy (wh_kind w2) (wh_kind w) (0 : Int32) (0 : Int32) (8 : Int32))) (acpy (wh_length w2) (wh_length w) (0 : Int32) (0 : Int32) (8 : Int32))) (acpy (wh_strong w2) (wh_strong w) (0 : Int32) (0 : Int32) (8 : Int32))) (acpy (wh_wear w2) (wh_wear w) (0 : Int32) (0 : Int32) (8 : Int32)))) ++ (bWh G b q w2)) locs := hW
  refine lv_aload_n hx hb dX4_take_75 rfl (lv_at hl 0 rfl) ?_
  refine lv_aload_n hx hb dX4_take_76 rfl (lv_at hl 1 rfl) ?_
  refine k_get C0 hW 4 5 6 (v := .int (wh_spokes w2)) rfl (by decide) inX4 mf_X4_33 rfl rfl dX4_take_77 ?_
  refine k_put C0 hW 4 5 0 rfl (by decide) inX4 tyX4_ok nmX4 mf_X4_33 rfl rfl rfl rfl (Nat.le_of_ble_eq_true rfl) dX4_take_80 (fun H locs hW => ?_)
  have hW : Wd G A s.heap H ((bWh G a o (wh_set_spokes (wh_set_wear (wh_set_strong (wh_set_length (wh_set_kind (wh_set_depths w (acpy (wh_depths w2) (wh_depths w) (0 : Int32) (0 : Int32) (8 : Int32))) (acpy (wh_kind w2) (wh_kind w) (0 : Int32) (0 : Int32) (8 : Int32))) (acpy (wh_length w2) (wh_length w) (0 : Int32) (0 : Int32) (8 : Int32))) (acpy (wh_strong w2) (wh_strong w) (0 : Int32) (0 : Int32) (8 : Int32))) (acpy (wh_wear w2) (wh_wear w) (0 : Int32) (0 : Int32) (8 : Int32))) (wh_spokes w2))) ++ (bWh G b q w2)) locs := hW
  refine lv_aload_n hx hb dX4_take_83 rfl (lv_at hl 0 rfl) ?_
  refine lv_aload_n hx hb dX4_take_84 rfl (lv_at hl 1 rfl) ?_
  refine k_get C0 hW 4 6 6 (v := .int (wh_gateRut w2)) rfl (by decide) inX4 mf_X4_37 rfl rfl dX4_take_85 ?_
  refine k_put C0 hW 4 6 0 rfl (by decide) inX4 tyX4_ok nmX4 mf_X4_37 rfl rfl rfl rfl (Nat.le_of_ble_eq_true rfl) dX4_take_88 (fun H locs hW => ?_)
  have hW : Wd G A s.heap H ((bWh G a o (wh_set_gateRut (wh_set_spokes (wh_set_wear (wh_set_strong (wh_set_length (wh_set_kind (wh_set_depths w (acpy (wh_depths w2) (wh_depths w) (0 : Int32) (0 : Int32) (8 : Int32))) (acpy (wh_kind w2) (wh_kind w) (0 : Int32) (0 : Int32) (8 : Int32))) (acpy (wh_length w2) (wh_length w) (0 : Int32) (0 : Int32) (8 : Int32))) (acpy (wh_strong w2) (wh_strong w) (0 : Int32) (0 : Int32) (8 : Int32))) (acpy (wh_wear w2) (wh_wear w) (0 : Int32) (0 : Int32) (8 : Int32))) (wh_spokes w2)) (wh_gateRut w2))) ++ (bWh G b q w2)) locs := hW
  refine lv_aload_n hx hb dX4_take_91 rfl (lv_at hl 0 rfl) ?_
  refine lv_aload_n hx hb dX4_take_92 rfl (lv_at hl 1 rfl) ?_
  refine k_get C0 hW 4 7 6 (v := .int (wh_stand w2)) rfl (by decide) inX4 mf_X4_40 rfl rfl dX4_take_93 ?_
  refine k_put C0 hW 4 7 0 rfl (by decide) inX4 tyX4_ok nmX4 mf_X4_40 rfl rfl rfl rfl (Nat.le_of_ble_eq_true rfl) dX4_take_96 (fun H locs hW => ?_)
  have hW : Wd G A s.heap H ((bWh G a o (wh_set_stand (wh_set_gateRut (wh_set_spokes (wh_set_wear (wh_set_strong (wh_set_length (wh_set_kind (wh_set_depths w (acpy (wh_depths w2) (wh_depths w) (0 : Int32) (0 : Int32) (8 : Int32))) (acpy (wh_kind w2) (wh_kind w) (0 : Int32) (0 : Int32) (8 : Int32))) (acpy (wh_length w2) (wh_length w) (0 : Int32) (0 : Int32) (8 : Int32))) (acpy (wh_strong w2) (wh_strong w) (0 : Int32) (0 : Int32) (8 : Int32))) (acpy (wh_wear w2) (wh_wear w) (0 : Int32) (0 : Int32) (8 : Int32))) (wh_spokes w2)) (wh_gateRut w2)) (wh_stand w2))) ++ (bWh G b q w2)) locs := hW
  refine lv_aload_n hx hb dX4_take_99 rfl (lv_at hl 0 rfl) ?_
  refine lv_aload_n hx hb dX4_take_100 rfl (lv_at hl 1 rfl) ?_
  refine k_get C0 hW 4 8 6 (v := .int (wh_rut w2)) rfl (by decide) inX4 mf_X4_43 rfl rfl dX4_take_101 ?_
  refine k_put C0 hW 4 8 0 rfl (by decide) inX4 tyX4_ok nmX4 mf_X4_43 rfl rfl rfl rfl (Nat.le_of_ble_eq_true rfl) dX4_take_104 (fun H locs hW => ?_)
  have hW : Wd G A s.heap H ((bWh G a o (wh_set_rut (wh_set_stand (wh_set_gateRut (wh_set_spokes (wh_set_wear (wh_set_strong (wh_set_length (wh_set_kind (wh_set_depths w (acpy (wh_depths w2) (wh_depths w) (0 : Int32) (0 : Int32) (8 : Int32))) (acpy (wh_kind w2) (wh_kind w) (0 : Int32) (0 : Int32) (8 : Int32))) (acpy (wh_length w2) (wh_length w) (0 : Int32) (0 : Int32) (8 : Int32))) (acpy (wh_strong w2) (wh_strong w) (0 : Int32) (0 : Int32) (8 : Int32))) (acpy (wh_wear w2) (wh_wear w) (0 : Int32) (0 : Int32) (8 : Int32))) (wh_spokes w2)) (wh_gateRut w2)) (wh_stand w2)) (wh_rut w2))) ++ (bWh G b q w2)) locs := hW
  refine lv_aload_n hx hb dX4_take_107 rfl (lv_at hl 0 rfl) ?_
  refine lv_aload_n hx hb dX4_take_108 rfl (lv_at hl 1 rfl) ?_
  refine k_get C0 hW 4 9 6 (v := .int (wh_there w2)) rfl (by decide) inX4 mf_X4_46 rfl rfl dX4_take_109 ?_
  refine k_put C0 hW 4 9 0 rfl (by decide) inX4 tyX4_ok nmX4 mf_X4_46 rfl rfl rfl rfl (Nat.le_of_ble_eq_true rfl) dX4_take_112 (fun H locs hW => ?_)
  have hW : Wd G A s.heap H ((bWh G a o (wh_set_there (wh_set_rut (wh_set_stand (wh_set_gateRut (wh_set_spokes (wh_set_wear (wh_set_strong (wh_set_length (wh_set_kind (wh_set_depths w (acpy (wh_depths w2) (wh_depths w) (0 : Int32) (0 : Int32) (8 : Int32))) (acpy (wh_kind w2) (wh_kind w) (0 : Int32) (0 : Int32) (8 : Int32))) (acpy (wh_length w2) (wh_length w) (0 : Int32) (0 : Int32) (8 : Int32))) (acpy (wh_strong w2) (wh_strong w) (0 : Int32) (0 : Int32) (8 : Int32))) (acpy (wh_wear w2) (wh_wear w) (0 : Int32) (0 : Int32) (8 : Int32))) (wh_spokes w2)) (wh_gateRut w2)) (wh_stand w2)) (wh_rut w2)) (wh_there w2))) ++ (bWh G b q w2)) locs := hW
  refine lv_aload_n hx hb dX4_take_115 rfl (lv_at hl 0 rfl) ?_
  refine lv_aload_n hx hb dX4_take_116 rfl (lv_at hl 1 rfl) ?_
  refine k_get C0 hW 4 10 6 (v := .int (wh_dry w2)) rfl (by decide) inX4 mf_X4_49 rfl rfl dX4_take_117 ?_
  have g120_6 := (gd_some hf).1; replace hf := (gd_some hf).2
  refine k_put C0 hW 4 10 0 rfl (by decide) inX4 tyX4_ok nmX4 mf_X4_49 rfl rfl (isB_nar g120_6) (isB_fits g120_6) (Nat.le_of_ble_eq_true rfl) dX4_take_120 (fun H locs hW => ?_)
  have hW : Wd G A s.heap H ((bWh G a o (wh_set_dry (wh_set_there (wh_set_rut (wh_set_stand (wh_set_gateRut (wh_set_spokes (wh_set_wear (wh_set_strong (wh_set_length (wh_set_kind (wh_set_depths w (acpy (wh_depths w2) (wh_depths w) (0 : Int32) (0 : Int32) (8 : Int32))) (acpy (wh_kind w2) (wh_kind w) (0 : Int32) (0 : Int32) (8 : Int32))) (acpy (wh_length w2) (wh_length w) (0 : Int32) (0 : Int32) (8 : Int32))) (acpy (wh_strong w2) (wh_strong w) (0 : Int32) (0 : Int32) (8 : Int32))) (acpy (wh_wear w2) (wh_wear w) (0 : Int32) (0 : Int32) (8 : Int32))) (wh_spokes w2)) (wh_gateRut w2)) (wh_stand w2)) (wh_rut w2)) (wh_there w2)) (wh_dry w2))) ++ (bWh G b q w2)) locs := hW
  have e1 := Option.some.inj hf
  subst e1
  have hF : ((wh_set_dry (wh_set_there (wh_set_rut (wh_set_stand (wh_set_gateRut (wh_set_spokes (wh_set_wear (wh_set_strong (wh_set_length (wh_set_kind (wh_set_depths w (acpy (wh_depths w2) (wh_depths w) (0 : Int32) (0 : Int32) (8 : Int32))) (acpy (wh_kind w2) (wh_kind w) (0 : Int32) (0 : Int32) (8 : Int32))) (acpy (wh_length w2) (wh_length w) (0 : Int32) (0 : Int32) (8 : Int32))) (acpy (wh_strong w2) (wh_strong w) (0 : Int32) (0 : Int32) (8 : Int32))) (acpy (wh_wear w2) (wh_wear w) (0 : Int32) (0 : Int32) (8 : Int32))) (wh_spokes w2)) (wh_gateRut w2)) (wh_stand w2)) (wh_rut w2)) (wh_there w2)) (wh_dry w2)) : Wh) = out := hF
  subst hF
  exact k_vret C0 hW dX4_take_123

def f_X4_goneOnes (w : Wh) : Option (Int32) :=
  some (((jshl (1 : Int32) (wh_spokes w)) - (1 : Int32)) &&& ((wh_there w) ^^^ (-1 : Int32)))
set_option maxRecDepth 100000 in
set_option maxHeartbeats 8000000 in
theorem c_X4_goneOnes (l : Launch) (G : GG) (a : Nat → Nat) (o : Nat) (w : Wh) (out : Int32) (hf : f_X4_goneOnes w = some out) : Cn l G 0 yX4_goneOnes cX4_goneOnes 1 (some .int) [.ref (a o)] (bWh G a o w) (some (.int out)) (bWh G a o w) := by
  refine cn_start (by decide) (Nat.le_of_ble_eq_true rfl) ?_
  intro p e s m below meth c A ls C0 hW hl
  have hx := C0.1
  have hb := C0.2.1
  have hl : lv_has ls 1 [(0, .ref (a o))] := hl
  obtain ⟨r, hr⟩ : ∃ r, f_X4_goneOnes w = some r ∧ r = out := ⟨out, hf, rfl⟩
  replace hf := hr.1
  have hF := hr.2
  clear hr
  unfold f_X4_goneOnes at hf
  refine lv_iconst (v := 1) hx hb dX4_goneOnes_0 (by decide) ?_
  refine lv_aload_n hx hb dX4_goneOnes_1 rfl (lv_at hl 0 rfl) ?_
  refine k_get C0 hW 4 5 0 (v := .int (wh_spokes w)) rfl (by decide) inX4 mf_X4_33 rfl rfl dX4_goneOnes_2 ?_
  refine lv_ishl hx hb dX4_goneOnes_5 ?_
  refine lv_iconst (v := 1) hx hb dX4_goneOnes_6 (by decide) ?_
  refine lv_isub hx hb dX4_goneOnes_7 ?_
  refine lv_aload_n hx hb dX4_goneOnes_8 rfl (lv_at hl 0 rfl) ?_
  refine k_get C0 hW 4 9 0 (v := .int (wh_there w)) rfl (by decide) inX4 mf_X4_46 rfl rfl dX4_goneOnes_9 ?_
  refine lv_iconst (v := -1) hx hb dX4_goneOnes_12 (by decide) ?_
  refine lv_ixor hx hb dX4_goneOnes_13 ?_
  refine lv_iand hx hb dX4_goneOnes_14 ?_
  have e1 := Option.some.inj hf
  subst e1
  have hF : ((((jshl (1 : Int32) (wh_spokes w)) - (1 : Int32)) &&& ((wh_there w) ^^^ (-1 : Int32))) : Int32) = out := hF
  subst hF
  exact k_iret C0 hW dX4_goneOnes_15

def f_X4_isOver (w : Wh) : Option (Int32) :=
  Option.bind (f_X4_goneOnes w) (fun q1 => if q1 = 0 then (some (0 : Int32)) else (nm ((jshl q1 (1 : Int32)) ||| (jshr q1 ((wh_spokes w) - (1 : Int32)))) (fun v23 => if (q1 &&& v23) = 0 then (some (0 : Int32)) else (some (1 : Int32)))))
set_option maxRecDepth 100000 in
set_option maxHeartbeats 8000000 in
theorem c_X4_isOver (l : Launch) (G : GG) (a : Nat → Nat) (o : Nat) (w : Wh) (out : Int32) (hf : f_X4_isOver w = some out) : Cn l G 1 yX4_isOver cX4_isOver 3 (some .boolean) [.ref (a o)] (bWh G a o w) (some (.int out)) (bWh G a o w) := by
  refine cn_start (by decide) (Nat.le_of_ble_eq_true rfl) ?_
  intro p e s m below meth c A ls C0 hW hl
  have hx := C0.1
  have hb := C0.2.1
  have hl : lv_has ls 3 [(0, .ref (a o))] := hl
  obtain ⟨r, hr⟩ : ∃ r, f_X4_isOver w = some r ∧ r = out := ⟨out, hf, rfl⟩
  replace hf := hr.1
  have hF := hr.2
  clear hr
  unfold f_X4_isOver at hf
  refine lv_aload_n hx hb dX4_isOver_0 rfl (lv_at hl 0 rfl) ?_
  obtain ⟨q1, hq1⟩ := ob_s hf
  replace hf := hq1.2
  replace hq1 := hq1.1
  refine cW1 (rest := []) (ws1 := (bWh G a o w)) (st1 := [.int q1]) C0 hW hl.1 (c_X4_goneOnes l G a o w _ hq1) cb_X4_goneOnes mm_X4_59 rfl 0 4 rfl rfl rfl (by decide) rfl rfl (Nat.le_of_ble_eq_true rfl) ⟨Nat.zero_le _, Nat.zero_le _⟩ dX4_isOver_1 rfl (fun H locs hW => ?_)
  refine lv_istore_n (lv' := [(1, .int q1), (0, .ref (a o))]) hx hb dX4_isOver_4 rfl hl (by decide) rfl (fun ls hl => ?_)
  refine lv_iload_n hx hb dX4_isOver_5 rfl (lv_at hl 0 rfl) ?_
  refine lv_if_ne (tgt := 11) hx hb dX4_isOver_6 (by decide) (fun c6_1 => ?_) (fun c6_1 => ?_)
  · replace hf := if_f c6_1 hf
    refine lv_iload_n hx hb dX4_isOver_11 rfl (lv_at hl 0 rfl) ?_
    refine lv_iconst (v := 1) hx hb dX4_isOver_12 (by decide) ?_
    refine lv_ishl hx hb dX4_isOver_13 ?_
    refine lv_iload_n hx hb dX4_isOver_14 rfl (lv_at hl 0 rfl) ?_
    refine lv_aload_n hx hb dX4_isOver_15 rfl (lv_at hl 1 rfl) ?_
    refine k_get C0 hW 4 5 0 (v := .int (wh_spokes w)) rfl (by decide) inX4 mf_X4_33 rfl rfl dX4_isOver_16 ?_
    refine lv_iconst (v := 1) hx hb dX4_isOver_19 (by decide) ?_
    refine lv_isub hx hb dX4_isOver_20 ?_
    refine lv_ishr hx hb dX4_isOver_21 ?_
    refine lv_ior hx hb dX4_isOver_22 ?_
    refine lv_topi (fun v23 ev23 => ?_)
    replace hf := nm_s ev23 hf
    refine lv_istore_n (lv' := [(2, .int v23), (1, .int q1), (0, .ref (a o))]) hx hb dX4_isOver_23 rfl hl (by decide) rfl (fun ls hl => ?_)
    refine lv_iload_n hx hb dX4_isOver_24 rfl (lv_at hl 1 rfl) ?_
    refine lv_iload_n hx hb dX4_isOver_25 rfl (lv_at hl 0 rfl) ?_
    refine lv_iand hx hb dX4_isOver_26 ?_
    refine lv_if_eq (tgt := 34) hx hb dX4_isOver_27 (by decide) (fun c27_3 => ?_) (fun c27_3 => ?_)
    · replace hf := if_t c27_3 hf
      refine lv_iconst (v := 0) hx hb dX4_isOver_34 (by decide) ?_
      have e1 := Option.some.inj hf
      subst e1
      have hF : ((0 : Int32) : Int32) = out := hF
      subst hF
      exact k_zret C0 hW rfl dX4_isOver_35
    · replace hf := if_f c27_3 hf
      refine lv_iconst (v := 1) hx hb dX4_isOver_30 (by decide) ?_
      refine lv_goto (tgt := 35) hx hb dX4_isOver_31 (by decide) ?_
      have e1 := Option.some.inj hf
      subst e1
      have hF : ((1 : Int32) : Int32) = out := hF
      subst hF
      exact k_zret C0 hW rfl dX4_isOver_35
  · replace hf := if_t c6_1 hf
    refine lv_iconst (v := 0) hx hb dX4_isOver_9 (by decide) ?_
    have e1 := Option.some.inj hf
    subst e1
    have hF : ((0 : Int32) : Int32) = out := hF
    subst hF
    exact k_zret C0 hW rfl dX4_isOver_10

def f_X4_depth (w : Wh) : Option (Int32) :=
  gd (inb ((wh_rut w) &&& (7 : Int32)) 8) (some ((wh_depths w) (ix ((wh_rut w) &&& (7 : Int32)))))
set_option maxRecDepth 100000 in
set_option maxHeartbeats 8000000 in
theorem c_X4_depth (l : Launch) (G : GG) (a : Nat → Nat) (o : Nat) (w : Wh) (out : Int32) (hf : f_X4_depth w = some out) : Cn l G 0 yX4_depth cX4_depth 1 (some .int) [.ref (a o)] (bWh G a o w) (some (.int out)) (bWh G a o w) := by
  refine cn_start (by decide) (Nat.le_of_ble_eq_true rfl) ?_
  intro p e s m below meth c A ls C0 hW hl
  have hx := C0.1
  have hb := C0.2.1
  have hl : lv_has ls 1 [(0, .ref (a o))] := hl
  obtain ⟨r, hr⟩ : ∃ r, f_X4_depth w = some r ∧ r = out := ⟨out, hf, rfl⟩
  replace hf := hr.1
  have hF := hr.2
  clear hr
  unfold f_X4_depth at hf
  refine lv_aload_n hx hb dX4_depth_0 rfl (lv_at hl 0 rfl) ?_
  refine k_get C0 hW 4 0 0 (v := .ref (a (o + 1))) rfl (by decide) inX4 mf_X4_9 rfl rfl dX4_depth_1 ?_
  refine lv_aload_n hx hb dX4_depth_4 rfl (lv_at hl 0 rfl) ?_
  refine k_get C0 hW 4 8 0 (v := .int (wh_rut w)) rfl (by decide) inX4 mf_X4_43 rfl rfl dX4_depth_5 ?_
  refine lv_bipush (v := 7) hx hb dX4_depth_8 (by decide) ?_
  refine lv_iand hx hb dX4_depth_10 ?_
  have g11_1 := (gd_some hf).1; replace hf := (gd_some hf).2
  refine k_iald C0 hW 1 (ix ((wh_rut w) &&& (7 : Int32))) rfl (inb_in g11_1) rfl dX4_depth_11 ?_
  have e1 := Option.some.inj hf
  subst e1
  have hF : (((wh_depths w) (ix ((wh_rut w) &&& (7 : Int32)))) : Int32) = out := hF
  subst hF
  exact k_iret C0 hW dX4_depth_12

def f_X4_isThere (w : Wh) (x1 : Int32) : Option (Int32) :=
  if ((jshr (wh_there w) x1) &&& (1 : Int32)) = (1 : Int32) then (some (1 : Int32)) else (some (0 : Int32))
set_option maxRecDepth 100000 in
set_option maxHeartbeats 8000000 in
theorem c_X4_isThere (l : Launch) (G : GG) (a : Nat → Nat) (o : Nat) (w : Wh) (x1 : Int32) (out : Int32) (hf : f_X4_isThere w x1 = some out) : Cn l G 0 yX4_isThere cX4_isThere 2 (some .boolean) [.ref (a o), .int x1] (bWh G a o w) (some (.int out)) (bWh G a o w) := by
  refine cn_start (by decide) (Nat.le_of_ble_eq_true rfl) ?_
  intro p e s m below meth c A ls C0 hW hl
  have hx := C0.1
  have hb := C0.2.1
  have hl : lv_has ls 2 [(0, .ref (a o)), (1, .int x1)] := hl
  obtain ⟨r, hr⟩ : ∃ r, f_X4_isThere w x1 = some r ∧ r = out := ⟨out, hf, rfl⟩
  replace hf := hr.1
  have hF := hr.2
  clear hr
  unfold f_X4_isThere at hf
  refine lv_aload_n hx hb dX4_isThere_0 rfl (lv_at hl 0 rfl) ?_
  refine k_get C0 hW 4 9 0 (v := .int (wh_there w)) rfl (by decide) inX4 mf_X4_46 rfl rfl dX4_isThere_1 ?_
  refine lv_iload_n hx hb dX4_isThere_4 rfl (lv_at hl 1 rfl) ?_
  refine lv_ishr hx hb dX4_isThere_5 ?_
  refine lv_iconst (v := 1) hx hb dX4_isThere_6 (by decide) ?_
  refine lv_iand hx hb dX4_isThere_7 ?_
  refine lv_iconst (v := 1) hx hb dX4_isThere_8 (by decide) ?_
  refine lv_icmp_ne (tgt := 16) hx hb dX4_isThere_9 (by decide) (fun c9_1 => ?_) (fun c9_1 => ?_)
  · replace hf := if_f c9_1 hf
    refine lv_iconst (v := 0) hx hb dX4_isThere_16 (by decide) ?_
    have e1 := Option.some.inj hf
    subst e1
    have hF : ((0 : Int32) : Int32) = out := hF
    subst hF
    exact k_zret C0 hW rfl dX4_isThere_17
  · replace hf := if_t c9_1 hf
    refine lv_iconst (v := 1) hx hb dX4_isThere_12 (by decide) ?_
    refine lv_goto (tgt := 17) hx hb dX4_isThere_13 (by decide) ?_
    have e1 := Option.some.inj hf
    subst e1
    have hF : ((1 : Int32) : Int32) = out := hF
    subst hF
    exact k_zret C0 hW rfl dX4_isThere_17

def f_X5_feltWear (x0 : Int32) (x1 : Int32) (x2 : Int32) : Option (Int32) :=
  if x0 = 3 then (some (x1 / (2 : Int32))) else if x0 = 4 then (some (0 : Int32)) else if x0 = 5 then (if x2 = 0 then (some (0 : Int32)) else (some x1)) else some x1
set_option maxRecDepth 100000 in
set_option maxHeartbeats 8000000 in
theorem c_X5_feltWear (l : Launch) (G : GG) (x0 : Int32) (x1 : Int32) (x2 : Int32) (out : Int32) (hf : f_X5_feltWear x0 x1 x2 = some out) : Cn l G 0 yX5_feltWear cX5_feltWear 3 (some .int) [.int x0, .int x1, .int x2] ([] : va_W) (some (.int out)) ([] : va_W) := by
  refine cn_start (by decide) (Nat.le_of_ble_eq_true rfl) ?_
  intro p e s m below meth c A ls C0 hW hl
  have hx := C0.1
  have hb := C0.2.1
  have hl : lv_has ls 3 [(0, .int x0), (1, .int x1), (2, .int x2)] := hl
  obtain ⟨r, hr⟩ : ∃ r, f_X5_feltWear x0 x1 x2 = some r ∧ r = out := ⟨out, hf, rfl⟩
  replace hf := hr.1
  have hF := hr.2
  clear hr
  unfold f_X5_feltWear at hf
  refine lv_iload_n hx hb dX5_feltWear_0 rfl (lv_at hl 0 rfl) ?_
  by_cases c1_1 : x0 = 3
  · replace hf := if_t c1_1 hf
    refine lv_tableIn (off := 27) (tgt := 28) hx hb dX5_feltWear_1 (by rw [c1_1]; decide) (by rw [c1_1]; decide) (by rw [c1_1]; rfl) (by decide) ?_
    refine lv_iload_n hx hb dX5_feltWear_28 rfl (lv_at hl 1 rfl) ?_
    refine lv_iconst (v := 2) hx hb dX5_feltWear_29 (by decide) ?_
    refine lv_idiv hx hb dX5_feltWear_30 (by decide) ?_
    have e1 := Option.some.inj hf
    subst e1
    have hF : ((x1 / (2 : Int32)) : Int32) = out := hF
    subst hF
    exact k_iret C0 hW dX5_feltWear_31
  replace hf := if_f c1_1 hf
  by_cases c1_2 : x0 = 4
  · replace hf := if_t c1_2 hf
    refine lv_tableIn (off := 31) (tgt := 32) hx hb dX5_feltWear_1 (by rw [c1_2]; decide) (by rw [c1_2]; decide) (by rw [c1_2]; rfl) (by decide) ?_
    refine lv_iconst (v := 0) hx hb dX5_feltWear_32 (by decide) ?_
    have e1 := Option.some.inj hf
    subst e1
    have hF : ((0 : Int32) : Int32) = out := hF
    subst hF
    exact k_iret C0 hW dX5_feltWear_33
  replace hf := if_f c1_2 hf
  by_cases c1_3 : x0 = 5
  · replace hf := if_t c1_3 hf
    refine lv_tableIn (off := 33) (tgt := 34) hx hb dX5_feltWear_1 (by rw [c1_3]; decide) (by rw [c1_3]; decide) (by rw [c1_3]; rfl) (by decide) ?_
    refine lv_iload_n hx hb dX5_feltWear_34 rfl (lv_at hl 2 rfl) ?_
    refine lv_if_eq (tgt := 42) hx hb dX5_feltWear_35 (by decide) (fun c35_4 => ?_) (fun c35_4 => ?_)
    · replace hf := if_t c35_4 hf
      refine lv_iconst (v := 0) hx hb dX5_feltWear_42 (by decide) ?_
      have e1 := Option.some.inj hf
      subst e1
      have hF : ((0 : Int32) : Int32) = out := hF
      subst hF
      exact k_iret C0 hW dX5_feltWear_43
    · replace hf := if_f c35_4 hf
      refine lv_iload_n hx hb dX5_feltWear_38 rfl (lv_at hl 1 rfl) ?_
      refine lv_goto (tgt := 43) hx hb dX5_feltWear_39 (by decide) ?_
      have e1 := Option.some.inj hf
      subst e1
      have hF : (x1 : Int32) = out := hF
      subst hF
      exact k_iret C0 hW dX5_feltWear_43
  replace hf := if_f c1_3 hf
  refine lv_tableOut (tgt := 44) hx hb dX5_feltWear_1 (by have := lv_neT c1_1 (show (3 : Int32).toInt = 3 from rfl); have := lv_neT c1_2 (show (4 : Int32).toInt = 4 from rfl); have := lv_neT c1_3 (show (5 : Int32).toInt = 5 from rfl); omega) (by decide) ?_
  refine lv_iload_n hx hb dX5_feltWear_44 rfl (lv_at hl 1 rfl) ?_
  have e1 := Option.some.inj hf
  subst e1
  have hF : (x1 : Int32) = out := hF
  subst hF
  exact k_iret C0 hW dX5_feltWear_45

def f_X5_bearing (x0 : Int32) (x1 : Int32) (x2 : Int32) (x3 : Int32) (x4 : Int32) : Option (Int32) :=
  Option.bind (f_X5_feltWear x0 x2 x4) (fun q8 => nm (jmax (0 : Int32) (((2 : Int32) * x1) - q8)) (fun v15 => if x0 = 1 then (some (v15 / (2 : Int32))) else if x0 = 2 then (if x3 < (5 : Int32) then (some v15) else (some (v15 + (3 : Int32)))) else if x0 = 3 then (if x3 < (5 : Int32) then (some v15) else (some (v15 + (3 : Int32)))) else some v15))
set_option maxRecDepth 100000 in
set_option maxHeartbeats 8000000 in
theorem c_X5_bearing (l : Launch) (G : GG) (x0 : Int32) (x1 : Int32) (x2 : Int32) (x3 : Int32) (x4 : Int32) (out : Int32) (hf : f_X5_bearing x0 x1 x2 x3 x4 = some out) : Cn l G 1 yX5_bearing cX5_bearing 6 (some .int) [.int x0, .int x1, .int x2, .int x3, .int x4] ([] : va_W) (some (.int out)) ([] : va_W) := by
  refine cn_start (by decide) (Nat.le_of_ble_eq_true rfl) ?_
  intro p e s m below meth c A ls C0 hW hl
  have hx := C0.1
  have hb := C0.2.1
  have hl : lv_has ls 6 [(0, .int x0), (1, .int x1), (2, .int x2), (3, .int x3), (4, .int x4)] := hl
  obtain ⟨r, hr⟩ : ∃ r, f_X5_bearing x0 x1 x2 x3 x4 = some r ∧ r = out := ⟨out, hf, rfl⟩
  replace hf := hr.1
  have hF := hr.2
  clear hr
  unfold f_X5_bearing at hf
  refine lv_iconst (v := 0) hx hb dX5_bearing_0 (by decide) ?_
  refine lv_iconst (v := 2) hx hb dX5_bearing_1 (by decide) ?_
  refine lv_iload_n hx hb dX5_bearing_2 rfl (lv_at hl 1 rfl) ?_
  refine lv_imul hx hb dX5_bearing_3 ?_
  refine lv_iload_n hx hb dX5_bearing_4 rfl (lv_at hl 0 rfl) ?_
  refine lv_iload_n hx hb dX5_bearing_5 rfl (lv_at hl 2 rfl) ?_
  refine lv_iload hx hb dX5_bearing_6 (lv_at hl 4 rfl) ?_
  obtain ⟨q8, hq8⟩ := ob_s hf
  replace hf := hq8.2
  replace hq8 := hq8.1
  refine cS0 (rest := [.int ((2 : Int32) * x1), .int (0 : Int32)]) (st1 := [.int q8, .int ((2 : Int32) * x1), .int (0 : Int32)]) C0 hW hl.1 (c_X5_feltWear l G x0 x2 x4 _ hq8) cb_X5_feltWear mm_X5_338 [] rfl rfl (by decide) rfl rfl (Nat.le_of_ble_eq_true rfl) ⟨Nat.zero_le _, Nat.zero_le _⟩ dX5_bearing_8 rfl (fun H locs hW => ?_)
  refine lv_isub hx hb dX5_bearing_11 ?_
  refine k_max C0 hl.1 mm_X5_310 (by decide) (Nat.le_of_ble_eq_true rfl) dX5_bearing_12 ?_
  refine lv_topi (fun v15 ev15 => ?_)
  replace hf := nm_s ev15 hf
  refine lv_istore (lv' := [(5, .int v15), (0, .int x0), (1, .int x1), (2, .int x2), (3, .int x3), (4, .int x4)]) hx hb dX5_bearing_15 hl (by decide) rfl (fun ls hl => ?_)
  refine lv_iload_n hx hb dX5_bearing_17 rfl (lv_at hl 1 rfl) ?_
  by_cases c18_2 : x0 = 1
  · replace hf := if_t c18_2 hf
    refine lv_tableIn (off := 26) (tgt := 44) hx hb dX5_bearing_18 (by rw [c18_2]; decide) (by rw [c18_2]; decide) (by rw [c18_2]; rfl) (by decide) ?_
    refine lv_iload hx hb dX5_bearing_44 (lv_at hl 0 rfl) ?_
    refine lv_iconst (v := 2) hx hb dX5_bearing_46 (by decide) ?_
    refine lv_idiv hx hb dX5_bearing_47 (by decide) ?_
    have e1 := Option.some.inj hf
    subst e1
    have hF : ((v15 / (2 : Int32)) : Int32) = out := hF
    subst hF
    exact k_iret C0 hW dX5_bearing_48
  replace hf := if_f c18_2 hf
  by_cases c18_3 : x0 = 2
  · replace hf := if_t c18_3 hf
    refine lv_tableIn (off := 31) (tgt := 49) hx hb dX5_bearing_18 (by rw [c18_3]; decide) (by rw [c18_3]; decide) (by rw [c18_3]; rfl) (by decide) ?_
    refine lv_iload_n hx hb dX5_bearing_49 rfl (lv_at hl 4 rfl) ?_
    refine lv_iconst (v := 5) hx hb dX5_bearing_50 (by decide) ?_
    refine lv_icmp_lt (tgt := 61) hx hb dX5_bearing_51 (by decide) (fun c51_4 => ?_) (fun c51_4 => ?_)
    · replace hf := if_t c51_4 hf
      refine lv_iload hx hb dX5_bearing_61 (lv_at hl 0 rfl) ?_
      have e1 := Option.some.inj hf
      subst e1
      have hF : (v15 : Int32) = out := hF
      subst hF
      exact k_iret C0 hW dX5_bearing_63
    · replace hf := if_f c51_4 hf
      refine lv_iload hx hb dX5_bearing_54 (lv_at hl 0 rfl) ?_
      refine lv_iconst (v := 3) hx hb dX5_bearing_56 (by decide) ?_
      refine lv_iadd hx hb dX5_bearing_57 ?_
      refine lv_goto (tgt := 63) hx hb dX5_bearing_58 (by decide) ?_
      have e1 := Option.some.inj hf
      subst e1
      have hF : ((v15 + (3 : Int32)) : Int32) = out := hF
      subst hF
      exact k_iret C0 hW dX5_bearing_63
  replace hf := if_f c18_3 hf
  by_cases c18_5 : x0 = 3
  · replace hf := if_t c18_5 hf
    refine lv_tableIn (off := 31) (tgt := 49) hx hb dX5_bearing_18 (by rw [c18_5]; decide) (by rw [c18_5]; decide) (by rw [c18_5]; rfl) (by decide) ?_
    refine lv_iload_n hx hb dX5_bearing_49 rfl (lv_at hl 4 rfl) ?_
    refine lv_iconst (v := 5) hx hb dX5_bearing_50 (by decide) ?_
    refine lv_icmp_lt (tgt := 61) hx hb dX5_bearing_51 (by decide) (fun c51_6 => ?_) (fun c51_6 => ?_)
    · replace hf := if_t c51_6 hf
      refine lv_iload hx hb dX5_bearing_61 (lv_at hl 0 rfl) ?_
      have e1 := Option.some.inj hf
      subst e1
      have hF : (v15 : Int32) = out := hF
      subst hF
      exact k_iret C0 hW dX5_bearing_63
    · replace hf := if_f c51_6 hf
      refine lv_iload hx hb dX5_bearing_54 (lv_at hl 0 rfl) ?_
      refine lv_iconst (v := 3) hx hb dX5_bearing_56 (by decide) ?_
      refine lv_iadd hx hb dX5_bearing_57 ?_
      refine lv_goto (tgt := 63) hx hb dX5_bearing_58 (by decide) ?_
      have e1 := Option.some.inj hf
      subst e1
      have hF : ((v15 + (3 : Int32)) : Int32) = out := hF
      subst hF
      exact k_iret C0 hW dX5_bearing_63
  replace hf := if_f c18_5 hf
  refine lv_tableOut (tgt := 64) hx hb dX5_bearing_18 (by have := lv_neT c18_2 (show (1 : Int32).toInt = 1 from rfl); have := lv_neT c18_3 (show (2 : Int32).toInt = 2 from rfl); have := lv_neT c18_5 (show (3 : Int32).toInt = 3 from rfl); omega) (by decide) ?_
  refine lv_iload hx hb dX5_bearing_64 (lv_at hl 0 rfl) ?_
  have e1 := Option.some.inj hf
  subst e1
  have hF : (v15 : Int32) = out := hF
  subst hF
  exact k_iret C0 hW dX5_bearing_66

def f_X4_roll_J152 (w : Wh) (x3 : Int32) (t1 : Int32) : Option (Int32 × Wh) :=
  if x3 = 0 then (some ((1 : Int32), (wh_set_stand w t1))) else (some ((0 : Int32), (wh_set_stand w t1)))
def f_X4_roll_J124 (w : Wh) (x1 : Int32) (x3 : Int32) : Option (Int32 × Wh) :=
  if (wh_spokes w) ≤ (x1 + (1 : Int32)) then (f_X4_roll_J152 (wh_set_rut w ((wh_rut w) + (1 : Int32))) x3 (0 : Int32)) else (f_X4_roll_J152 (wh_set_rut w ((wh_rut w) + (1 : Int32))) x3 (x1 + (1 : Int32)))
def f_X4_roll_J105 (w : Wh) (x1 : Int32) (x3 : Int32) : Option (Int32 × Wh) :=
  gd (inb x1 8) (gd (inb x1 8) (f_X4_roll_J124 (wh_set_wear w (upd (wh_wear w) (ix x1) (jmin (30 : Int32) (((wh_wear w) (ix x1)) + (1 : Int32))))) x1 x3))
def f_X4_roll_J84 (w : Wh) (x1 : Int32) (x3 : Int32) : Option (Int32 × Wh) :=
  if x3 = 0 then (f_X4_roll_J124 w x1 x3) else (if (wh_dry w) = 0 then (if ((wh_rut w) &&& (1 : Int32)) = (1 : Int32) then (f_X4_roll_J105 w x1 x3) else (f_X4_roll_J124 w x1 x3)) else (f_X4_roll_J105 w x1 x3))
def f_X4_roll_J33 (w : Wh) (x1 : Int32) (x2 : Int32) (t0 : Int32) : Option (Int32 × Wh) :=
  if t0 = 0 then (f_X4_roll_J84 w x1 t0) else (gd (inb x1 8) (gd (inb x1 8) (gd (inb x1 8) (Option.bind (f_X5_bearing ((wh_kind w) (ix x1)) ((wh_strong w) (ix x1)) ((wh_wear w) (ix x1)) x2 (wh_dry w)) (fun q61 => if x2 ≤ q61 then (f_X4_roll_J84 w x1 t0) else (f_X4_roll_J84 (wh_set_there w ((wh_there w) &&& ((jshl (1 : Int32) x1) ^^^ (-1 : Int32)))) x1 (0 : Int32)))))))
def f_X4_roll_J32 (w : Wh) (x1 : Int32) (x2 : Int32) : Option (Int32 × Wh) :=
  f_X4_roll_J33 w x1 x2 (0 : Int32)
def f_X4_roll (w : Wh) : Option (Int32 × Wh) :=
  Option.bind (f_X4_depth w) (fun q6 => Option.bind (f_X4_isThere w (wh_stand w)) (fun q12 => if q12 = 0 then (f_X4_roll_J32 w (wh_stand w) q6) else (gd (inb (wh_stand w) 8) (if ((wh_length w) (ix (wh_stand w))) < q6 then (f_X4_roll_J32 w (wh_stand w) q6) else (f_X4_roll_J33 w (wh_stand w) q6 (1 : Int32))))))
set_option maxRecDepth 100000 in
set_option maxHeartbeats 8000000 in
theorem c_X4_roll (l : Launch) (G : GG) (a : Nat → Nat) (o : Nat) (w : Wh) (out : Int32 × Wh) (hf : f_X4_roll w = some out) : Cn l G 2 yX4_roll cX4_roll 4 (some .boolean) [.ref (a o)] (bWh G a o w) (some (.int out.1)) (bWh G a o out.2) := by
  refine cn_start (by decide) (Nat.le_of_ble_eq_true rfl) ?_
  intro p e s m below meth c A ls C0 hW hl
  have hx := C0.1
  have hb := C0.2.1
  have hl : lv_has ls 4 [(0, .ref (a o))] := hl
  have J152 : ∀ (x3 : Int32) (t1 : Int32) (w : Wh) (r : Int32 × Wh), f_X4_roll_J152 w x3 t1 = some r → (fun (r : Int32 × Wh) => r = out) r → ∀ (H : Heap) (locs : List Loc) (ls : Array Slot), Wd G A s.heap H (bWh G a o w) locs → lv_has ls 4 [(3, .int x3)] → WW p l e 2 s m [.ref (a o)] below meth c G A (some (.int out.1)) ((bWh G a o out.2)) H locs 152 ls [.int t1, .ref (a o)] := by
    intro x3 t1 w r hf hF H locs ls hW hl
    unfold f_X4_roll_J152 at hf
    refine k_put C0 hW 4 7 0 rfl (by decide) inX4 tyX4_ok nmX4 mf_X4_40 rfl rfl rfl rfl (Nat.le_of_ble_eq_true rfl) dX4_roll_152 (fun H locs hW => ?_)
    have hW : Wd G A s.heap H (bWh G a o (wh_set_stand w t1)) locs := hW
    refine lv_iload_n hx hb dX4_roll_155 rfl (lv_at hl 0 rfl) ?_
    refine lv_if_ne (tgt := 163) hx hb dX4_roll_156 (by decide) (fun c156_5 => ?_) (fun c156_5 => ?_)
    · replace hf := if_f c156_5 hf
      refine lv_iconst (v := 0) hx hb dX4_roll_163 (by decide) ?_
      have e1 := Option.some.inj hf
      subst e1
      have hF : (((0 : Int32), (wh_set_stand w t1)) : Int32 × Wh) = out := hF
      subst hF
      exact k_zret C0 hW rfl dX4_roll_164
    · replace hf := if_t c156_5 hf
      refine lv_iconst (v := 1) hx hb dX4_roll_159 (by decide) ?_
      refine lv_goto (tgt := 164) hx hb dX4_roll_160 (by decide) ?_
      have e1 := Option.some.inj hf
      subst e1
      have hF : (((1 : Int32), (wh_set_stand w t1)) : Int32 × Wh) = out := hF
      subst hF
      exact k_zret C0 hW rfl dX4_roll_164
  have J124 : ∀ (x1 : Int32) (x3 : Int32) (w : Wh) (r : Int32 × Wh), f_X4_roll_J124 w x1 x3 = some r → (fun (r : Int32 × Wh) => r = out) r → ∀ (H : Heap) (locs : List Loc) (ls : Array Slot), Wd G A s.heap H (bWh G a o w) locs → lv_has ls 4 [(0, .ref (a o)), (1, .int x1), (3, .int x3)] → WW p l e 2 s m [.ref (a o)] below meth c G A (some (.int out.1)) ((bWh G a o out.2)) H locs 124 ls [] := by
    intro x1 x3 w r hf hF H locs ls hW hl
    unfold f_X4_roll_J124 at hf
    refine lv_aload_n hx hb dX4_roll_124 rfl (lv_at hl 0 rfl) ?_
    refine lv_dup hx hb dX4_roll_125 rfl ?_
    refine k_get C0 hW 4 8 0 (v := .int (wh_rut w)) rfl (by decide) inX4 mf_X4_43 rfl rfl dX4_roll_126 ?_
    refine lv_iconst (v := 1) hx hb dX4_roll_129 (by decide) ?_
    refine lv_iadd hx hb dX4_roll_130 ?_
    refine k_put C0 hW 4 8 0 rfl (by decide) inX4 tyX4_ok nmX4 mf_X4_43 rfl rfl rfl rfl (Nat.le_of_ble_eq_true rfl) dX4_roll_131 (fun H locs hW => ?_)
    have hW : Wd G A s.heap H (bWh G a o (wh_set_rut w ((wh_rut w) + (1 : Int32)))) locs := hW
    refine lv_aload_n hx hb dX4_roll_134 rfl (lv_at hl 0 rfl) ?_
    refine lv_iload_n hx hb dX4_roll_135 rfl (lv_at hl 1 rfl) ?_
    refine lv_iconst (v := 1) hx hb dX4_roll_136 (by decide) ?_
    refine lv_iadd hx hb dX4_roll_137 ?_
    refine lv_aload_n hx hb dX4_roll_138 rfl (lv_at hl 0 rfl) ?_
    refine k_get C0 hW 4 5 0 (v := .int (wh_spokes w)) rfl (by decide) inX4 mf_X4_33 rfl rfl dX4_roll_139 ?_
    refine lv_icmp_ge (tgt := 151) hx hb dX4_roll_142 (by decide) (fun c142_4 => ?_) (fun c142_4 => ?_)
    · replace hf := if_t c142_4 hf
      refine lv_iconst (v := 0) hx hb dX4_roll_151 (by decide) ?_
      exact J152 _ _ _ _ hf hF _ _ _ hW (lv_sub hl [2] rfl)
    · replace hf := if_f c142_4 hf
      refine lv_iload_n hx hb dX4_roll_145 rfl (lv_at hl 1 rfl) ?_
      refine lv_iconst (v := 1) hx hb dX4_roll_146 (by decide) ?_
      refine lv_iadd hx hb dX4_roll_147 ?_
      refine lv_goto (tgt := 152) hx hb dX4_roll_148 (by decide) ?_
      exact J152 _ _ _ _ hf hF _ _ _ hW (lv_sub hl [2] rfl)
  have J105 : ∀ (x1 : Int32) (x3 : Int32) (w : Wh) (r : Int32 × Wh), f_X4_roll_J105 w x1 x3 = some r → (fun (r : Int32 × Wh) => r = out) r → ∀ (H : Heap) (locs : List Loc) (ls : Array Slot), Wd G A s.heap H (bWh G a o w) locs → lv_has ls 4 [(0, .ref (a o)), (1, .int x1), (3, .int x3)] → WW p l e 2 s m [.ref (a o)] below meth c G A (some (.int out.1)) ((bWh G a o out.2)) H locs 105 ls [] := by
    intro x1 x3 w r hf hF H locs ls hW hl
    unfold f_X4_roll_J105 at hf
    refine lv_aload_n hx hb dX4_roll_105 rfl (lv_at hl 0 rfl) ?_
    refine k_get C0 hW 4 4 0 (v := .ref (a (o + 5))) rfl (by decide) inX4 mf_X4_24 rfl rfl dX4_roll_106 ?_
    refine lv_iload_n hx hb dX4_roll_109 rfl (lv_at hl 1 rfl) ?_
    refine lv_bipush (v := 30) hx hb dX4_roll_110 (by decide) ?_
    refine lv_aload_n hx hb dX4_roll_112 rfl (lv_at hl 0 rfl) ?_
    refine k_get C0 hW 4 4 0 (v := .ref (a (o + 5))) rfl (by decide) inX4 mf_X4_24 rfl rfl dX4_roll_113 ?_
    refine lv_iload_n hx hb dX4_roll_116 rfl (lv_at hl 1 rfl) ?_
    have g117_7 := (gd_some hf).1; replace hf := (gd_some hf).2
    refine k_iald C0 hW 5 (ix x1) rfl (inb_in g117_7) rfl dX4_roll_117 ?_
    refine lv_iconst (v := 1) hx hb dX4_roll_118 (by decide) ?_
    refine lv_iadd hx hb dX4_roll_119 ?_
    refine k_min C0 hl.1 mm_X4_99 (by decide) (Nat.le_of_ble_eq_true rfl) dX4_roll_120 ?_
    have g123_8 := (gd_some hf).1; replace hf := (gd_some hf).2
    refine k_iast C0 hW 5 (ix x1) rfl (inb_in g123_8) rfl dX4_roll_123 (fun H locs hW => ?_)
    have hW : Wd G A s.heap H (bWh G a o (wh_set_wear w (upd (wh_wear w) (ix x1) (jmin (30 : Int32) (((wh_wear w) (ix x1)) + (1 : Int32)))))) locs := hW
    exact J124 _ _ _ _ hf hF _ _ _ hW (lv_sub hl [0, 1, 2] rfl)
  have J84 : ∀ (x1 : Int32) (x3 : Int32) (w : Wh) (r : Int32 × Wh), f_X4_roll_J84 w x1 x3 = some r → (fun (r : Int32 × Wh) => r = out) r → ∀ (H : Heap) (locs : List Loc) (ls : Array Slot), Wd G A s.heap H (bWh G a o w) locs → lv_has ls 4 [(0, .ref (a o)), (1, .int x1), (3, .int x3)] → WW p l e 2 s m [.ref (a o)] below meth c G A (some (.int out.1)) ((bWh G a o out.2)) H locs 84 ls [] := by
    intro x1 x3 w r hf hF H locs ls hW hl
    unfold f_X4_roll_J84 at hf
    refine lv_iload_n hx hb dX4_roll_84 rfl (lv_at hl 2 rfl) ?_
    refine lv_if_eq (tgt := 124) hx hb dX4_roll_85 (by decide) (fun c85_3 => ?_) (fun c85_3 => ?_)
    · replace hf := if_t c85_3 hf
      exact J124 _ _ _ _ hf hF _ _ _ hW (lv_sub hl [0, 1, 2] rfl)
    · replace hf := if_f c85_3 hf
      refine lv_aload_n hx hb dX4_roll_88 rfl (lv_at hl 0 rfl) ?_
      refine k_get C0 hW 4 10 0 (v := .int (wh_dry w)) rfl (by decide) inX4 mf_X4_49 rfl rfl dX4_roll_89 ?_
      refine lv_if_ne (tgt := 105) hx hb dX4_roll_92 (by decide) (fun c92_6 => ?_) (fun c92_6 => ?_)
      · replace hf := if_f c92_6 hf
        exact J105 _ _ _ _ hf hF _ _ _ hW (lv_sub hl [0, 1, 2] rfl)
      · replace hf := if_t c92_6 hf
        refine lv_aload_n hx hb dX4_roll_95 rfl (lv_at hl 0 rfl) ?_
        refine k_get C0 hW 4 8 0 (v := .int (wh_rut w)) rfl (by decide) inX4 mf_X4_43 rfl rfl dX4_roll_96 ?_
        refine lv_iconst (v := 1) hx hb dX4_roll_99 (by decide) ?_
        refine lv_iand hx hb dX4_roll_100 ?_
        refine lv_iconst (v := 1) hx hb dX4_roll_101 (by decide) ?_
        refine lv_icmp_ne (tgt := 124) hx hb dX4_roll_102 (by decide) (fun c102_9 => ?_) (fun c102_9 => ?_)
        · replace hf := if_f c102_9 hf
          exact J124 _ _ _ _ hf hF _ _ _ hW (lv_sub hl [0, 1, 2] rfl)
        · replace hf := if_t c102_9 hf
          exact J105 _ _ _ _ hf hF _ _ _ hW (lv_sub hl [0, 1, 2] rfl)
  have J33 : ∀ (x1 : Int32) (x2 : Int32) (t0 : Int32) (w : Wh) (r : Int32 × Wh), f_X4_roll_J33 w x1 x2 t0 = some r → (fun (r : Int32 × Wh) => r = out) r → ∀ (H : Heap) (locs : List Loc) (ls : Array Slot), Wd G A s.heap H (bWh G a o w) locs → lv_has ls 4 [(0, .ref (a o)), (1, .int x1), (2, .int x2)] → WW p l e 2 s m [.ref (a o)] below meth c G A (some (.int out.1)) ((bWh G a o out.2)) H locs 33 ls [.int t0] := by
    intro x1 x2 t0 w r hf hF H locs ls hW hl
    unfold f_X4_roll_J33 at hf
    refine lv_istore_n (lv' := [(3, .int t0), (0, .ref (a o)), (1, .int x1), (2, .int x2)]) hx hb dX4_roll_33 rfl hl (by decide) rfl (fun ls hl => ?_)
    refine lv_iload_n hx hb dX4_roll_34 rfl (lv_at hl 0 rfl) ?_
    refine lv_if_eq (tgt := 84) hx hb dX4_roll_35 (by decide) (fun c35_2 => ?_) (fun c35_2 => ?_)
    · replace hf := if_t c35_2 hf
      exact J84 _ _ _ _ hf hF _ _ _ hW (lv_sub hl [1, 2, 0] rfl)
    · replace hf := if_f c35_2 hf
      refine lv_aload_n hx hb dX4_roll_38 rfl (lv_at hl 1 rfl) ?_
      refine k_get C0 hW 4 1 0 (v := .ref (a (o + 2))) rfl (by decide) inX4 mf_X4_15 rfl rfl dX4_roll_39 ?_
      refine lv_iload_n hx hb dX4_roll_42 rfl (lv_at hl 2 rfl) ?_
      have g43_10 := (gd_some hf).1; replace hf := (gd_some hf).2
      refine k_iald C0 hW 2 (ix x1) rfl (inb_in g43_10) rfl dX4_roll_43 ?_
      refine lv_aload_n hx hb dX4_roll_44 rfl (lv_at hl 1 rfl) ?_
      refine k_get C0 hW 4 3 0 (v := .ref (a (o + 4))) rfl (by decide) inX4 mf_X4_21 rfl rfl dX4_roll_45 ?_
      refine lv_iload_n hx hb dX4_roll_48 rfl (lv_at hl 2 rfl) ?_
      have g49_11 := (gd_some hf).1; replace hf := (gd_some hf).2
      refine k_iald C0 hW 4 (ix x1) rfl (inb_in g49_11) rfl dX4_roll_49 ?_
      refine lv_aload_n hx hb dX4_roll_50 rfl (lv_at hl 1 rfl) ?_
      refine k_get C0 hW 4 4 0 (v := .ref (a (o + 5))) rfl (by decide) inX4 mf_X4_24 rfl rfl dX4_roll_51 ?_
      refine lv_iload_n hx hb dX4_roll_54 rfl (lv_at hl 2 rfl) ?_
      have g55_12 := (gd_some hf).1; replace hf := (gd_some hf).2
      refine k_iald C0 hW 5 (ix x1) rfl (inb_in g55_12) rfl dX4_roll_55 ?_
      refine lv_iload_n hx hb dX4_roll_56 rfl (lv_at hl 3 rfl) ?_
      refine lv_aload_n hx hb dX4_roll_57 rfl (lv_at hl 1 rfl) ?_
      refine k_get C0 hW 4 10 0 (v := .int (wh_dry w)) rfl (by decide) inX4 mf_X4_49 rfl rfl dX4_roll_58 ?_
      obtain ⟨q61, hq61⟩ := ob_s hf
      replace hf := hq61.2
      replace hq61 := hq61.1
      refine cN0 (rest := []) (st1 := [.int q61]) C0 hW hl.1 (c_X5_bearing l G ((wh_kind w) (ix x1)) ((wh_strong w) (ix x1)) ((wh_wear w) (ix x1)) x2 (wh_dry w) _ hq61) cb_X5_bearing mn_X4_66 [] rfl rfl (by decide) rfl rfl (Nat.le_of_ble_eq_true rfl) ⟨Nat.zero_le _, Nat.zero_le _⟩ dX4_roll_61 rfl (fun H locs hW => ?_)
      refine lv_iload_n hx hb dX4_roll_64 rfl (lv_at hl 3 rfl) ?_
      refine lv_icmp_ge (tgt := 84) hx hb dX4_roll_65 (by decide) (fun c65_13 => ?_) (fun c65_13 => ?_)
      · replace hf := if_t c65_13 hf
        exact J84 _ _ _ _ hf hF _ _ _ hW (lv_sub hl [1, 2, 0] rfl)
      · replace hf := if_f c65_13 hf
        refine lv_aload_n hx hb dX4_roll_68 rfl (lv_at hl 1 rfl) ?_
        refine lv_dup hx hb dX4_roll_69 rfl ?_
        refine k_get C0 hW 4 9 0 (v := .int (wh_there w)) rfl (by decide) inX4 mf_X4_46 rfl rfl dX4_roll_70 ?_
        refine lv_iconst (v := 1) hx hb dX4_roll_73 (by decide) ?_
        refine lv_iload_n hx hb dX4_roll_74 rfl (lv_at hl 2 rfl) ?_
        refine lv_ishl hx hb dX4_roll_75 ?_
        refine lv_iconst (v := -1) hx hb dX4_roll_76 (by decide) ?_
        refine lv_ixor hx hb dX4_roll_77 ?_
        refine lv_iand hx hb dX4_roll_78 ?_
        refine k_put C0 hW 4 9 0 rfl (by decide) inX4 tyX4_ok nmX4 mf_X4_46 rfl rfl rfl rfl (Nat.le_of_ble_eq_true rfl) dX4_roll_79 (fun H locs hW => ?_)
        have hW : Wd G A s.heap H (bWh G a o (wh_set_there w ((wh_there w) &&& ((jshl (1 : Int32) x1) ^^^ (-1 : Int32))))) locs := hW
        refine lv_iconst (v := 0) hx hb dX4_roll_82 (by decide) ?_
        refine lv_istore_n (lv' := [(3, .int (0 : Int32)), (0, .ref (a o)), (1, .int x1), (2, .int x2)]) hx hb dX4_roll_83 rfl hl (by decide) rfl (fun ls hl => ?_)
        exact J84 _ _ _ _ hf hF _ _ _ hW (lv_sub hl [1, 2, 0] rfl)
  have J32 : ∀ (x1 : Int32) (x2 : Int32) (w : Wh) (r : Int32 × Wh), f_X4_roll_J32 w x1 x2 = some r → (fun (r : Int32 × Wh) => r = out) r → ∀ (H : Heap) (locs : List Loc) (ls : Array Slot), Wd G A s.heap H (bWh G a o w) locs → lv_has ls 4 [(0, .ref (a o)), (1, .int x1), (2, .int x2)] → WW p l e 2 s m [.ref (a o)] below meth c G A (some (.int out.1)) ((bWh G a o out.2)) H locs 32 ls [] := by
    intro x1 x2 w r hf hF H locs ls hW hl
    unfold f_X4_roll_J32 at hf
    refine lv_iconst (v := 0) hx hb dX4_roll_32 (by decide) ?_
    exact J33 _ _ _ _ _ hf hF _ _ _ hW (lv_sub hl [0, 1, 2] rfl)
  obtain ⟨r, hr⟩ : ∃ r, f_X4_roll w = some r ∧ r = out := ⟨out, hf, rfl⟩
  replace hf := hr.1
  have hF := hr.2
  clear hr
  unfold f_X4_roll at hf
  refine lv_aload_n hx hb dX4_roll_0 rfl (lv_at hl 0 rfl) ?_
  refine k_get C0 hW 4 7 0 (v := .int (wh_stand w)) rfl (by decide) inX4 mf_X4_40 rfl rfl dX4_roll_1 ?_
  refine lv_istore_n (lv' := [(1, .int (wh_stand w)), (0, .ref (a o))]) hx hb dX4_roll_4 rfl hl (by decide) rfl (fun ls hl => ?_)
  refine lv_aload_n hx hb dX4_roll_5 rfl (lv_at hl 1 rfl) ?_
  obtain ⟨q6, hq6⟩ := ob_s hf
  replace hf := hq6.2
  replace hq6 := hq6.1
  refine cW1 (rest := []) (ws1 := (bWh G a o w)) (st1 := [.int q6]) C0 hW hl.1 (c_X4_depth l G a o w _ hq6) cb_X4_depth mm_X4_63 rfl 0 4 rfl rfl rfl (by decide) rfl rfl (Nat.le_of_ble_eq_true rfl) ⟨Nat.zero_le _, Nat.zero_le _⟩ dX4_roll_6 rfl (fun H locs hW => ?_)
  refine lv_istore_n (lv' := [(2, .int q6), (1, .int (wh_stand w)), (0, .ref (a o))]) hx hb dX4_roll_9 rfl hl (by decide) rfl (fun ls hl => ?_)
  refine lv_aload_n hx hb dX4_roll_10 rfl (lv_at hl 2 rfl) ?_
  refine lv_iload_n hx hb dX4_roll_11 rfl (lv_at hl 1 rfl) ?_
  obtain ⟨q12, hq12⟩ := ob_s hf
  replace hf := hq12.2
  replace hq12 := hq12.1
  refine cW1 (rest := []) (ws1 := (bWh G a o w)) (st1 := [.int q12]) C0 hW hl.1 (c_X4_isThere l G a o w (wh_stand w) _ hq12) cb_X4_isThere mm_X4_70 rfl 0 4 rfl rfl rfl (by decide) rfl rfl (Nat.le_of_ble_eq_true rfl) ⟨Nat.zero_le _, Nat.zero_le _⟩ dX4_roll_12 rfl (fun H locs hW => ?_)
  refine lv_if_eq (tgt := 32) hx hb dX4_roll_15 (by decide) (fun c15_1 => ?_) (fun c15_1 => ?_)
  · replace hf := if_t c15_1 hf
    exact J32 _ _ _ _ hf hF _ _ _ hW (lv_sub hl [2, 1, 0] rfl)
  · replace hf := if_f c15_1 hf
    refine lv_aload_n hx hb dX4_roll_18 rfl (lv_at hl 2 rfl) ?_
    refine k_get C0 hW 4 2 0 (v := .ref (a (o + 3))) rfl (by decide) inX4 mf_X4_18 rfl rfl dX4_roll_19 ?_
    refine lv_iload_n hx hb dX4_roll_22 rfl (lv_at hl 1 rfl) ?_
    have g23_14 := (gd_some hf).1; replace hf := (gd_some hf).2
    refine k_iald C0 hW 3 (ix (wh_stand w)) rfl (inb_in g23_14) rfl dX4_roll_23 ?_
    refine lv_iload_n hx hb dX4_roll_24 rfl (lv_at hl 0 rfl) ?_
    refine lv_icmp_lt (tgt := 32) hx hb dX4_roll_25 (by decide) (fun c25_15 => ?_) (fun c25_15 => ?_)
    · replace hf := if_t c25_15 hf
      exact J32 _ _ _ _ hf hF _ _ _ hW (lv_sub hl [2, 1, 0] rfl)
    · replace hf := if_f c25_15 hf
      refine lv_iconst (v := 1) hx hb dX4_roll_28 (by decide) ?_
      refine lv_goto (tgt := 33) hx hb dX4_roll_29 (by decide) ?_
      exact J33 _ _ _ _ _ hf hF _ _ _ hW (lv_sub hl [2, 1, 0] rfl)

def f_X4_limpsIn_J26 (w : Wh) (x1 : Int32) (x2 : Int32) (x3 : Int32) : Option ((Int32 × Int32 × Wh) ⊕ (Int32 × Wh)) :=
  some (Sum.inl (x2, (x3 + (1 : Int32)), w))
def f_X4_limpsIn_J23 (w : Wh) (x1 : Int32) (x2 : Int32) (x3 : Int32) : Option ((Int32 × Int32 × Wh) ⊕ (Int32 × Wh)) :=
  f_X4_limpsIn_J26 w x1 (x2 + (1 : Int32)) x3
def f_X4_limpsIn_B4 (x1 : Int32) (x2 : Int32) (x3 : Int32) (w : Wh) : Option ((Int32 × Int32 × Wh) ⊕ (Int32 × Wh)) :=
  if x1 ≤ x3 then (Option.map Sum.inr (some (x2, w))) else (Option.bind (f_X4_isOver w) (fun q10 => if q10 = 0 then (Option.bind (f_X4_roll w) (fun q17 => if q17.1 = 0 then (f_X4_limpsIn_J26 q17.2 x1 x2 x3) else (f_X4_limpsIn_J23 q17.2 x1 x2 x3))) else (f_X4_limpsIn_J23 w x1 x2 x3)))
def f_X4_limpsIn_L4 (x1 : Int32) (sg : Int32 × Int32 × Wh) : Option ((Int32 × Int32 × Wh) ⊕ (Int32 × Wh)) := f_X4_limpsIn_B4 x1 sg.1 sg.2.1 sg.2.2
def f_X4_limpsIn (w : Wh) (x1 : Int32) : Option (Int32 × Wh) :=
  lp (f_X4_limpsIn_L4 x1) fuel ((0 : Int32), (0 : Int32), w)
set_option maxRecDepth 100000 in
set_option maxHeartbeats 8000000 in
theorem c_X4_limpsIn (l : Launch) (G : GG) (a : Nat → Nat) (o : Nat) (w : Wh) (x1 : Int32) (out : Int32 × Wh) (hf : f_X4_limpsIn w x1 = some out) : Cn l G 3 yX4_limpsIn cX4_limpsIn 4 (some .int) [.ref (a o), .int x1] (bWh G a o w) (some (.int out.1)) (bWh G a o out.2) := by
  refine cn_start (by decide) (Nat.le_of_ble_eq_true rfl) ?_
  intro p e s m below meth c A ls C0 hW hl
  have hx := C0.1
  have hb := C0.2.1
  have hl : lv_has ls 4 [(0, .ref (a o)), (1, .int x1)] := hl
  have L4 : ∀ (k8 : Nat) (sg : Int32 × Int32 × Wh) (o9 : Int32 × Wh), lp (f_X4_limpsIn_L4 x1) k8 sg = some o9 → (fun (r : Int32 × Wh) => r = out) o9 → (fun (sg : Int32 × Int32 × Wh) => ∀ (H : Heap) (locs : List Loc) (ls : Array Slot), Wd G A s.heap H (bWh G a o sg.2.2) locs → lv_has ls 4 [(0, .ref (a o)), (1, .int x1), (2, .int sg.1), (3, .int sg.2.1)] → WW p l e 3 s m [.ref (a o), .int x1] below meth c G A (some (.int out.1)) ((bWh G a o out.2)) H locs 4 ls []) sg := by
    have J26 : ∀ (x2 : Int32) (x3 : Int32) (w : Wh) (r : (Int32 × Int32 × Wh) ⊕ (Int32 × Wh)), f_X4_limpsIn_J26 w x1 x2 x3 = some r → (Sum.elim (fun (sg : Int32 × Int32 × Wh) => ∀ (H : Heap) (locs : List Loc) (ls : Array Slot), Wd G A s.heap H (bWh G a o sg.2.2) locs → lv_has ls 4 [(0, .ref (a o)), (1, .int x1), (2, .int sg.1), (3, .int sg.2.1)] → WW p l e 3 s m [.ref (a o), .int x1] below meth c G A (some (.int out.1)) ((bWh G a o out.2)) H locs 4 ls []) (fun (r : Int32 × Wh) => r = out)) r → ∀ (H : Heap) (locs : List Loc) (ls : Array Slot), Wd G A s.heap H (bWh G a o w) locs → lv_has ls 4 [(0, .ref (a o)), (1, .int x1), (2, .int x2), (3, .int x3)] → WW p l e 3 s m [.ref (a o), .int x1] below meth c G A (some (.int out.1)) ((bWh G a o out.2)) H locs 26 ls [] := by
      intro x2 x3 w r hf hF H locs ls hW hl
      unfold f_X4_limpsIn_J26 at hf
      refine lv_iinc (v := (x3 + (1 : Int32))) (lv' := [(3, .int (x3 + (1 : Int32))), (0, .ref (a o)), (1, .int x1), (2, .int x2)]) hx hb dX4_limpsIn_26 hl (k := 3) rfl rfl (by decide) rfl (fun ls hl => ?_)
      refine lv_goto (tgt := 4) hx hb dX4_limpsIn_29 (by decide) ?_
      have e1 := Option.some.inj hf
      subst e1
      exact (elim_l hF) _ _ _ hW (lv_sub hl [1, 2, 3, 0] rfl)
    have J23 : ∀ (x2 : Int32) (x3 : Int32) (w : Wh) (r : (Int32 × Int32 × Wh) ⊕ (Int32 × Wh)), f_X4_limpsIn_J23 w x1 x2 x3 = some r → (Sum.elim (fun (sg : Int32 × Int32 × Wh) => ∀ (H : Heap) (locs : List Loc) (ls : Array Slot), Wd G A s.heap H (bWh G a o sg.2.2) locs → lv_has ls 4 [(0, .ref (a o)), (1, .int x1), (2, .int sg.1), (3, .int sg.2.1)] → WW p l e 3 s m [.ref (a o), .int x1] below meth c G A (some (.int out.1)) ((bWh G a o out.2)) H locs 4 ls []) (fun (r : Int32 × Wh) => r = out)) r → ∀ (H : Heap) (locs : List Loc) (ls : Array Slot), Wd G A s.heap H (bWh G a o w) locs → lv_has ls 4 [(0, .ref (a o)), (1, .int x1), (2, .int x2), (3, .int x3)] → WW p l e 3 s m [.ref (a o), .int x1] below meth c G A (some (.int out.1)) ((bWh G a o out.2)) H locs 23 ls [] := by
      intro x2 x3 w r hf hF H locs ls hW hl
      unfold f_X4_limpsIn_J23 at hf
      refine lv_iinc (v := (x2 + (1 : Int32))) (lv' := [(2, .int (x2 + (1 : Int32))), (0, .ref (a o)), (1, .int x1), (3, .int x3)]) hx hb dX4_limpsIn_23 hl (k := 2) rfl rfl (by decide) rfl (fun ls hl => ?_)
      exact J26 _ _ _ _ hf hF _ _ _ hW (lv_sub hl [1, 2, 0, 3] rfl)
    have B4 : ∀ (x2 : Int32) (x3 : Int32) (w : Wh) (r : (Int32 × Int32 × Wh) ⊕ (Int32 × Wh)), f_X4_limpsIn_B4 x1 x2 x3 w = some r → (Sum.elim (fun (sg : Int32 × Int32 × Wh) => ∀ (H : Heap) (locs : List Loc) (ls : Array Slot), Wd G A s.heap H (bWh G a o sg.2.2) locs → lv_has ls 4 [(0, .ref (a o)), (1, .int x1), (2, .int sg.1), (3, .int sg.2.1)] → WW p l e 3 s m [.ref (a o), .int x1] below meth c G A (some (.int out.1)) ((bWh G a o out.2)) H locs 4 ls []) (fun (r : Int32 × Wh) => r = out)) r → ∀ (H : Heap) (locs : List Loc) (ls : Array Slot), Wd G A s.heap H (bWh G a o w) locs → lv_has ls 4 [(0, .ref (a o)), (1, .int x1), (2, .int x2), (3, .int x3)] → WW p l e 3 s m [.ref (a o), .int x1] below meth c G A (some (.int out.1)) ((bWh G a o out.2)) H locs 4 ls [] := by
      intro x2 x3 w r hf hF H locs ls hW hl
      unfold f_X4_limpsIn_B4 at hf
      refine lv_iload_n hx hb dX4_limpsIn_4 rfl (lv_at hl 3 rfl) ?_
      refine lv_iload_n hx hb dX4_limpsIn_5 rfl (lv_at hl 1 rfl) ?_
      refine lv_icmp_ge (tgt := 32) hx hb dX4_limpsIn_6 (by decide) (fun c6_1 => ?_) (fun c6_1 => ?_)
      · replace hf := if_t c6_1 hf
        obtain ⟨r2, e2⟩ := om_s hf
        replace hf := e2.1
        replace e2 := e2.2
        subst e2
        replace hF := elim_r hF
        refine lv_iload_n hx hb dX4_limpsIn_32 rfl (lv_at hl 2 rfl) ?_
        have e1 := Option.some.inj hf
        subst e1
        have hF : ((x2, w) : Int32 × Wh) = out := hF
        subst hF
        exact k_iret C0 hW dX4_limpsIn_33
      · replace hf := if_f c6_1 hf
        refine lv_aload_n hx hb dX4_limpsIn_9 rfl (lv_at hl 0 rfl) ?_
        obtain ⟨q10, hq10⟩ := ob_s hf
        replace hf := hq10.2
        replace hq10 := hq10.1
        refine cW1 (rest := []) (ws1 := (bWh G a o w)) (st1 := [.int q10]) C0 hW hl.1 (c_X4_isOver l G a o w _ hq10) cb_X4_isOver mm_X4_108 rfl 0 4 rfl rfl rfl (by decide) rfl rfl (Nat.le_of_ble_eq_true rfl) ⟨Nat.zero_le _, Nat.zero_le _⟩ dX4_limpsIn_10 rfl (fun H locs hW => ?_)
        refine lv_if_ne (tgt := 23) hx hb dX4_limpsIn_13 (by decide) (fun c13_2 => ?_) (fun c13_2 => ?_)
        · replace hf := if_f c13_2 hf
          exact J23 _ _ _ _ hf hF _ _ _ hW (lv_sub hl [0, 1, 2, 3] rfl)
        · replace hf := if_t c13_2 hf
          refine lv_aload_n hx hb dX4_limpsIn_16 rfl (lv_at hl 0 rfl) ?_
          obtain ⟨q17, hq17⟩ := ob_s hf
          replace hf := hq17.2
          replace hq17 := hq17.1
          refine cW1 (rest := []) (ws1 := (bWh G a o q17.2)) (st1 := [.int q17.1]) C0 hW hl.1 (c_X4_roll l G a o w _ hq17) cb_X4_roll mm_X4_82 rfl 0 4 rfl rfl rfl (by decide) rfl rfl (Nat.le_of_ble_eq_true rfl) ⟨Nat.zero_le _, Nat.zero_le _⟩ dX4_limpsIn_17 rfl (fun H locs hW => ?_)
          refine lv_if_eq (tgt := 26) hx hb dX4_limpsIn_20 (by decide) (fun c20_3 => ?_) (fun c20_3 => ?_)
          · replace hf := if_t c20_3 hf
            exact J26 _ _ _ _ hf hF _ _ _ hW (lv_sub hl [0, 1, 2, 3] rfl)
          · replace hf := if_f c20_3 hf
            exact J23 _ _ _ _ hf hF _ _ _ hW (lv_sub hl [0, 1, 2, 3] rfl)
    exact lp_sound (fun sg r hb hz => B4 sg.1 sg.2.1 sg.2.2 r hb hz)
  obtain ⟨r, hr⟩ : ∃ r, f_X4_limpsIn w x1 = some r ∧ r = out := ⟨out, hf, rfl⟩
  replace hf := hr.1
  have hF := hr.2
  clear hr
  unfold f_X4_limpsIn at hf
  refine lv_iconst (v := 0) hx hb dX4_limpsIn_0 (by decide) ?_
  refine lv_istore_n (lv' := [(2, .int (0 : Int32)), (0, .ref (a o)), (1, .int x1)]) hx hb dX4_limpsIn_1 rfl hl (by decide) rfl (fun ls hl => ?_)
  refine lv_iconst (v := 0) hx hb dX4_limpsIn_2 (by decide) ?_
  refine lv_istore_n (lv' := [(3, .int (0 : Int32)), (2, .int (0 : Int32)), (0, .ref (a o)), (1, .int x1)]) hx hb dX4_limpsIn_3 rfl hl (by decide) rfl (fun ls hl => ?_)
  exact L4  fuel ((0 : Int32), (0 : Int32), w) _ hf hF _ _ _ hW (lv_sub hl [2, 3, 1, 0] rfl)

def f_X4_swap (k : Nat) (f : Ar) (x1 : Int32) (x2 : Int32) : Option (Ar) :=
  gd (inb x1 k) (gd (inb x2 k) (gd (inb x1 k) (gd (inb x2 k) (some (upd (upd f (ix x1) (f (ix x2))) (ix x2) (f (ix x1)))))))
set_option maxRecDepth 100000 in
set_option maxHeartbeats 8000000 in
theorem c_X4_swap (l : Launch) (G : GG) (aa : Nat) (k : Nat) (f : Ar) (x1 : Int32) (x2 : Int32) (out : Ar) (hf : f_X4_swap k f x1 x2 = some out) : Cn l G 0 yX4_swap cX4_swap 4 (none) [.ref (aa), .int x1, .int x2] ([(aa, eI G k f)]) (none) ([(aa, eI G k out)]) := by
  refine cn_start (by decide) (Nat.le_of_ble_eq_true rfl) ?_
  intro p e s m below meth c A ls C0 hW hl
  have hx := C0.1
  have hb := C0.2.1
  have hl : lv_has ls 4 [(0, .ref (aa)), (1, .int x1), (2, .int x2)] := hl
  obtain ⟨r, hr⟩ : ∃ r, f_X4_swap k f x1 x2 = some r ∧ r = out := ⟨out, hf, rfl⟩
  replace hf := hr.1
  have hF := hr.2
  clear hr
  unfold f_X4_swap at hf
  refine lv_aload_n hx hb dX4_swap_0 rfl (lv_at hl 0 rfl) ?_
  refine lv_iload_n hx hb dX4_swap_1 rfl (lv_at hl 1 rfl) ?_
  have g2_1 := (gd_some hf).1; replace hf := (gd_some hf).2
  refine k_iald C0 hW 0 (ix x1) rfl (inb_in g2_1) rfl dX4_swap_2 ?_
  refine lv_istore_n (lv' := [(3, .int (f (ix x1))), (0, .ref (aa)), (1, .int x1), (2, .int x2)]) hx hb dX4_swap_3 rfl hl (by decide) rfl (fun ls hl => ?_)
  refine lv_aload_n hx hb dX4_swap_4 rfl (lv_at hl 1 rfl) ?_
  refine lv_iload_n hx hb dX4_swap_5 rfl (lv_at hl 2 rfl) ?_
  refine lv_aload_n hx hb dX4_swap_6 rfl (lv_at hl 1 rfl) ?_
  refine lv_iload_n hx hb dX4_swap_7 rfl (lv_at hl 3 rfl) ?_
  have g8_2 := (gd_some hf).1; replace hf := (gd_some hf).2
  refine k_iald C0 hW 0 (ix x2) rfl (inb_in g8_2) rfl dX4_swap_8 ?_
  have g9_3 := (gd_some hf).1; replace hf := (gd_some hf).2
  refine k_iast C0 hW 0 (ix x1) rfl (inb_in g9_3) rfl dX4_swap_9 (fun H locs hW => ?_)
  have hW : Wd G A s.heap H ([(aa, eI G k (upd f (ix x1) (f (ix x2))))]) locs := hW
  refine lv_aload_n hx hb dX4_swap_10 rfl (lv_at hl 1 rfl) ?_
  refine lv_iload_n hx hb dX4_swap_11 rfl (lv_at hl 3 rfl) ?_
  refine lv_iload_n hx hb dX4_swap_12 rfl (lv_at hl 0 rfl) ?_
  have g13_4 := (gd_some hf).1; replace hf := (gd_some hf).2
  refine k_iast C0 hW 0 (ix x2) rfl (inb_in g13_4) rfl dX4_swap_13 (fun H locs hW => ?_)
  have hW : Wd G A s.heap H ([(aa, eI G k (upd (upd f (ix x1) (f (ix x2))) (ix x2) (f (ix x1))))]) locs := hW
  have e1 := Option.some.inj hf
  subst e1
  have hF : ((upd (upd f (ix x1) (f (ix x2))) (ix x2) (f (ix x1))) : Ar) = out := hF
  subst hF
  exact k_vret C0 hW dX4_swap_14

def f_X4_changeRound (w : Wh) (x1 : Int32) (x2 : Int32) : Option (Wh) :=
  Option.bind (f_X4_swap 8 (wh_kind w) x1 x2) (fun q6 => Option.bind (f_X4_swap 8 (wh_length w) x1 x2) (fun q15 => Option.bind (f_X4_swap 8 (wh_strong w) x1 x2) (fun q24 => Option.bind (f_X4_swap 8 (wh_wear w) x1 x2) (fun q33 => Option.bind (f_X4_isThere (wh_set_wear (wh_set_strong (wh_set_length (wh_set_kind w q6) q15) q24) q33) x1) (fun q38 => Option.bind (f_X4_isThere (wh_set_wear (wh_set_strong (wh_set_length (wh_set_kind w q6) q15) q24) q33) x2) (fun q43 => if q38 = q43 then (some (wh_set_wear (wh_set_strong (wh_set_length (wh_set_kind w q6) q15) q24) q33)) else (some (wh_set_there (wh_set_wear (wh_set_strong (wh_set_length (wh_set_kind w q6) q15) q24) q33) ((wh_there w) ^^^ ((jshl (1 : Int32) x1) ||| (jshl (1 : Int32) x2)))))))))))
set_option maxRecDepth 100000 in
set_option maxHeartbeats 8000000 in
theorem c_X4_changeRound (l : Launch) (G : GG) (a : Nat → Nat) (o : Nat) (w : Wh) (x1 : Int32) (x2 : Int32) (out : Wh) (hf : f_X4_changeRound w x1 x2 = some out) : Cn l G 1 yX4_changeRound cX4_changeRound 3 (none) [.ref (a o), .int x1, .int x2] (bWh G a o w) (none) (bWh G a o out) := by
  refine cn_start (by decide) (Nat.le_of_ble_eq_true rfl) ?_
  intro p e s m below meth c A ls C0 hW hl
  have hx := C0.1
  have hb := C0.2.1
  have hl : lv_has ls 3 [(0, .ref (a o)), (1, .int x1), (2, .int x2)] := hl
  obtain ⟨r, hr⟩ : ∃ r, f_X4_changeRound w x1 x2 = some r ∧ r = out := ⟨out, hf, rfl⟩
  replace hf := hr.1
  have hF := hr.2
  clear hr
  unfold f_X4_changeRound at hf
  refine lv_aload_n hx hb dX4_changeRound_0 rfl (lv_at hl 0 rfl) ?_
  refine k_get C0 hW 4 1 0 (v := .ref (a (o + 2))) rfl (by decide) inX4 mf_X4_15 rfl rfl dX4_changeRound_1 ?_
  refine lv_iload_n hx hb dX4_changeRound_4 rfl (lv_at hl 1 rfl) ?_
  refine lv_iload_n hx hb dX4_changeRound_5 rfl (lv_at hl 2 rfl) ?_
  obtain ⟨q6, hq6⟩ := ob_s hf
  replace hf := hq6.2
  replace hq6 := hq6.1
  refine cS1 (rest := []) (ws1 := (bWh G a o (wh_set_kind w q6))) (st1 := []) C0 hW hl.1 (c_X4_swap l G (a (o + 2)) 8 (wh_kind w) x1 x2 _ hq6) cb_X4_swap mm_X4_104 [2] rfl rfl rfl (by decide) rfl rfl (Nat.le_of_ble_eq_true rfl) ⟨Nat.zero_le _, Nat.zero_le _⟩ dX4_changeRound_6 rfl rfl (fun H locs hW => ?_)
  refine lv_aload_n hx hb dX4_changeRound_9 rfl (lv_at hl 0 rfl) ?_
  refine k_get C0 hW 4 2 0 (v := .ref (a (o + 3))) rfl (by decide) inX4 mf_X4_18 rfl rfl dX4_changeRound_10 ?_
  refine lv_iload_n hx hb dX4_changeRound_13 rfl (lv_at hl 1 rfl) ?_
  refine lv_iload_n hx hb dX4_changeRound_14 rfl (lv_at hl 2 rfl) ?_
  obtain ⟨q15, hq15⟩ := ob_s hf
  replace hf := hq15.2
  replace hq15 := hq15.1
  refine cS1 (rest := []) (ws1 := (bWh G a o (wh_set_length (wh_set_kind w q6) q15))) (st1 := []) C0 hW hl.1 (c_X4_swap l G (a (o + 3)) 8 (wh_length w) x1 x2 _ hq15) cb_X4_swap mm_X4_104 [3] rfl rfl rfl (by decide) rfl rfl (Nat.le_of_ble_eq_true rfl) ⟨Nat.zero_le _, Nat.zero_le _⟩ dX4_changeRound_15 rfl rfl (fun H locs hW => ?_)
  refine lv_aload_n hx hb dX4_changeRound_18 rfl (lv_at hl 0 rfl) ?_
  refine k_get C0 hW 4 3 0 (v := .ref (a (o + 4))) rfl (by decide) inX4 mf_X4_21 rfl rfl dX4_changeRound_19 ?_
  refine lv_iload_n hx hb dX4_changeRound_22 rfl (lv_at hl 1 rfl) ?_
  refine lv_iload_n hx hb dX4_changeRound_23 rfl (lv_at hl 2 rfl) ?_
  obtain ⟨q24, hq24⟩ := ob_s hf
  replace hf := hq24.2
  replace hq24 := hq24.1
  refine cS1 (rest := []) (ws1 := (bWh G a o (wh_set_strong (wh_set_length (wh_set_kind w q6) q15) q24))) (st1 := []) C0 hW hl.1 (c_X4_swap l G (a (o + 4)) 8 (wh_strong w) x1 x2 _ hq24) cb_X4_swap mm_X4_104 [4] rfl rfl rfl (by decide) rfl rfl (Nat.le_of_ble_eq_true rfl) ⟨Nat.zero_le _, Nat.zero_le _⟩ dX4_changeRound_24 rfl rfl (fun H locs hW => ?_)
  refine lv_aload_n hx hb dX4_changeRound_27 rfl (lv_at hl 0 rfl) ?_
  refine k_get C0 hW 4 4 0 (v := .ref (a (o + 5))) rfl (by decide) inX4 mf_X4_24 rfl rfl dX4_changeRound_28 ?_
  refine lv_iload_n hx hb dX4_changeRound_31 rfl (lv_at hl 1 rfl) ?_
  refine lv_iload_n hx hb dX4_changeRound_32 rfl (lv_at hl 2 rfl) ?_
  obtain ⟨q33, hq33⟩ := ob_s hf
  replace hf := hq33.2
  replace hq33 := hq33.1
  refine cS1 (rest := []) (ws1 := (bWh G a o (wh_set_wear (wh_set_strong (wh_set_length (wh_set_kind w q6) q15) q24) q33))) (st1 := []) C0 hW hl.1 (c_X4_swap l G (a (o + 5)) 8 (wh_wear w) x1 x2 _ hq33) cb_X4_swap mm_X4_104 [5] rfl rfl rfl (by decide) rfl rfl (Nat.le_of_ble_eq_true rfl) ⟨Nat.zero_le _, Nat.zero_le _⟩ dX4_changeRound_33 rfl rfl (fun H locs hW => ?_)
  refine lv_aload_n hx hb dX4_changeRound_36 rfl (lv_at hl 0 rfl) ?_
  refine lv_iload_n hx hb dX4_changeRound_37 rfl (lv_at hl 1 rfl) ?_
  obtain ⟨q38, hq38⟩ := ob_s hf
  replace hf := hq38.2
  replace hq38 := hq38.1
  refine cW1 (rest := []) (ws1 := (bWh G a o (wh_set_wear (wh_set_strong (wh_set_length (wh_set_kind w q6) q15) q24) q33))) (st1 := [.int q38]) C0 hW hl.1 (c_X4_isThere l G a o (wh_set_wear (wh_set_strong (wh_set_length (wh_set_kind w q6) q15) q24) q33) x1 _ hq38) cb_X4_isThere mm_X4_70 rfl 0 4 rfl rfl rfl (by decide) rfl rfl (Nat.le_of_ble_eq_true rfl) ⟨Nat.zero_le _, Nat.zero_le _⟩ dX4_changeRound_38 rfl (fun H locs hW => ?_)
  refine lv_aload_n hx hb dX4_changeRound_41 rfl (lv_at hl 0 rfl) ?_
  refine lv_iload_n hx hb dX4_changeRound_42 rfl (lv_at hl 2 rfl) ?_
  obtain ⟨q43, hq43⟩ := ob_s hf
  replace hf := hq43.2
  replace hq43 := hq43.1
  refine cW1 (rest := [.int q38]) (ws1 := (bWh G a o (wh_set_wear (wh_set_strong (wh_set_length (wh_set_kind w q6) q15) q24) q33))) (st1 := [.int q43, .int q38]) C0 hW hl.1 (c_X4_isThere l G a o (wh_set_wear (wh_set_strong (wh_set_length (wh_set_kind w q6) q15) q24) q33) x2 _ hq43) cb_X4_isThere mm_X4_70 rfl 0 4 rfl rfl rfl (by decide) rfl rfl (Nat.le_of_ble_eq_true rfl) ⟨Nat.zero_le _, Nat.zero_le _⟩ dX4_changeRound_43 rfl (fun H locs hW => ?_)
  refine lv_icmp_eq (tgt := 65) hx hb dX4_changeRound_46 (by decide) (fun c46_1 => ?_) (fun c46_1 => ?_)
  · replace hf := if_t c46_1 hf
    have e1 := Option.some.inj hf
    subst e1
    have hF : ((wh_set_wear (wh_set_strong (wh_set_length (wh_set_kind w q6) q15) q24) q33) : Wh) = out := hF
    subst hF
    exact k_vret C0 hW dX4_changeRound_65
  · replace hf := if_f c46_1 hf
    refine lv_aload_n hx hb dX4_changeRound_49 rfl (lv_at hl 0 rfl) ?_
    refine lv_dup hx hb dX4_changeRound_50 rfl ?_
    refine k_get C0 hW 4 9 0 (v := .int (wh_there w)) rfl (by decide) inX4 mf_X4_46 rfl rfl dX4_changeRound_51 ?_
    refine lv_iconst (v := 1) hx hb dX4_changeRound_54 (by decide) ?_
    refine lv_iload_n hx hb dX4_changeRound_55 rfl (lv_at hl 1 rfl) ?_
    refine lv_ishl hx hb dX4_changeRound_56 ?_
    refine lv_iconst (v := 1) hx hb dX4_changeRound_57 (by decide) ?_
    refine lv_iload_n hx hb dX4_changeRound_58 rfl (lv_at hl 2 rfl) ?_
    refine lv_ishl hx hb dX4_changeRound_59 ?_
    refine lv_ior hx hb dX4_changeRound_60 ?_
    refine lv_ixor hx hb dX4_changeRound_61 ?_
    refine k_put C0 hW 4 9 0 rfl (by decide) inX4 tyX4_ok nmX4 mf_X4_46 rfl rfl rfl rfl (Nat.le_of_ble_eq_true rfl) dX4_changeRound_62 (fun H locs hW => ?_)
    have hW : Wd G A s.heap H (bWh G a o (wh_set_there (wh_set_wear (wh_set_strong (wh_set_length (wh_set_kind w q6) q15) q24) q33) ((wh_there w) ^^^ ((jshl (1 : Int32) x1) ||| (jshl (1 : Int32) x2))))) locs := hW
    have e1 := Option.some.inj hf
    subst e1
    have hF : ((wh_set_there (wh_set_wear (wh_set_strong (wh_set_length (wh_set_kind w q6) q15) q24) q33) ((wh_there w) ^^^ ((jshl (1 : Int32) x1) ||| (jshl (1 : Int32) x2)))) : Wh) = out := hF
    subst hF
    exact k_vret C0 hW dX4_changeRound_65

def f_X0_bestChange_J114 (w : As) (nw : Wh) (x1 : Int32) (x2 : Int32) : Option ((Int32 × Int32 × As) ⊕ (Int32 × As)) :=
  some (Sum.inl (x1, (x2 + (1 : Int32)), w))
def f_X0_bestChange_J108 (w : As) (nw : Wh) (x1 : Int32) (x2 : Int32) (x3 : Int32) : Option ((Int32 × Int32 × As) ⊕ ((Int32 × Int32 × As) ⊕ (Int32 × As))) :=
  some (Sum.inl (x1, (x3 + (1 : Int32)), w))
def f_X0_bestChange_B44 (nw : Wh) (x2 : Int32) (x1 : Int32) (x3 : Int32) (w : As) : Option ((Int32 × Int32 × As) ⊕ ((Int32 × Int32 × As) ⊕ (Int32 × As))) :=
  if (wh_spokes nw) ≤ x3 then (Option.map Sum.inr (f_X0_bestChange_J114 w nw x1 x2)) else (Option.bind (f_X4_take (as_trial w) nw) (fun q63 => Option.bind (f_X4_changeRound q63 x2 x3) (fun q72 => Option.bind (f_X4_limpsIn q72 (20 : Int32)) (fun q81 => if (as_found w) ≤ q81.1 then (f_X0_bestChange_J108 (as_set_trial w q81.2) nw x1 x2 x3) else (nm (((10 : Int32) * x2) + x3) (fun v107 => f_X0_bestChange_J108 (as_set_trial (as_set_found w q81.1) q81.2) nw v107 x2 x3))))))
def f_X0_bestChange_L44 (nw : Wh) (x2 : Int32) (sg : Int32 × Int32 × As) : Option ((Int32 × Int32 × As) ⊕ ((Int32 × Int32 × As) ⊕ (Int32 × As))) := f_X0_bestChange_B44 nw x2 sg.1 sg.2.1 sg.2.2
def f_X0_bestChange_B29 (nw : Wh) (x1 : Int32) (x2 : Int32) (w : As) : Option ((Int32 × Int32 × As) ⊕ (Int32 × As)) :=
  if (wh_spokes nw) ≤ x2 then (Option.map Sum.inr (some (x1, w))) else (lp (f_X0_bestChange_L44 nw x2) fuel (x1, (x2 + (1 : Int32)), w))
def f_X0_bestChange_L29 (nw : Wh) (sg : Int32 × Int32 × As) : Option ((Int32 × Int32 × As) ⊕ (Int32 × As)) := f_X0_bestChange_B29 nw sg.1 sg.2.1 sg.2.2
def f_X0_bestChange (w : As) (nw : Wh) : Option (Int32 × As) :=
  Option.bind (f_X4_take (as_trial w) nw) (fun q8 => Option.bind (f_X4_limpsIn q8 (20 : Int32)) (fun q18 => lp (f_X0_bestChange_L29 nw) fuel ((-9 : Int32), (0 : Int32), (as_set_trial (as_set_found w q18.1) q18.2))))
set_option maxRecDepth 100000 in
set_option maxHeartbeats 8000000 in
theorem c_X0_bestChange (l : Launch) (G : GG) (a : Nat → Nat) (o : Nat) (b : Nat → Nat) (q : Nat) (w : As) (nw : Wh) (out : Int32 × As) (hf : f_X0_bestChange w nw = some out) : Cn l G 4 yX0_bestChange cX0_bestChange 5 (some .int) [.ref (a o)] ((bAs G a o (b q) w) ++ (bWh G b q nw)) (some (.int out.1)) ((bAs G a o (b q) out.2) ++ (bWh G b q nw)) := by
  refine cn_start (by decide) (Nat.le_of_ble_eq_true rfl) ?_
  intro p e s m below meth c A ls C0 hW hl
  have hx := C0.1
  have hb := C0.2.1
  have hl : lv_has ls 5 [(0, .ref (a o))] := hl
  have L29 : ∀ (k8 : Nat) (sg : Int32 × Int32 × As) (o9 : Int32 × As), lp (f_X0_bestChange_L29 nw) k8 sg = some o9 → (fun (r : Int32 × As) => r = out) o9 → (fun (sg : Int32 × Int32 × As) => ∀ (H : Heap) (locs : List Loc) (ls : Array Slot), Wd G A s.heap H ((bAs G a o (b q) sg.2.2) ++ (bWh G b q nw)) locs → lv_has ls 5 [(0, .ref (a o)), (1, .int sg.1), (2, .int sg.2.1)] → WW p l e 4 s m [.ref (a o)] below meth c G A (some (.int out.1)) (((bAs G a o (b q) out.2) ++ (bWh G b q nw))) H locs 29 ls []) sg := by
    have J114 : ∀ (x1 : Int32) (x2 : Int32) (w : As) (r : (Int32 × Int32 × As) ⊕ (Int32 × As)), f_X0_bestChange_J114 w nw x1 x2 = some r → (Sum.elim (fun (sg : Int32 × Int32 × As) => ∀ (H : Heap) (locs : List Loc) (ls : Array Slot), Wd G A s.heap H ((bAs G a o (b q) sg.2.2) ++ (bWh G b q nw)) locs → lv_has ls 5 [(0, .ref (a o)), (1, .int sg.1), (2, .int sg.2.1)] → WW p l e 4 s m [.ref (a o)] below meth c G A (some (.int out.1)) (((bAs G a o (b q) out.2) ++ (bWh G b q nw))) H locs 29 ls []) (fun (r : Int32 × As) => r = out)) r → ∀ (H : Heap) (locs : List Loc) (ls : Array Slot), Wd G A s.heap H ((bAs G a o (b q) w) ++ (bWh G b q nw)) locs → lv_has ls 5 [(0, .ref (a o)), (1, .int x1), (2, .int x2)] → WW p l e 4 s m [.ref (a o)] below meth c G A (some (.int out.1)) (((bAs G a o (b q) out.2) ++ (bWh G b q nw))) H locs 114 ls [] := by
      intro x1 x2 w r hf hF H locs ls hW hl
      unfold f_X0_bestChange_J114 at hf
      refine lv_iinc (v := (x2 + (1 : Int32))) (lv' := [(2, .int (x2 + (1 : Int32))), (0, .ref (a o)), (1, .int x1)]) hx hb dX0_bestChange_114 hl (k := 2) rfl rfl (by decide) rfl (fun ls hl => ?_)
      refine lv_goto (tgt := 29) hx hb dX0_bestChange_117 (by decide) ?_
      have e1 := Option.some.inj hf
      subst e1
      exact (elim_l hF) _ _ _ hW (lv_sub hl [1, 2, 0] rfl)
    have L44 : ∀ (x2 : Int32) (k8 : Nat) (sg : Int32 × Int32 × As) (o9 : (Int32 × Int32 × As) ⊕ (Int32 × As)), lp (f_X0_bestChange_L44 nw x2) k8 sg = some o9 → (Sum.elim (fun (sg : Int32 × Int32 × As) => ∀ (H : Heap) (locs : List Loc) (ls : Array Slot), Wd G A s.heap H ((bAs G a o (b q) sg.2.2) ++ (bWh G b q nw)) locs → lv_has ls 5 [(0, .ref (a o)), (1, .int sg.1), (2, .int sg.2.1)] → WW p l e 4 s m [.ref (a o)] below meth c G A (some (.int out.1)) (((bAs G a o (b q) out.2) ++ (bWh G b q nw))) H locs 29 ls []) (fun (r : Int32 × As) => r = out)) o9 → (fun (sg : Int32 × Int32 × As) => ∀ (H : Heap) (locs : List Loc) (ls : Array Slot), Wd G A s.heap H ((bAs G a o (b q) sg.2.2) ++ (bWh G b q nw)) locs → lv_has ls 5 [(0, .ref (a o)), (1, .int sg.1), (2, .int x2), (3, .int sg.2.1)] → WW p l e 4 s m [.ref (a o)] below meth c G A (some (.int out.1)) (((bAs G a o (b q) out.2) ++ (bWh G b q nw))) H locs 44 ls []) sg := by
      intro x2
      have J108 : ∀ (x1 : Int32) (x3 : Int32) (w : As) (r : (Int32 × Int32 × As) ⊕ ((Int32 × Int32 × As) ⊕ (Int32 × As))), f_X0_bestChange_J108 w nw x1 x2 x3 = some r → (Sum.elim (fun (sg : Int32 × Int32 × As) => ∀ (H : Heap) (locs : List Loc) (ls : Array Slot), Wd G A s.heap H ((bAs G a o (b q) sg.2.2) ++ (bWh G b q nw)) locs → lv_has ls 5 [(0, .ref (a o)), (1, .int sg.1), (2, .int x2), (3, .int sg.2.1)] → WW p l e 4 s m [.ref (a o)] below meth c G A (some (.int out.1)) (((bAs G a o (b q) out.2) ++ (bWh G b q nw))) H locs 44 ls []) (Sum.elim (fun (sg : Int32 × Int32 × As) => ∀ (H : Heap) (locs : List Loc) (ls : Array Slot), Wd G A s.heap H ((bAs G a o (b q) sg.2.2) ++ (bWh G b q nw)) locs → lv_has ls 5 [(0, .ref (a o)), (1, .int sg.1), (2, .int sg.2.1)] → WW p l e 4 s m [.ref (a o)] below meth c G A (some (.int out.1)) (((bAs G a o (b q) out.2) ++ (bWh G b q nw))) H locs 29 ls []) (fun (r : Int32 × As) => r = out))) r → ∀ (H : Heap) (locs : List Loc) (ls : Array Slot), Wd G A s.heap H ((bAs G a o (b q) w) ++ (bWh G b q nw)) locs → lv_has ls 5 [(0, .ref (a o)), (1, .int x1), (2, .int x2), (3, .int x3)] → WW p l e 4 s m [.ref (a o)] below meth c G A (some (.int out.1)) (((bAs G a o (b q) out.2) ++ (bWh G b q nw))) H locs 108 ls [] := by
        intro x1 x3 w r hf hF H locs ls hW hl
        unfold f_X0_bestChange_J108 at hf
        refine lv_iinc (v := (x3 + (1 : Int32))) (lv' := [(3, .int (x3 + (1 : Int32))), (0, .ref (a o)), (1, .int x1), (2, .int x2)]) hx hb dX0_bestChange_108 hl (k := 3) rfl rfl (by decide) rfl (fun ls hl => ?_)
        refine lv_goto (tgt := 44) hx hb dX0_bestChange_111 (by decide) ?_
        have e1 := Option.some.inj hf
        subst e1
        exact (elim_l hF) _ _ _ hW (lv_sub hl [1, 2, 3, 0] rfl)
      have B44 : ∀ (x1 : Int32) (x3 : Int32) (w : As) (r : (Int32 × Int32 × As) ⊕ ((Int32 × Int32 × As) ⊕ (Int32 × As))), f_X0_bestChange_B44 nw x2 x1 x3 w = some r → (Sum.elim (fun (sg : Int32 × Int32 × As) => ∀ (H : Heap) (locs : List Loc) (ls : Array Slot), Wd G A s.heap H ((bAs G a o (b q) sg.2.2) ++ (bWh G b q nw)) locs → lv_has ls 5 [(0, .ref (a o)), (1, .int sg.1), (2, .int x2), (3, .int sg.2.1)] → WW p l e 4 s m [.ref (a o)] below meth c G A (some (.int out.1)) (((bAs G a o (b q) out.2) ++ (bWh G b q nw))) H locs 44 ls []) (Sum.elim (fun (sg : Int32 × Int32 × As) => ∀ (H : Heap) (locs : List Loc) (ls : Array Slot), Wd G A s.heap H ((bAs G a o (b q) sg.2.2) ++ (bWh G b q nw)) locs → lv_has ls 5 [(0, .ref (a o)), (1, .int sg.1), (2, .int sg.2.1)] → WW p l e 4 s m [.ref (a o)] below meth c G A (some (.int out.1)) (((bAs G a o (b q) out.2) ++ (bWh G b q nw))) H locs 29 ls []) (fun (r : Int32 × As) => r = out))) r → ∀ (H : Heap) (locs : List Loc) (ls : Array Slot), Wd G A s.heap H ((bAs G a o (b q) w) ++ (bWh G b q nw)) locs → lv_has ls 5 [(0, .ref (a o)), (1, .int x1), (2, .int x2), (3, .int x3)] → WW p l e 4 s m [.ref (a o)] below meth c G A (some (.int out.1)) (((bAs G a o (b q) out.2) ++ (bWh G b q nw))) H locs 44 ls [] := by
        intro x1 x3 w r hf hF H locs ls hW hl
        unfold f_X0_bestChange_B44 at hf
        refine lv_iload_n hx hb dX0_bestChange_44 rfl (lv_at hl 3 rfl) ?_
        refine lv_aload_n hx hb dX0_bestChange_45 rfl (lv_at hl 0 rfl) ?_
        refine k_get C0 hW 0 1 0 (v := .ref (b q)) rfl (by decide) inX0 mf_X0_9 rfl rfl dX0_bestChange_46 ?_
        refine k_get C0 hW 4 5 7 (v := .int (wh_spokes nw)) rfl (by decide) inX4 mf_X0_47 rfl rfl dX0_bestChange_49 ?_
        refine lv_icmp_ge (tgt := 114) hx hb dX0_bestChange_52 (by decide) (fun c52_2 => ?_) (fun c52_2 => ?_)
        · replace hf := if_t c52_2 hf
          obtain ⟨r2, e2⟩ := om_s hf
          replace hf := e2.1
          replace e2 := e2.2
          subst e2
          replace hF := elim_r hF
          exact J114 _ _ _ _ hf hF _ _ _ hW (lv_sub hl [0, 1, 2] rfl)
        · replace hf := if_f c52_2 hf
          refine lv_aload_n hx hb dX0_bestChange_55 rfl (lv_at hl 0 rfl) ?_
          refine k_get C0 hW 0 2 0 (v := .ref (a (o + 1))) rfl (by decide) inX0 mf_X0_18 rfl rfl dX0_bestChange_56 ?_
          refine lv_aload_n hx hb dX0_bestChange_59 rfl (lv_at hl 0 rfl) ?_
          refine k_get C0 hW 0 1 0 (v := .ref (b q)) rfl (by decide) inX0 mf_X0_9 rfl rfl dX0_bestChange_60 ?_
          obtain ⟨q63, hq63⟩ := ob_s hf
          replace hf := hq63.2
          replace hq63 := hq63.1
          refine cV1 (rest := []) (ws1 := ((bAs G a o (b q) (as_set_trial w q63)) ++ (bWh G b q nw))) (st1 := []) C0 hW hl.1 (c_X4_take l G a (o + 1) b q (as_trial w) nw _ hq63) cb_X4_take mm_X0_21 [1, 2, 3, 4, 5, 6, 7, 8, 9, 10, 11, 12] rfl rfl rfl 0 4 rfl rfl rfl (by decide) rfl rfl (Nat.le_of_ble_eq_true rfl) ⟨Nat.zero_le _, Nat.zero_le _⟩ dX0_bestChange_63 rfl rfl (fun H locs hW => ?_)
          refine lv_aload_n hx hb dX0_bestChange_66 rfl (lv_at hl 0 rfl) ?_
          refine k_get C0 hW 0 2 0 (v := .ref (a (o + 1))) rfl (by decide) inX0 mf_X0_18 rfl rfl dX0_bestChange_67 ?_
          refine lv_iload_n hx hb dX0_bestChange_70 rfl (lv_at hl 2 rfl) ?_
          refine lv_iload_n hx hb dX0_bestChange_71 rfl (lv_at hl 3 rfl) ?_
          obtain ⟨q72, hq72⟩ := ob_s hf
          replace hf := hq72.2
          replace hq72 := hq72.1
          refine cV1 (rest := []) (ws1 := ((bAs G a o (b q) (as_set_trial w q72)) ++ (bWh G b q nw))) (st1 := []) C0 hW hl.1 (c_X4_changeRound l G a (o + 1) q63 x2 x3 _ hq72) cb_X4_changeRound mm_X0_72 [1, 2, 3, 4, 5, 6] rfl rfl rfl 0 4 rfl rfl rfl (by decide) rfl rfl (Nat.le_of_ble_eq_true rfl) ⟨Nat.zero_le _, Nat.zero_le _⟩ dX0_bestChange_72 rfl rfl (fun H locs hW => ?_)
          refine lv_aload_n hx hb dX0_bestChange_75 rfl (lv_at hl 0 rfl) ?_
          refine k_get C0 hW 0 2 0 (v := .ref (a (o + 1))) rfl (by decide) inX0 mf_X0_18 rfl rfl dX0_bestChange_76 ?_
          refine lv_bipush (v := 20) hx hb dX0_bestChange_79 (by decide) ?_
          obtain ⟨q81, hq81⟩ := ob_s hf
          replace hf := hq81.2
          replace hq81 := hq81.1
          refine cV1 (rest := []) (ws1 := ((bAs G a o (b q) (as_set_trial w q81.2)) ++ (bWh G b q nw))) (st1 := [.int q81.1]) C0 hW hl.1 (c_X4_limpsIn l G a (o + 1) q72 (20 : Int32) _ hq81) cb_X4_limpsIn mm_X0_69 [1, 2, 3, 4, 5, 6] rfl rfl rfl 0 4 rfl rfl rfl (by decide) rfl rfl (Nat.le_of_ble_eq_true rfl) ⟨Nat.zero_le _, Nat.zero_le _⟩ dX0_bestChange_81 rfl rfl (fun H locs hW => ?_)
          refine lv_istore (lv' := [(4, .int q81.1), (0, .ref (a o)), (1, .int x1), (2, .int x2), (3, .int x3)]) hx hb dX0_bestChange_84 hl (by decide) rfl (fun ls hl => ?_)
          refine lv_iload hx hb dX0_bestChange_86 (lv_at hl 0 rfl) ?_
          refine lv_aload_n hx hb dX0_bestChange_88 rfl (lv_at hl 1 rfl) ?_
          refine k_get C0 hW 0 0 0 (v := .int (as_found w)) rfl (by decide) inX0 mf_X0_29 rfl rfl dX0_bestChange_89 ?_
          refine lv_icmp_ge (tgt := 108) hx hb dX0_bestChange_92 (by decide) (fun c92_3 => ?_) (fun c92_3 => ?_)
          · replace hf := if_t c92_3 hf
            exact J108 _ _ _ _ hf hF _ _ _ hW (lv_sub hl [1, 2, 3, 4] rfl)
          · replace hf := if_f c92_3 hf
            refine lv_aload_n hx hb dX0_bestChange_95 rfl (lv_at hl 1 rfl) ?_
            refine lv_iload hx hb dX0_bestChange_96 (lv_at hl 0 rfl) ?_
            refine k_put C0 hW 0 0 0 rfl (by decide) inX0 tyX0_ok nmX0 mf_X0_29 rfl rfl rfl rfl (Nat.le_of_ble_eq_true rfl) dX0_bestChange_98 (fun H locs hW => ?_)
            have hW : Wd G A s.heap H ((bAs G a o (b q) (as_set_trial (as_set_found w q81.1) q81.2)) ++ (bWh G b q nw)) locs := hW
            refine lv_bipush (v := 10) hx hb dX0_bestChange_101 (by decide) ?_
            refine lv_iload_n hx hb dX0_bestChange_103 rfl (lv_at hl 3 rfl) ?_
            refine lv_imul hx hb dX0_bestChange_104 ?_
            refine lv_iload_n hx hb dX0_bestChange_105 rfl (lv_at hl 4 rfl) ?_
            refine lv_iadd hx hb dX0_bestChange_106 ?_
            refine lv_topi (fun v107 ev107 => ?_)
            replace hf := nm_s ev107 hf
            refine lv_istore_n (lv' := [(1, .int v107), (4, .int q81.1), (0, .ref (a o)), (2, .int x2), (3, .int x3)]) hx hb dX0_bestChange_107 rfl hl (by decide) rfl (fun ls hl => ?_)
            exact J108 _ _ _ _ hf hF _ _ _ hW (lv_sub hl [2, 0, 3, 4] rfl)
      exact lp_sound (fun sg r hb hz => B44 sg.1 sg.2.1 sg.2.2 r hb hz)
    have B29 : ∀ (x1 : Int32) (x2 : Int32) (w : As) (r : (Int32 × Int32 × As) ⊕ (Int32 × As)), f_X0_bestChange_B29 nw x1 x2 w = some r → (Sum.elim (fun (sg : Int32 × Int32 × As) => ∀ (H : Heap) (locs : List Loc) (ls : Array Slot), Wd G A s.heap H ((bAs G a o (b q) sg.2.2) ++ (bWh G b q nw)) locs → lv_has ls 5 [(0, .ref (a o)), (1, .int sg.1), (2, .int sg.2.1)] → WW p l e 4 s m [.ref (a o)] below meth c G A (some (.int out.1)) (((bAs G a o (b q) out.2) ++ (bWh G b q nw))) H locs 29 ls []) (fun (r : Int32 × As) => r = out)) r → ∀ (H : Heap) (locs : List Loc) (ls : Array Slot), Wd G A s.heap H ((bAs G a o (b q) w) ++ (bWh G b q nw)) locs → lv_has ls 5 [(0, .ref (a o)), (1, .int x1), (2, .int x2)] → WW p l e 4 s m [.ref (a o)] below meth c G A (some (.int out.1)) (((bAs G a o (b q) out.2) ++ (bWh G b q nw))) H locs 29 ls [] := by
      intro x1 x2 w r hf hF H locs ls hW hl
      unfold f_X0_bestChange_B29 at hf
      refine lv_iload_n hx hb dX0_bestChange_29 rfl (lv_at hl 2 rfl) ?_
      refine lv_aload_n hx hb dX0_bestChange_30 rfl (lv_at hl 0 rfl) ?_
      refine k_get C0 hW 0 1 0 (v := .ref (b q)) rfl (by decide) inX0 mf_X0_9 rfl rfl dX0_bestChange_31 ?_
      refine k_get C0 hW 4 5 7 (v := .int (wh_spokes nw)) rfl (by decide) inX4 mf_X0_47 rfl rfl dX0_bestChange_34 ?_
      refine lv_icmp_ge (tgt := 120) hx hb dX0_bestChange_37 (by decide) (fun c37_1 => ?_) (fun c37_1 => ?_)
      · replace hf := if_t c37_1 hf
        obtain ⟨r2, e2⟩ := om_s hf
        replace hf := e2.1
        replace e2 := e2.2
        subst e2
        replace hF := elim_r hF
        refine lv_iload_n hx hb dX0_bestChange_120 rfl (lv_at hl 1 rfl) ?_
        have e1 := Option.some.inj hf
        subst e1
        have hF : ((x1, w) : Int32 × As) = out := hF
        subst hF
        exact k_iret C0 hW dX0_bestChange_121
      · replace hf := if_f c37_1 hf
        refine lv_iload_n hx hb dX0_bestChange_40 rfl (lv_at hl 2 rfl) ?_
        refine lv_iconst (v := 1) hx hb dX0_bestChange_41 (by decide) ?_
        refine lv_iadd hx hb dX0_bestChange_42 ?_
        refine lv_istore_n (lv' := [(3, .int (x2 + (1 : Int32))), (0, .ref (a o)), (1, .int x1), (2, .int x2)]) hx hb dX0_bestChange_43 rfl hl (by decide) rfl (fun ls hl => ?_)
        exact L44 _ fuel (x1, (x2 + (1 : Int32)), w) _ hf hF _ _ _ hW (lv_sub hl [1, 2, 3, 0] rfl)
    exact lp_sound (fun sg r hb hz => B29 sg.1 sg.2.1 sg.2.2 r hb hz)
  obtain ⟨r, hr⟩ : ∃ r, f_X0_bestChange w nw = some r ∧ r = out := ⟨out, hf, rfl⟩
  replace hf := hr.1
  have hF := hr.2
  clear hr
  unfold f_X0_bestChange at hf
  refine lv_aload_n hx hb dX0_bestChange_0 rfl (lv_at hl 0 rfl) ?_
  refine k_get C0 hW 0 2 0 (v := .ref (a (o + 1))) rfl (by decide) inX0 mf_X0_18 rfl rfl dX0_bestChange_1 ?_
  refine lv_aload_n hx hb dX0_bestChange_4 rfl (lv_at hl 0 rfl) ?_
  refine k_get C0 hW 0 1 0 (v := .ref (b q)) rfl (by decide) inX0 mf_X0_9 rfl rfl dX0_bestChange_5 ?_
  obtain ⟨q8, hq8⟩ := ob_s hf
  replace hf := hq8.2
  replace hq8 := hq8.1
  refine cV1 (rest := []) (ws1 := ((bAs G a o (b q) (as_set_trial w q8)) ++ (bWh G b q nw))) (st1 := []) C0 hW hl.1 (c_X4_take l G a (o + 1) b q (as_trial w) nw _ hq8) cb_X4_take mm_X0_21 [1, 2, 3, 4, 5, 6, 7, 8, 9, 10, 11, 12] rfl rfl rfl 0 4 rfl rfl rfl (by decide) rfl rfl (Nat.le_of_ble_eq_true rfl) ⟨Nat.zero_le _, Nat.zero_le _⟩ dX0_bestChange_8 rfl rfl (fun H locs hW => ?_)
  refine lv_aload_n hx hb dX0_bestChange_11 rfl (lv_at hl 0 rfl) ?_
  refine lv_aload_n hx hb dX0_bestChange_12 rfl (lv_at hl 0 rfl) ?_
  refine k_get C0 hW 0 2 0 (v := .ref (a (o + 1))) rfl (by decide) inX0 mf_X0_18 rfl rfl dX0_bestChange_13 ?_
  refine lv_bipush (v := 20) hx hb dX0_bestChange_16 (by decide) ?_
  obtain ⟨q18, hq18⟩ := ob_s hf
  replace hf := hq18.2
  replace hq18 := hq18.1
  refine cV1 (rest := [.ref (a o)]) (ws1 := ((bAs G a o (b q) (as_set_trial w q18.2)) ++ (bWh G b q nw))) (st1 := [.int q18.1, .ref (a o)]) C0 hW hl.1 (c_X4_limpsIn l G a (o + 1) q8 (20 : Int32) _ hq18) cb_X4_limpsIn mm_X0_69 [1, 2, 3, 4, 5, 6] rfl rfl rfl 0 4 rfl rfl rfl (by decide) rfl rfl (Nat.le_of_ble_eq_true rfl) ⟨Nat.zero_le _, Nat.zero_le _⟩ dX0_bestChange_18 rfl rfl (fun H locs hW => ?_)
  refine k_put C0 hW 0 0 0 rfl (by decide) inX0 tyX0_ok nmX0 mf_X0_29 rfl rfl rfl rfl (Nat.le_of_ble_eq_true rfl) dX0_bestChange_21 (fun H locs hW => ?_)
  have hW : Wd G A s.heap H ((bAs G a o (b q) (as_set_trial (as_set_found w q18.1) q18.2)) ++ (bWh G b q nw)) locs := hW
  refine lv_bipush (v := -9) hx hb dX0_bestChange_24 (by decide) ?_
  refine lv_istore_n (lv' := [(1, .int (-9 : Int32)), (0, .ref (a o))]) hx hb dX0_bestChange_26 rfl hl (by decide) rfl (fun ls hl => ?_)
  refine lv_iconst (v := 0) hx hb dX0_bestChange_27 (by decide) ?_
  refine lv_istore_n (lv' := [(2, .int (0 : Int32)), (1, .int (-9 : Int32)), (0, .ref (a o))]) hx hb dX0_bestChange_28 rfl hl (by decide) rfl (fun ls hl => ?_)
  exact L29  fuel ((-9 : Int32), (0 : Int32), (as_set_trial (as_set_found w q18.1) q18.2)) _ hf hF _ _ _ hW (lv_sub hl [2, 1, 0] rfl)

def f_X0_kindsBearing_J50 (w : As) (nw : Wh) (x1 : Int32) (x2 : Int32) (x3 : Int32) (x4 : Int32) : Option ((Int32 × Int32) ⊕ (Int32)) :=
  some (Sum.inl (x3, (x4 + (1 : Int32))))
def f_X0_kindsBearing_B5 (w : As) (nw : Wh) (x1 : Int32) (x2 : Int32) (x3 : Int32) (x4 : Int32) : Option ((Int32 × Int32) ⊕ (Int32)) :=
  if (6 : Int32) ≤ x4 then (Option.map Sum.inr (some x3)) else (gd (inb x1 8) (gd (inb x1 8) (Option.bind (f_X5_bearing x4 ((wh_strong nw) (ix x1)) ((wh_wear nw) (ix x1)) x2 (wh_dry nw)) (fun q40 => if q40 < x2 then (f_X0_kindsBearing_J50 w nw x1 x2 x3 x4) else (f_X0_kindsBearing_J50 w nw x1 x2 (x3 + (1 : Int32)) x4)))))
def f_X0_kindsBearing_L5 (w : As) (nw : Wh) (x1 : Int32) (x2 : Int32) (sg : Int32 × Int32) : Option ((Int32 × Int32) ⊕ (Int32)) := f_X0_kindsBearing_B5 w nw x1 x2 sg.1 sg.2
def f_X0_kindsBearing (w : As) (nw : Wh) (x1 : Int32) (x2 : Int32) : Option (Int32) :=
  lp (f_X0_kindsBearing_L5 w nw x1 x2) fuel ((0 : Int32), (0 : Int32))
set_option maxRecDepth 100000 in
set_option maxHeartbeats 8000000 in
theorem c_X0_kindsBearing (l : Launch) (G : GG) (a : Nat → Nat) (o : Nat) (b : Nat → Nat) (q : Nat) (w : As) (nw : Wh) (x1 : Int32) (x2 : Int32) (out : Int32) (hf : f_X0_kindsBearing w nw x1 x2 = some out) : Cn l G 2 yX0_kindsBearing cX0_kindsBearing 5 (some .int) [.ref (a o), .int x1, .int x2] ((bAs G a o (b q) w) ++ (bWh G b q nw)) (some (.int out)) ((bAs G a o (b q) w) ++ (bWh G b q nw)) := by
  refine cn_start (by decide) (Nat.le_of_ble_eq_true rfl) ?_
  intro p e s m below meth c A ls C0 hW hl
  have hx := C0.1
  have hb := C0.2.1
  have hl : lv_has ls 5 [(0, .ref (a o)), (1, .int x1), (2, .int x2)] := hl
  have L5 : ∀ (k8 : Nat) (sg : Int32 × Int32) (o9 : Int32), lp (f_X0_kindsBearing_L5 w nw x1 x2) k8 sg = some o9 → (fun (r : Int32) => r = out) o9 → (fun (sg : Int32 × Int32) => ∀ (H : Heap) (locs : List Loc) (ls : Array Slot), Wd G A s.heap H ((bAs G a o (b q) w) ++ (bWh G b q nw)) locs → lv_has ls 5 [(0, .ref (a o)), (1, .int x1), (2, .int x2), (3, .int sg.1), (4, .int sg.2)] → WW p l e 2 s m [.ref (a o), .int x1, .int x2] below meth c G A (some (.int out)) (((bAs G a o (b q) w) ++ (bWh G b q nw))) H locs 5 ls []) sg := by
    have J50 : ∀ (x3 : Int32) (x4 : Int32) (r : (Int32 × Int32) ⊕ (Int32)), f_X0_kindsBearing_J50 w nw x1 x2 x3 x4 = some r → (Sum.elim (fun (sg : Int32 × Int32) => ∀ (H : Heap) (locs : List Loc) (ls : Array Slot), Wd G A s.heap H ((bAs G a o (b q) w) ++ (bWh G b q nw)) locs → lv_has ls 5 [(0, .ref (a o)), (1, .int x1), (2, .int x2), (3, .int sg.1), (4, .int sg.2)] → WW p l e 2 s m [.ref (a o), .int x1, .int x2] below meth c G A (some (.int out)) (((bAs G a o (b q) w) ++ (bWh G b q nw))) H locs 5 ls []) (fun (r : Int32) => r = out)) r → ∀ (H : Heap) (locs : List Loc) (ls : Array Slot), Wd G A s.heap H ((bAs G a o (b q) w) ++ (bWh G b q nw)) locs → lv_has ls 5 [(0, .ref (a o)), (1, .int x1), (2, .int x2), (3, .int x3), (4, .int x4)] → WW p l e 2 s m [.ref (a o), .int x1, .int x2] below meth c G A (some (.int out)) (((bAs G a o (b q) w) ++ (bWh G b q nw))) H locs 50 ls [] := by
      intro x3 x4 r hf hF H locs ls hW hl
      unfold f_X0_kindsBearing_J50 at hf
      refine lv_iinc (v := (x4 + (1 : Int32))) (lv' := [(4, .int (x4 + (1 : Int32))), (0, .ref (a o)), (1, .int x1), (2, .int x2), (3, .int x3)]) hx hb dX0_kindsBearing_50 hl (k := 4) rfl rfl (by decide) rfl (fun ls hl => ?_)
      refine lv_goto (tgt := 5) hx hb dX0_kindsBearing_53 (by decide) ?_
      have e1 := Option.some.inj hf
      subst e1
      exact (elim_l hF) _ _ _ hW (lv_sub hl [1, 2, 3, 4, 0] rfl)
    have B5 : ∀ (x3 : Int32) (x4 : Int32) (r : (Int32 × Int32) ⊕ (Int32)), f_X0_kindsBearing_B5 w nw x1 x2 x3 x4 = some r → (Sum.elim (fun (sg : Int32 × Int32) => ∀ (H : Heap) (locs : List Loc) (ls : Array Slot), Wd G A s.heap H ((bAs G a o (b q) w) ++ (bWh G b q nw)) locs → lv_has ls 5 [(0, .ref (a o)), (1, .int x1), (2, .int x2), (3, .int sg.1), (4, .int sg.2)] → WW p l e 2 s m [.ref (a o), .int x1, .int x2] below meth c G A (some (.int out)) (((bAs G a o (b q) w) ++ (bWh G b q nw))) H locs 5 ls []) (fun (r : Int32) => r = out)) r → ∀ (H : Heap) (locs : List Loc) (ls : Array Slot), Wd G A s.heap H ((bAs G a o (b q) w) ++ (bWh G b q nw)) locs → lv_has ls 5 [(0, .ref (a o)), (1, .int x1), (2, .int x2), (3, .int x3), (4, .int x4)] → WW p l e 2 s m [.ref (a o), .int x1, .int x2] below meth c G A (some (.int out)) (((bAs G a o (b q) w) ++ (bWh G b q nw))) H locs 5 ls [] := by
      intro x3 x4 r hf hF H locs ls hW hl
      unfold f_X0_kindsBearing_B5 at hf
      refine lv_iload hx hb dX0_kindsBearing_5 (lv_at hl 4 rfl) ?_
      refine lv_bipush (v := 6) hx hb dX0_kindsBearing_7 (by decide) ?_
      refine lv_icmp_ge (tgt := 56) hx hb dX0_kindsBearing_9 (by decide) (fun c9_1 => ?_) (fun c9_1 => ?_)
      · replace hf := if_t c9_1 hf
        obtain ⟨r2, e2⟩ := om_s hf
        replace hf := e2.1
        replace e2 := e2.2
        subst e2
        replace hF := elim_r hF
        refine lv_iload_n hx hb dX0_kindsBearing_56 rfl (lv_at hl 3 rfl) ?_
        have e1 := Option.some.inj hf
        subst e1
        have hF : (x3 : Int32) = out := hF
        subst hF
        exact k_iret C0 hW dX0_kindsBearing_57
      · replace hf := if_f c9_1 hf
        refine lv_iload hx hb dX0_kindsBearing_12 (lv_at hl 4 rfl) ?_
        refine lv_aload_n hx hb dX0_kindsBearing_14 rfl (lv_at hl 0 rfl) ?_
        refine k_get C0 hW 0 1 0 (v := .ref (b q)) rfl (by decide) inX0 mf_X0_9 rfl rfl dX0_kindsBearing_15 ?_
        refine k_get C0 hW 4 3 7 (v := .ref (b (q + 4))) rfl (by decide) inX4 mf_X0_83 rfl rfl dX0_kindsBearing_18 ?_
        refine lv_iload_n hx hb dX0_kindsBearing_21 rfl (lv_at hl 1 rfl) ?_
        have g22_2 := (gd_some hf).1; replace hf := (gd_some hf).2
        refine k_iald C0 hW 11 (ix x1) rfl (inb_in g22_2) rfl dX0_kindsBearing_22 ?_
        refine lv_aload_n hx hb dX0_kindsBearing_23 rfl (lv_at hl 0 rfl) ?_
        refine k_get C0 hW 0 1 0 (v := .ref (b q)) rfl (by decide) inX0 mf_X0_9 rfl rfl dX0_kindsBearing_24 ?_
        refine k_get C0 hW 4 4 7 (v := .ref (b (q + 5))) rfl (by decide) inX4 mf_X0_99 rfl rfl dX0_kindsBearing_27 ?_
        refine lv_iload_n hx hb dX0_kindsBearing_30 rfl (lv_at hl 1 rfl) ?_
        have g31_3 := (gd_some hf).1; replace hf := (gd_some hf).2
        refine k_iald C0 hW 12 (ix x1) rfl (inb_in g31_3) rfl dX0_kindsBearing_31 ?_
        refine lv_iload_n hx hb dX0_kindsBearing_32 rfl (lv_at hl 2 rfl) ?_
        refine lv_aload_n hx hb dX0_kindsBearing_33 rfl (lv_at hl 0 rfl) ?_
        refine k_get C0 hW 0 1 0 (v := .ref (b q)) rfl (by decide) inX0 mf_X0_9 rfl rfl dX0_kindsBearing_34 ?_
        refine k_get C0 hW 4 10 7 (v := .int (wh_dry nw)) rfl (by decide) inX4 mf_X0_102 rfl rfl dX0_kindsBearing_37 ?_
        obtain ⟨q40, hq40⟩ := ob_s hf
        replace hf := hq40.2
        replace hq40 := hq40.1
        refine cN0 (rest := []) (st1 := [.int q40]) C0 hW hl.1 (c_X5_bearing l G x4 ((wh_strong nw) (ix x1)) ((wh_wear nw) (ix x1)) x2 (wh_dry nw) _ hq40) cb_X5_bearing mn_X0_106 [] rfl rfl (by decide) rfl rfl (Nat.le_of_ble_eq_true rfl) ⟨Nat.zero_le _, Nat.zero_le _⟩ dX0_kindsBearing_40 rfl (fun H locs hW => ?_)
        refine lv_iload_n hx hb dX0_kindsBearing_43 rfl (lv_at hl 2 rfl) ?_
        refine lv_icmp_lt (tgt := 50) hx hb dX0_kindsBearing_44 (by decide) (fun c44_4 => ?_) (fun c44_4 => ?_)
        · replace hf := if_t c44_4 hf
          exact J50 _ _ _ hf hF _ _ _ hW (lv_sub hl [0, 1, 2, 3, 4] rfl)
        · replace hf := if_f c44_4 hf
          refine lv_iinc (v := (x3 + (1 : Int32))) (lv' := [(3, .int (x3 + (1 : Int32))), (0, .ref (a o)), (1, .int x1), (2, .int x2), (4, .int x4)]) hx hb dX0_kindsBearing_47 hl (k := 3) rfl rfl (by decide) rfl (fun ls hl => ?_)
          exact J50 _ _ _ hf hF _ _ _ hW (lv_sub hl [1, 2, 3, 0, 4] rfl)
    exact lp_sound (fun sg r hb hz => B5 sg.1 sg.2 r hb hz)
  obtain ⟨r, hr⟩ : ∃ r, f_X0_kindsBearing w nw x1 x2 = some r ∧ r = out := ⟨out, hf, rfl⟩
  replace hf := hr.1
  have hF := hr.2
  clear hr
  unfold f_X0_kindsBearing at hf
  refine lv_iconst (v := 0) hx hb dX0_kindsBearing_0 (by decide) ?_
  refine lv_istore_n (lv' := [(3, .int (0 : Int32)), (0, .ref (a o)), (1, .int x1), (2, .int x2)]) hx hb dX0_kindsBearing_1 rfl hl (by decide) rfl (fun ls hl => ?_)
  refine lv_iconst (v := 0) hx hb dX0_kindsBearing_2 (by decide) ?_
  refine lv_istore (lv' := [(4, .int (0 : Int32)), (3, .int (0 : Int32)), (0, .ref (a o)), (1, .int x1), (2, .int x2)]) hx hb dX0_kindsBearing_3 hl (by decide) rfl (fun ls hl => ?_)
  exact L5  fuel ((0 : Int32), (0 : Int32)) _ hf hF _ _ _ hW (lv_sub hl [2, 3, 4, 1, 0] rfl)

def f_X0_bestDepth_J53 (w : As) (nw : Wh) (x1 : Int32) (x2 : Int32) (x3 : Int32) : Option ((Int32 × Int32 × As) ⊕ (Int32 × As)) :=
  some (Sum.inl (x2, (x3 + (1 : Int32)), w))
def f_X0_bestDepth_B10 (nw : Wh) (x1 : Int32) (x2 : Int32) (x3 : Int32) (w : As) : Option ((Int32 × Int32 × As) ⊕ (Int32 × As)) :=
  if (9 : Int32) < x3 then (Option.map Sum.inr (some (x2, w))) else (Option.bind (f_X0_kindsBearing w nw x1 x3) (fun q19 => nm (jmax q19 ((6 : Int32) - q19)) (fun v34 => if (as_found w) ≤ v34 then (f_X0_bestDepth_J53 w nw x1 x2 x3) else (f_X0_bestDepth_J53 (as_set_found w v34) nw x1 x3 x3))))
def f_X0_bestDepth_L10 (nw : Wh) (x1 : Int32) (sg : Int32 × Int32 × As) : Option ((Int32 × Int32 × As) ⊕ (Int32 × As)) := f_X0_bestDepth_B10 nw x1 sg.1 sg.2.1 sg.2.2
def f_X0_bestDepth (w : As) (nw : Wh) (x1 : Int32) : Option (Int32 × As) :=
  lp (f_X0_bestDepth_L10 nw x1) fuel ((0 : Int32), (0 : Int32), (as_set_found w (7 : Int32)))
set_option maxRecDepth 100000 in
set_option maxHeartbeats 8000000 in
theorem c_X0_bestDepth (l : Launch) (G : GG) (a : Nat → Nat) (o : Nat) (b : Nat → Nat) (q : Nat) (w : As) (nw : Wh) (x1 : Int32) (out : Int32 × As) (hf : f_X0_bestDepth w nw x1 = some out) : Cn l G 3 yX0_bestDepth cX0_bestDepth 6 (some .int) [.ref (a o), .int x1] ((bAs G a o (b q) w) ++ (bWh G b q nw)) (some (.int out.1)) ((bAs G a o (b q) out.2) ++ (bWh G b q nw)) := by
  refine cn_start (by decide) (Nat.le_of_ble_eq_true rfl) ?_
  intro p e s m below meth c A ls C0 hW hl
  have hx := C0.1
  have hb := C0.2.1
  have hl : lv_has ls 6 [(0, .ref (a o)), (1, .int x1)] := hl
  have L10 : ∀ (k8 : Nat) (sg : Int32 × Int32 × As) (o9 : Int32 × As), lp (f_X0_bestDepth_L10 nw x1) k8 sg = some o9 → (fun (r : Int32 × As) => r = out) o9 → (fun (sg : Int32 × Int32 × As) => ∀ (H : Heap) (locs : List Loc) (ls : Array Slot), Wd G A s.heap H ((bAs G a o (b q) sg.2.2) ++ (bWh G b q nw)) locs → lv_has ls 6 [(0, .ref (a o)), (1, .int x1), (2, .int sg.1), (3, .int sg.2.1)] → WW p l e 3 s m [.ref (a o), .int x1] below meth c G A (some (.int out.1)) (((bAs G a o (b q) out.2) ++ (bWh G b q nw))) H locs 10 ls []) sg := by
    have J53 : ∀ (x2 : Int32) (x3 : Int32) (w : As) (r : (Int32 × Int32 × As) ⊕ (Int32 × As)), f_X0_bestDepth_J53 w nw x1 x2 x3 = some r → (Sum.elim (fun (sg : Int32 × Int32 × As) => ∀ (H : Heap) (locs : List Loc) (ls : Array Slot), Wd G A s.heap H ((bAs G a o (b q) sg.2.2) ++ (bWh G b q nw)) locs → lv_has ls 6 [(0, .ref (a o)), (1, .int x1), (2, .int sg.1), (3, .int sg.2.1)] → WW p l e 3 s m [.ref (a o), .int x1] below meth c G A (some (.int out.1)) (((bAs G a o (b q) out.2) ++ (bWh G b q nw))) H locs 10 ls []) (fun (r : Int32 × As) => r = out)) r → ∀ (H : Heap) (locs : List Loc) (ls : Array Slot), Wd G A s.heap H ((bAs G a o (b q) w) ++ (bWh G b q nw)) locs → lv_has ls 6 [(0, .ref (a o)), (1, .int x1), (2, .int x2), (3, .int x3)] → WW p l e 3 s m [.ref (a o), .int x1] below meth c G A (some (.int out.1)) (((bAs G a o (b q) out.2) ++ (bWh G b q nw))) H locs 53 ls [] := by
      intro x2 x3 w r hf hF H locs ls hW hl
      unfold f_X0_bestDepth_J53 at hf
      refine lv_iinc (v := (x3 + (1 : Int32))) (lv' := [(3, .int (x3 + (1 : Int32))), (0, .ref (a o)), (1, .int x1), (2, .int x2)]) hx hb dX0_bestDepth_53 hl (k := 3) rfl rfl (by decide) rfl (fun ls hl => ?_)
      refine lv_goto (tgt := 10) hx hb dX0_bestDepth_56 (by decide) ?_
      have e1 := Option.some.inj hf
      subst e1
      exact (elim_l hF) _ _ _ hW (lv_sub hl [1, 2, 3, 0] rfl)
    have B10 : ∀ (x2 : Int32) (x3 : Int32) (w : As) (r : (Int32 × Int32 × As) ⊕ (Int32 × As)), f_X0_bestDepth_B10 nw x1 x2 x3 w = some r → (Sum.elim (fun (sg : Int32 × Int32 × As) => ∀ (H : Heap) (locs : List Loc) (ls : Array Slot), Wd G A s.heap H ((bAs G a o (b q) sg.2.2) ++ (bWh G b q nw)) locs → lv_has ls 6 [(0, .ref (a o)), (1, .int x1), (2, .int sg.1), (3, .int sg.2.1)] → WW p l e 3 s m [.ref (a o), .int x1] below meth c G A (some (.int out.1)) (((bAs G a o (b q) out.2) ++ (bWh G b q nw))) H locs 10 ls []) (fun (r : Int32 × As) => r = out)) r → ∀ (H : Heap) (locs : List Loc) (ls : Array Slot), Wd G A s.heap H ((bAs G a o (b q) w) ++ (bWh G b q nw)) locs → lv_has ls 6 [(0, .ref (a o)), (1, .int x1), (2, .int x2), (3, .int x3)] → WW p l e 3 s m [.ref (a o), .int x1] below meth c G A (some (.int out.1)) (((bAs G a o (b q) out.2) ++ (bWh G b q nw))) H locs 10 ls [] := by
      intro x2 x3 w r hf hF H locs ls hW hl
      unfold f_X0_bestDepth_B10 at hf
      refine lv_iload_n hx hb dX0_bestDepth_10 rfl (lv_at hl 3 rfl) ?_
      refine lv_bipush (v := 9) hx hb dX0_bestDepth_11 (by decide) ?_
      refine lv_icmp_gt (tgt := 59) hx hb dX0_bestDepth_13 (by decide) (fun c13_1 => ?_) (fun c13_1 => ?_)
      · replace hf := if_t c13_1 hf
        obtain ⟨r2, e2⟩ := om_s hf
        replace hf := e2.1
        replace e2 := e2.2
        subst e2
        replace hF := elim_r hF
        refine lv_iload_n hx hb dX0_bestDepth_59 rfl (lv_at hl 2 rfl) ?_
        have e1 := Option.some.inj hf
        subst e1
        have hF : ((x2, w) : Int32 × As) = out := hF
        subst hF
        exact k_iret C0 hW dX0_bestDepth_60
      · replace hf := if_f c13_1 hf
        refine lv_aload_n hx hb dX0_bestDepth_16 rfl (lv_at hl 0 rfl) ?_
        refine lv_iload_n hx hb dX0_bestDepth_17 rfl (lv_at hl 1 rfl) ?_
        refine lv_iload_n hx hb dX0_bestDepth_18 rfl (lv_at hl 3 rfl) ?_
        obtain ⟨q19, hq19⟩ := ob_s hf
        replace hf := hq19.2
        replace hq19 := hq19.1
        refine cW1 (rest := []) (ws1 := ((bAs G a o (b q) w) ++ (bWh G b q nw))) (st1 := [.int q19]) C0 hW hl.1 (c_X0_kindsBearing l G a o b q w nw x1 x3 _ hq19) cb_X0_kindsBearing mm_X0_90 rfl 0 0 rfl rfl rfl (by decide) rfl rfl (Nat.le_of_ble_eq_true rfl) ⟨Nat.zero_le _, Nat.zero_le _⟩ dX0_bestDepth_19 rfl (fun H locs hW => ?_)
        refine lv_istore (lv' := [(4, .int q19), (0, .ref (a o)), (1, .int x1), (2, .int x2), (3, .int x3)]) hx hb dX0_bestDepth_22 hl (by decide) rfl (fun ls hl => ?_)
        refine lv_iload hx hb dX0_bestDepth_24 (lv_at hl 0 rfl) ?_
        refine lv_bipush (v := 6) hx hb dX0_bestDepth_26 (by decide) ?_
        refine lv_iload hx hb dX0_bestDepth_28 (lv_at hl 0 rfl) ?_
        refine lv_isub hx hb dX0_bestDepth_30 ?_
        refine k_max C0 hl.1 mm_X0_94 (by decide) (Nat.le_of_ble_eq_true rfl) dX0_bestDepth_31 ?_
        refine lv_topi (fun v34 ev34 => ?_)
        replace hf := nm_s ev34 hf
        refine lv_istore (lv' := [(5, .int v34), (4, .int q19), (0, .ref (a o)), (1, .int x1), (2, .int x2), (3, .int x3)]) hx hb dX0_bestDepth_34 hl (by decide) rfl (fun ls hl => ?_)
        refine lv_iload hx hb dX0_bestDepth_36 (lv_at hl 0 rfl) ?_
        refine lv_aload_n hx hb dX0_bestDepth_38 rfl (lv_at hl 2 rfl) ?_
        refine k_get C0 hW 0 0 0 (v := .int (as_found w)) rfl (by decide) inX0 mf_X0_29 rfl rfl dX0_bestDepth_39 ?_
        refine lv_icmp_ge (tgt := 53) hx hb dX0_bestDepth_42 (by decide) (fun c42_3 => ?_) (fun c42_3 => ?_)
        · replace hf := if_t c42_3 hf
          exact J53 _ _ _ _ hf hF _ _ _ hW (lv_sub hl [2, 3, 4, 5] rfl)
        · replace hf := if_f c42_3 hf
          refine lv_aload_n hx hb dX0_bestDepth_45 rfl (lv_at hl 2 rfl) ?_
          refine lv_iload hx hb dX0_bestDepth_46 (lv_at hl 0 rfl) ?_
          refine k_put C0 hW 0 0 0 rfl (by decide) inX0 tyX0_ok nmX0 mf_X0_29 rfl rfl rfl rfl (Nat.le_of_ble_eq_true rfl) dX0_bestDepth_48 (fun H locs hW => ?_)
          have hW : Wd G A s.heap H ((bAs G a o (b q) (as_set_found w v34)) ++ (bWh G b q nw)) locs := hW
          refine lv_iload_n hx hb dX0_bestDepth_51 rfl (lv_at hl 5 rfl) ?_
          refine lv_istore_n (lv' := [(2, .int x3), (5, .int v34), (4, .int q19), (0, .ref (a o)), (1, .int x1), (3, .int x3)]) hx hb dX0_bestDepth_52 rfl hl (by decide) rfl (fun ls hl => ?_)
          exact J53 _ _ _ _ hf hF _ _ _ hW (lv_sub hl [3, 4, 0, 5] rfl)
    exact lp_sound (fun sg r hb hz => B10 sg.1 sg.2.1 sg.2.2 r hb hz)
  obtain ⟨r, hr⟩ : ∃ r, f_X0_bestDepth w nw x1 = some r ∧ r = out := ⟨out, hf, rfl⟩
  replace hf := hr.1
  have hF := hr.2
  clear hr
  unfold f_X0_bestDepth at hf
  refine lv_iconst (v := 0) hx hb dX0_bestDepth_0 (by decide) ?_
  refine lv_istore_n (lv' := [(2, .int (0 : Int32)), (0, .ref (a o)), (1, .int x1)]) hx hb dX0_bestDepth_1 rfl hl (by decide) rfl (fun ls hl => ?_)
  refine lv_aload_n hx hb dX0_bestDepth_2 rfl (lv_at hl 1 rfl) ?_
  refine lv_bipush (v := 7) hx hb dX0_bestDepth_3 (by decide) ?_
  refine k_put C0 hW 0 0 0 rfl (by decide) inX0 tyX0_ok nmX0 mf_X0_29 rfl rfl rfl rfl (Nat.le_of_ble_eq_true rfl) dX0_bestDepth_5 (fun H locs hW => ?_)
  have hW : Wd G A s.heap H ((bAs G a o (b q) (as_set_found w (7 : Int32))) ++ (bWh G b q nw)) locs := hW
  refine lv_iconst (v := 0) hx hb dX0_bestDepth_8 (by decide) ?_
  refine lv_istore_n (lv' := [(3, .int (0 : Int32)), (2, .int (0 : Int32)), (0, .ref (a o)), (1, .int x1)]) hx hb dX0_bestDepth_9 rfl hl (by decide) rfl (fun ls hl => ?_)
  exact L10  fuel ((0 : Int32), (0 : Int32), (as_set_found w (7 : Int32))) _ hf hF _ _ _ hW (lv_sub hl [2, 3, 1, 0] rfl)

def f_X0_bestStand_J65 (w : As) (nw : Wh) (x1 : Int32) (x2 : Int32) : Option ((Int32 × Int32 × As) ⊕ (Int32 × As)) :=
  some (Sum.inl (x1, (x2 + (1 : Int32)), w))
def f_X0_bestStand_B10 (nw : Wh) (x1 : Int32) (x2 : Int32) (w : As) : Option ((Int32 × Int32 × As) ⊕ (Int32 × As)) :=
  if (wh_spokes nw) ≤ x2 then (Option.map Sum.inr (some (x1, w))) else (Option.bind (f_X4_take (as_trial w) nw) (fun q29 => Option.bind (f_X4_limpsIn (wh_set_stand q29 x2) (20 : Int32)) (fun q46 => if (as_found w) ≤ q46.1 then (f_X0_bestStand_J65 (as_set_trial w q46.2) nw x1 x2) else (f_X0_bestStand_J65 (as_set_trial (as_set_found w q46.1) q46.2) nw x2 x2))))
def f_X0_bestStand_L10 (nw : Wh) (sg : Int32 × Int32 × As) : Option ((Int32 × Int32 × As) ⊕ (Int32 × As)) := f_X0_bestStand_B10 nw sg.1 sg.2.1 sg.2.2
def f_X0_bestStand (w : As) (nw : Wh) : Option (Int32 × As) :=
  lp (f_X0_bestStand_L10 nw) fuel ((0 : Int32), (0 : Int32), (as_set_found w (21 : Int32)))
set_option maxRecDepth 100000 in
set_option maxHeartbeats 8000000 in
theorem c_X0_bestStand (l : Launch) (G : GG) (a : Nat → Nat) (o : Nat) (b : Nat → Nat) (q : Nat) (w : As) (nw : Wh) (out : Int32 × As) (hf : f_X0_bestStand w nw = some out) : Cn l G 4 yX0_bestStand cX0_bestStand 4 (some .int) [.ref (a o)] ((bAs G a o (b q) w) ++ (bWh G b q nw)) (some (.int out.1)) ((bAs G a o (b q) out.2) ++ (bWh G b q nw)) := by
  refine cn_start (by decide) (Nat.le_of_ble_eq_true rfl) ?_
  intro p e s m below meth c A ls C0 hW hl
  have hx := C0.1
  have hb := C0.2.1
  have hl : lv_has ls 4 [(0, .ref (a o))] := hl
  have L10 : ∀ (k8 : Nat) (sg : Int32 × Int32 × As) (o9 : Int32 × As), lp (f_X0_bestStand_L10 nw) k8 sg = some o9 → (fun (r : Int32 × As) => r = out) o9 → (fun (sg : Int32 × Int32 × As) => ∀ (H : Heap) (locs : List Loc) (ls : Array Slot), Wd G A s.heap H ((bAs G a o (b q) sg.2.2) ++ (bWh G b q nw)) locs → lv_has ls 4 [(0, .ref (a o)), (1, .int sg.1), (2, .int sg.2.1)] → WW p l e 4 s m [.ref (a o)] below meth c G A (some (.int out.1)) (((bAs G a o (b q) out.2) ++ (bWh G b q nw))) H locs 10 ls []) sg := by
    have J65 : ∀ (x1 : Int32) (x2 : Int32) (w : As) (r : (Int32 × Int32 × As) ⊕ (Int32 × As)), f_X0_bestStand_J65 w nw x1 x2 = some r → (Sum.elim (fun (sg : Int32 × Int32 × As) => ∀ (H : Heap) (locs : List Loc) (ls : Array Slot), Wd G A s.heap H ((bAs G a o (b q) sg.2.2) ++ (bWh G b q nw)) locs → lv_has ls 4 [(0, .ref (a o)), (1, .int sg.1), (2, .int sg.2.1)] → WW p l e 4 s m [.ref (a o)] below meth c G A (some (.int out.1)) (((bAs G a o (b q) out.2) ++ (bWh G b q nw))) H locs 10 ls []) (fun (r : Int32 × As) => r = out)) r → ∀ (H : Heap) (locs : List Loc) (ls : Array Slot), Wd G A s.heap H ((bAs G a o (b q) w) ++ (bWh G b q nw)) locs → lv_has ls 4 [(0, .ref (a o)), (1, .int x1), (2, .int x2)] → WW p l e 4 s m [.ref (a o)] below meth c G A (some (.int out.1)) (((bAs G a o (b q) out.2) ++ (bWh G b q nw))) H locs 65 ls [] := by
      intro x1 x2 w r hf hF H locs ls hW hl
      unfold f_X0_bestStand_J65 at hf
      refine lv_iinc (v := (x2 + (1 : Int32))) (lv' := [(2, .int (x2 + (1 : Int32))), (0, .ref (a o)), (1, .int x1)]) hx hb dX0_bestStand_65 hl (k := 2) rfl rfl (by decide) rfl (fun ls hl => ?_)
      refine lv_goto (tgt := 10) hx hb dX0_bestStand_68 (by decide) ?_
      have e1 := Option.some.inj hf
      subst e1
      exact (elim_l hF) _ _ _ hW (lv_sub hl [1, 2, 0] rfl)
    have B10 : ∀ (x1 : Int32) (x2 : Int32) (w : As) (r : (Int32 × Int32 × As) ⊕ (Int32 × As)), f_X0_bestStand_B10 nw x1 x2 w = some r → (Sum.elim (fun (sg : Int32 × Int32 × As) => ∀ (H : Heap) (locs : List Loc) (ls : Array Slot), Wd G A s.heap H ((bAs G a o (b q) sg.2.2) ++ (bWh G b q nw)) locs → lv_has ls 4 [(0, .ref (a o)), (1, .int sg.1), (2, .int sg.2.1)] → WW p l e 4 s m [.ref (a o)] below meth c G A (some (.int out.1)) (((bAs G a o (b q) out.2) ++ (bWh G b q nw))) H locs 10 ls []) (fun (r : Int32 × As) => r = out)) r → ∀ (H : Heap) (locs : List Loc) (ls : Array Slot), Wd G A s.heap H ((bAs G a o (b q) w) ++ (bWh G b q nw)) locs → lv_has ls 4 [(0, .ref (a o)), (1, .int x1), (2, .int x2)] → WW p l e 4 s m [.ref (a o)] below meth c G A (some (.int out.1)) (((bAs G a o (b q) out.2) ++ (bWh G b q nw))) H locs 10 ls [] := by
      intro x1 x2 w r hf hF H locs ls hW hl
      unfold f_X0_bestStand_B10 at hf
      refine lv_iload_n hx hb dX0_bestStand_10 rfl (lv_at hl 2 rfl) ?_
      refine lv_aload_n hx hb dX0_bestStand_11 rfl (lv_at hl 0 rfl) ?_
      refine k_get C0 hW 0 1 0 (v := .ref (b q)) rfl (by decide) inX0 mf_X0_9 rfl rfl dX0_bestStand_12 ?_
      refine k_get C0 hW 4 5 7 (v := .int (wh_spokes nw)) rfl (by decide) inX4 mf_X0_47 rfl rfl dX0_bestStand_15 ?_
      refine lv_icmp_ge (tgt := 71) hx hb dX0_bestStand_18 (by decide) (fun c18_1 => ?_) (fun c18_1 => ?_)
      · replace hf := if_t c18_1 hf
        obtain ⟨r2, e2⟩ := om_s hf
        replace hf := e2.1
        replace e2 := e2.2
        subst e2
        replace hF := elim_r hF
        refine lv_iload_n hx hb dX0_bestStand_71 rfl (lv_at hl 1 rfl) ?_
        have e1 := Option.some.inj hf
        subst e1
        have hF : ((x1, w) : Int32 × As) = out := hF
        subst hF
        exact k_iret C0 hW dX0_bestStand_72
      · replace hf := if_f c18_1 hf
        refine lv_aload_n hx hb dX0_bestStand_21 rfl (lv_at hl 0 rfl) ?_
        refine k_get C0 hW 0 2 0 (v := .ref (a (o + 1))) rfl (by decide) inX0 mf_X0_18 rfl rfl dX0_bestStand_22 ?_
        refine lv_aload_n hx hb dX0_bestStand_25 rfl (lv_at hl 0 rfl) ?_
        refine k_get C0 hW 0 1 0 (v := .ref (b q)) rfl (by decide) inX0 mf_X0_9 rfl rfl dX0_bestStand_26 ?_
        obtain ⟨q29, hq29⟩ := ob_s hf
        replace hf := hq29.2
        replace hq29 := hq29.1
        refine cV1 (rest := []) (ws1 := ((bAs G a o (b q) (as_set_trial w q29)) ++ (bWh G b q nw))) (st1 := []) C0 hW hl.1 (c_X4_take l G a (o + 1) b q (as_trial w) nw _ hq29) cb_X4_take mm_X0_21 [1, 2, 3, 4, 5, 6, 7, 8, 9, 10, 11, 12] rfl rfl rfl 0 4 rfl rfl rfl (by decide) rfl rfl (Nat.le_of_ble_eq_true rfl) ⟨Nat.zero_le _, Nat.zero_le _⟩ dX0_bestStand_29 rfl rfl (fun H locs hW => ?_)
        refine lv_aload_n hx hb dX0_bestStand_32 rfl (lv_at hl 0 rfl) ?_
        refine k_get C0 hW 0 2 0 (v := .ref (a (o + 1))) rfl (by decide) inX0 mf_X0_18 rfl rfl dX0_bestStand_33 ?_
        refine lv_iload_n hx hb dX0_bestStand_36 rfl (lv_at hl 2 rfl) ?_
        refine k_put C0 hW 4 7 1 rfl (by decide) inX4 tyX4_ok nmX4 mf_X0_66 rfl rfl rfl rfl (Nat.le_of_ble_eq_true rfl) dX0_bestStand_37 (fun H locs hW => ?_)
        have hW : Wd G A s.heap H ((bAs G a o (b q) (as_set_trial w (wh_set_stand q29 x2))) ++ (bWh G b q nw)) locs := hW
        refine lv_aload_n hx hb dX0_bestStand_40 rfl (lv_at hl 0 rfl) ?_
        refine k_get C0 hW 0 2 0 (v := .ref (a (o + 1))) rfl (by decide) inX0 mf_X0_18 rfl rfl dX0_bestStand_41 ?_
        refine lv_bipush (v := 20) hx hb dX0_bestStand_44 (by decide) ?_
        obtain ⟨q46, hq46⟩ := ob_s hf
        replace hf := hq46.2
        replace hq46 := hq46.1
        refine cV1 (rest := []) (ws1 := ((bAs G a o (b q) (as_set_trial w q46.2)) ++ (bWh G b q nw))) (st1 := [.int q46.1]) C0 hW hl.1 (c_X4_limpsIn l G a (o + 1) (wh_set_stand q29 x2) (20 : Int32) _ hq46) cb_X4_limpsIn mm_X0_69 [1, 2, 3, 4, 5, 6] rfl rfl rfl 0 4 rfl rfl rfl (by decide) rfl rfl (Nat.le_of_ble_eq_true rfl) ⟨Nat.zero_le _, Nat.zero_le _⟩ dX0_bestStand_46 rfl rfl (fun H locs hW => ?_)
        refine lv_istore_n (lv' := [(3, .int q46.1), (0, .ref (a o)), (1, .int x1), (2, .int x2)]) hx hb dX0_bestStand_49 rfl hl (by decide) rfl (fun ls hl => ?_)
        refine lv_iload_n hx hb dX0_bestStand_50 rfl (lv_at hl 0 rfl) ?_
        refine lv_aload_n hx hb dX0_bestStand_51 rfl (lv_at hl 1 rfl) ?_
        refine k_get C0 hW 0 0 0 (v := .int (as_found w)) rfl (by decide) inX0 mf_X0_29 rfl rfl dX0_bestStand_52 ?_
        refine lv_icmp_ge (tgt := 65) hx hb dX0_bestStand_55 (by decide) (fun c55_2 => ?_) (fun c55_2 => ?_)
        · replace hf := if_t c55_2 hf
          exact J65 _ _ _ _ hf hF _ _ _ hW (lv_sub hl [1, 2, 3] rfl)
        · replace hf := if_f c55_2 hf
          refine lv_aload_n hx hb dX0_bestStand_58 rfl (lv_at hl 1 rfl) ?_
          refine lv_iload_n hx hb dX0_bestStand_59 rfl (lv_at hl 0 rfl) ?_
          refine k_put C0 hW 0 0 0 rfl (by decide) inX0 tyX0_ok nmX0 mf_X0_29 rfl rfl rfl rfl (Nat.le_of_ble_eq_true rfl) dX0_bestStand_60 (fun H locs hW => ?_)
          have hW : Wd G A s.heap H ((bAs G a o (b q) (as_set_trial (as_set_found w q46.1) q46.2)) ++ (bWh G b q nw)) locs := hW
          refine lv_iload_n hx hb dX0_bestStand_63 rfl (lv_at hl 3 rfl) ?_
          refine lv_istore_n (lv' := [(1, .int x2), (3, .int q46.1), (0, .ref (a o)), (2, .int x2)]) hx hb dX0_bestStand_64 rfl hl (by decide) rfl (fun ls hl => ?_)
          exact J65 _ _ _ _ hf hF _ _ _ hW (lv_sub hl [2, 0, 3] rfl)
    exact lp_sound (fun sg r hb hz => B10 sg.1 sg.2.1 sg.2.2 r hb hz)
  obtain ⟨r, hr⟩ : ∃ r, f_X0_bestStand w nw = some r ∧ r = out := ⟨out, hf, rfl⟩
  replace hf := hr.1
  have hF := hr.2
  clear hr
  unfold f_X0_bestStand at hf
  refine lv_iconst (v := 0) hx hb dX0_bestStand_0 (by decide) ?_
  refine lv_istore_n (lv' := [(1, .int (0 : Int32)), (0, .ref (a o))]) hx hb dX0_bestStand_1 rfl hl (by decide) rfl (fun ls hl => ?_)
  refine lv_aload_n hx hb dX0_bestStand_2 rfl (lv_at hl 1 rfl) ?_
  refine lv_bipush (v := 21) hx hb dX0_bestStand_3 (by decide) ?_
  refine k_put C0 hW 0 0 0 rfl (by decide) inX0 tyX0_ok nmX0 mf_X0_29 rfl rfl rfl rfl (Nat.le_of_ble_eq_true rfl) dX0_bestStand_5 (fun H locs hW => ?_)
  have hW : Wd G A s.heap H ((bAs G a o (b q) (as_set_found w (21 : Int32))) ++ (bWh G b q nw)) locs := hW
  refine lv_iconst (v := 0) hx hb dX0_bestStand_8 (by decide) ?_
  refine lv_istore_n (lv' := [(2, .int (0 : Int32)), (1, .int (0 : Int32)), (0, .ref (a o))]) hx hb dX0_bestStand_9 rfl hl (by decide) rfl (fun ls hl => ?_)
  exact L10  fuel ((0 : Int32), (0 : Int32), (as_set_found w (21 : Int32))) _ hf hF _ _ _ hW (lv_sub hl [2, 1, 0] rfl)

def f_X4_putIn_J13 (w : Wh) (x1 : Int32) (t0 : Int32) : Option (Int32 × Wh) :=
  gd (inb x1 8) (some (t0, (wh_set_there (wh_set_wear w (upd (wh_wear w) (ix x1) (0 : Int32))) ((wh_there w) ||| (jshl (1 : Int32) x1)))))
def f_X4_putIn (w : Wh) (x1 : Int32) : Option (Int32 × Wh) :=
  Option.bind (f_X4_isThere w x1) (fun q2 => if q2 = 0 then (f_X4_putIn_J13 w x1 (1 : Int32)) else (f_X4_putIn_J13 w x1 (0 : Int32)))
set_option maxRecDepth 100000 in
set_option maxHeartbeats 8000000 in
theorem c_X4_putIn (l : Launch) (G : GG) (a : Nat → Nat) (o : Nat) (w : Wh) (x1 : Int32) (out : Int32 × Wh) (hf : f_X4_putIn w x1 = some out) : Cn l G 1 yX4_putIn cX4_putIn 3 (some .int) [.ref (a o), .int x1] (bWh G a o w) (some (.int out.1)) (bWh G a o out.2) := by
  refine cn_start (by decide) (Nat.le_of_ble_eq_true rfl) ?_
  intro p e s m below meth c A ls C0 hW hl
  have hx := C0.1
  have hb := C0.2.1
  have hl : lv_has ls 3 [(0, .ref (a o)), (1, .int x1)] := hl
  have J13 : ∀ (t0 : Int32) (w : Wh) (r : Int32 × Wh), f_X4_putIn_J13 w x1 t0 = some r → (fun (r : Int32 × Wh) => r = out) r → ∀ (H : Heap) (locs : List Loc) (ls : Array Slot), Wd G A s.heap H (bWh G a o w) locs → lv_has ls 3 [(0, .ref (a o)), (1, .int x1)] → WW p l e 1 s m [.ref (a o), .int x1] below meth c G A (some (.int out.1)) ((bWh G a o out.2)) H locs 13 ls [.int t0] := by
    intro t0 w r hf hF H locs ls hW hl
    unfold f_X4_putIn_J13 at hf
    refine lv_istore_n (lv' := [(2, .int t0), (0, .ref (a o)), (1, .int x1)]) hx hb dX4_putIn_13 rfl hl (by decide) rfl (fun ls hl => ?_)
    refine lv_aload_n hx hb dX4_putIn_14 rfl (lv_at hl 1 rfl) ?_
    refine lv_dup hx hb dX4_putIn_15 rfl ?_
    refine k_get C0 hW 4 9 0 (v := .int (wh_there w)) rfl (by decide) inX4 mf_X4_46 rfl rfl dX4_putIn_16 ?_
    refine lv_iconst (v := 1) hx hb dX4_putIn_19 (by decide) ?_
    refine lv_iload_n hx hb dX4_putIn_20 rfl (lv_at hl 2 rfl) ?_
    refine lv_ishl hx hb dX4_putIn_21 ?_
    refine lv_ior hx hb dX4_putIn_22 ?_
    refine k_put C0 hW 4 9 0 rfl (by decide) inX4 tyX4_ok nmX4 mf_X4_46 rfl rfl rfl rfl (Nat.le_of_ble_eq_true rfl) dX4_putIn_23 (fun H locs hW => ?_)
    have hW : Wd G A s.heap H (bWh G a o (wh_set_there w ((wh_there w) ||| (jshl (1 : Int32) x1)))) locs := hW
    refine lv_aload_n hx hb dX4_putIn_26 rfl (lv_at hl 1 rfl) ?_
    refine k_get C0 hW 4 4 0 (v := .ref (a (o + 5))) rfl (by decide) inX4 mf_X4_24 rfl rfl dX4_putIn_27 ?_
    refine lv_iload_n hx hb dX4_putIn_30 rfl (lv_at hl 2 rfl) ?_
    refine lv_iconst (v := 0) hx hb dX4_putIn_31 (by decide) ?_
    have g32_2 := (gd_some hf).1; replace hf := (gd_some hf).2
    refine k_iast C0 hW 5 (ix x1) rfl (inb_in g32_2) rfl dX4_putIn_32 (fun H locs hW => ?_)
    have hW : Wd G A s.heap H (bWh G a o (wh_set_there (wh_set_wear w (upd (wh_wear w) (ix x1) (0 : Int32))) ((wh_there w) ||| (jshl (1 : Int32) x1)))) locs := hW
    refine lv_iload_n hx hb dX4_putIn_33 rfl (lv_at hl 0 rfl) ?_
    have e1 := Option.some.inj hf
    subst e1
    have hF : ((t0, (wh_set_there (wh_set_wear w (upd (wh_wear w) (ix x1) (0 : Int32))) ((wh_there w) ||| (jshl (1 : Int32) x1)))) : Int32 × Wh) = out := hF
    subst hF
    exact k_iret C0 hW dX4_putIn_34
  obtain ⟨r, hr⟩ : ∃ r, f_X4_putIn w x1 = some r ∧ r = out := ⟨out, hf, rfl⟩
  replace hf := hr.1
  have hF := hr.2
  clear hr
  unfold f_X4_putIn at hf
  refine lv_aload_n hx hb dX4_putIn_0 rfl (lv_at hl 0 rfl) ?_
  refine lv_iload_n hx hb dX4_putIn_1 rfl (lv_at hl 1 rfl) ?_
  obtain ⟨q2, hq2⟩ := ob_s hf
  replace hf := hq2.2
  replace hq2 := hq2.1
  refine cW1 (rest := []) (ws1 := (bWh G a o w)) (st1 := [.int q2]) C0 hW hl.1 (c_X4_isThere l G a o w x1 _ hq2) cb_X4_isThere mm_X4_70 rfl 0 4 rfl rfl rfl (by decide) rfl rfl (Nat.le_of_ble_eq_true rfl) ⟨Nat.zero_le _, Nat.zero_le _⟩ dX4_putIn_2 rfl (fun H locs hW => ?_)
  refine lv_if_eq (tgt := 12) hx hb dX4_putIn_5 (by decide) (fun c5_1 => ?_) (fun c5_1 => ?_)
  · replace hf := if_t c5_1 hf
    refine lv_iconst (v := 1) hx hb dX4_putIn_12 (by decide) ?_
    exact J13 _ _ _ hf hF _ _ _ hW (lv_sub hl [0, 1] rfl)
  · replace hf := if_f c5_1 hf
    refine lv_iconst (v := 0) hx hb dX4_putIn_8 (by decide) ?_
    refine lv_goto (tgt := 13) hx hb dX4_putIn_9 (by decide) ?_
    exact J13 _ _ _ hf hF _ _ _ hW (lv_sub hl [0, 1] rfl)

def f_X4_putInAll_J25 (w : Wh) (x1 : Int32) (x2 : Int32) : Option ((Int32 × Wh) ⊕ (Wh)) :=
  some (Sum.inl ((x2 + (1 : Int32)), w))
def f_X4_putInAll_B2 (x1 : Int32) (x2 : Int32) (w : Wh) : Option ((Int32 × Wh) ⊕ (Wh)) :=
  if (wh_spokes w) ≤ x2 then (Option.map Sum.inr (some w)) else (if ((jshr x1 x2) &&& (1 : Int32)) = (1 : Int32) then (Option.bind (f_X4_putIn w x2) (fun q21 => f_X4_putInAll_J25 q21.2 x1 x2)) else (f_X4_putInAll_J25 w x1 x2))
def f_X4_putInAll_L2 (x1 : Int32) (sg : Int32 × Wh) : Option ((Int32 × Wh) ⊕ (Wh)) := f_X4_putInAll_B2 x1 sg.1 sg.2
def f_X4_putInAll (w : Wh) (x1 : Int32) : Option (Wh) :=
  lp (f_X4_putInAll_L2 x1) fuel ((0 : Int32), w)
set_option maxRecDepth 100000 in
set_option maxHeartbeats 8000000 in
theorem c_X4_putInAll (l : Launch) (G : GG) (a : Nat → Nat) (o : Nat) (w : Wh) (x1 : Int32) (out : Wh) (hf : f_X4_putInAll w x1 = some out) : Cn l G 2 yX4_putInAll cX4_putInAll 3 (none) [.ref (a o), .int x1] (bWh G a o w) (none) (bWh G a o out) := by
  refine cn_start (by decide) (Nat.le_of_ble_eq_true rfl) ?_
  intro p e s m below meth c A ls C0 hW hl
  have hx := C0.1
  have hb := C0.2.1
  have hl : lv_has ls 3 [(0, .ref (a o)), (1, .int x1)] := hl
  have L2 : ∀ (k8 : Nat) (sg : Int32 × Wh) (o9 : Wh), lp (f_X4_putInAll_L2 x1) k8 sg = some o9 → (fun (r : Wh) => r = out) o9 → (fun (sg : Int32 × Wh) => ∀ (H : Heap) (locs : List Loc) (ls : Array Slot), Wd G A s.heap H (bWh G a o sg.2) locs → lv_has ls 3 [(0, .ref (a o)), (1, .int x1), (2, .int sg.1)] → WW p l e 2 s m [.ref (a o), .int x1] below meth c G A (none) ((bWh G a o out)) H locs 2 ls []) sg := by
    have J25 : ∀ (x2 : Int32) (w : Wh) (r : (Int32 × Wh) ⊕ (Wh)), f_X4_putInAll_J25 w x1 x2 = some r → (Sum.elim (fun (sg : Int32 × Wh) => ∀ (H : Heap) (locs : List Loc) (ls : Array Slot), Wd G A s.heap H (bWh G a o sg.2) locs → lv_has ls 3 [(0, .ref (a o)), (1, .int x1), (2, .int sg.1)] → WW p l e 2 s m [.ref (a o), .int x1] below meth c G A (none) ((bWh G a o out)) H locs 2 ls []) (fun (r : Wh) => r = out)) r → ∀ (H : Heap) (locs : List Loc) (ls : Array Slot), Wd G A s.heap H (bWh G a o w) locs → lv_has ls 3 [(0, .ref (a o)), (1, .int x1), (2, .int x2)] → WW p l e 2 s m [.ref (a o), .int x1] below meth c G A (none) ((bWh G a o out)) H locs 25 ls [] := by
      intro x2 w r hf hF H locs ls hW hl
      unfold f_X4_putInAll_J25 at hf
      refine lv_iinc (v := (x2 + (1 : Int32))) (lv' := [(2, .int (x2 + (1 : Int32))), (0, .ref (a o)), (1, .int x1)]) hx hb dX4_putInAll_25 hl (k := 2) rfl rfl (by decide) rfl (fun ls hl => ?_)
      refine lv_goto (tgt := 2) hx hb dX4_putInAll_28 (by decide) ?_
      have e1 := Option.some.inj hf
      subst e1
      exact (elim_l hF) _ _ _ hW (lv_sub hl [1, 2, 0] rfl)
    have B2 : ∀ (x2 : Int32) (w : Wh) (r : (Int32 × Wh) ⊕ (Wh)), f_X4_putInAll_B2 x1 x2 w = some r → (Sum.elim (fun (sg : Int32 × Wh) => ∀ (H : Heap) (locs : List Loc) (ls : Array Slot), Wd G A s.heap H (bWh G a o sg.2) locs → lv_has ls 3 [(0, .ref (a o)), (1, .int x1), (2, .int sg.1)] → WW p l e 2 s m [.ref (a o), .int x1] below meth c G A (none) ((bWh G a o out)) H locs 2 ls []) (fun (r : Wh) => r = out)) r → ∀ (H : Heap) (locs : List Loc) (ls : Array Slot), Wd G A s.heap H (bWh G a o w) locs → lv_has ls 3 [(0, .ref (a o)), (1, .int x1), (2, .int x2)] → WW p l e 2 s m [.ref (a o), .int x1] below meth c G A (none) ((bWh G a o out)) H locs 2 ls [] := by
      intro x2 w r hf hF H locs ls hW hl
      unfold f_X4_putInAll_B2 at hf
      refine lv_iload_n hx hb dX4_putInAll_2 rfl (lv_at hl 2 rfl) ?_
      refine lv_aload_n hx hb dX4_putInAll_3 rfl (lv_at hl 0 rfl) ?_
      refine k_get C0 hW 4 5 0 (v := .int (wh_spokes w)) rfl (by decide) inX4 mf_X4_33 rfl rfl dX4_putInAll_4 ?_
      refine lv_icmp_ge (tgt := 31) hx hb dX4_putInAll_7 (by decide) (fun c7_1 => ?_) (fun c7_1 => ?_)
      · replace hf := if_t c7_1 hf
        obtain ⟨r2, e2⟩ := om_s hf
        replace hf := e2.1
        replace e2 := e2.2
        subst e2
        replace hF := elim_r hF
        have e1 := Option.some.inj hf
        subst e1
        have hF : (w : Wh) = out := hF
        subst hF
        exact k_vret C0 hW dX4_putInAll_31
      · replace hf := if_f c7_1 hf
        refine lv_iload_n hx hb dX4_putInAll_10 rfl (lv_at hl 1 rfl) ?_
        refine lv_iload_n hx hb dX4_putInAll_11 rfl (lv_at hl 2 rfl) ?_
        refine lv_ishr hx hb dX4_putInAll_12 ?_
        refine lv_iconst (v := 1) hx hb dX4_putInAll_13 (by decide) ?_
        refine lv_iand hx hb dX4_putInAll_14 ?_
        refine lv_iconst (v := 1) hx hb dX4_putInAll_15 (by decide) ?_
        refine lv_icmp_ne (tgt := 25) hx hb dX4_putInAll_16 (by decide) (fun c16_2 => ?_) (fun c16_2 => ?_)
        · replace hf := if_f c16_2 hf
          exact J25 _ _ _ hf hF _ _ _ hW (lv_sub hl [0, 1, 2] rfl)
        · replace hf := if_t c16_2 hf
          refine lv_aload_n hx hb dX4_putInAll_19 rfl (lv_at hl 0 rfl) ?_
          refine lv_iload_n hx hb dX4_putInAll_20 rfl (lv_at hl 2 rfl) ?_
          obtain ⟨q21, hq21⟩ := ob_s hf
          replace hf := hq21.2
          replace hq21 := hq21.1
          refine cW1 (rest := []) (ws1 := (bWh G a o q21.2)) (st1 := [.int q21.1]) C0 hW hl.1 (c_X4_putIn l G a o w x2 _ hq21) cb_X4_putIn mm_X4_96 rfl 0 4 rfl rfl rfl (by decide) rfl rfl (Nat.le_of_ble_eq_true rfl) ⟨Nat.zero_le _, Nat.zero_le _⟩ dX4_putInAll_21 rfl (fun H locs hW => ?_)
          refine lv_pop hx hb dX4_putInAll_24 rfl ?_
          exact J25 _ _ _ hf hF _ _ _ hW (lv_sub hl [0, 1, 2] rfl)
    exact lp_sound (fun sg r hb hz => B2 sg.1 sg.2 r hb hz)
  obtain ⟨r, hr⟩ : ∃ r, f_X4_putInAll w x1 = some r ∧ r = out := ⟨out, hf, rfl⟩
  replace hf := hr.1
  have hF := hr.2
  clear hr
  unfold f_X4_putInAll at hf
  refine lv_iconst (v := 0) hx hb dX4_putInAll_0 (by decide) ?_
  refine lv_istore_n (lv' := [(2, .int (0 : Int32)), (0, .ref (a o)), (1, .int x1)]) hx hb dX4_putInAll_1 rfl hl (by decide) rfl (fun ls hl => ?_)
  exact L2  fuel ((0 : Int32), w) _ hf hF _ _ _ hW (lv_sub hl [1, 2, 0] rfl)

def f_X4_reachesGate_J37 (w : Wh) : Option (Int32 × Wh) :=
  if (wh_rut w) < (wh_gateRut w) then (some ((0 : Int32), w)) else (some ((1 : Int32), w))
def f_X4_reachesGate_B2 (x1 : Int32) (w : Wh) : Option ((Int32 × Wh) ⊕ (Int32 × Wh)) :=
  if (60 : Int32) ≤ x1 then (Option.map Sum.inr (f_X4_reachesGate_J37 w)) else (if (wh_gateRut w) ≤ (wh_rut w) then (Option.map Sum.inr (f_X4_reachesGate_J37 w)) else (Option.bind (f_X4_isOver w) (fun q20 => if q20 = 0 then (Option.bind (f_X4_roll w) (fun q27 => some (Sum.inl ((x1 + (1 : Int32)), q27.2)))) else (Option.map Sum.inr (f_X4_reachesGate_J37 w)))))
def f_X4_reachesGate_L2 (sg : Int32 × Wh) : Option ((Int32 × Wh) ⊕ (Int32 × Wh)) := f_X4_reachesGate_B2 sg.1 sg.2
def f_X4_reachesGate (w : Wh) : Option (Int32 × Wh) :=
  lp (f_X4_reachesGate_L2) fuel ((0 : Int32), w)
set_option maxRecDepth 100000 in
set_option maxHeartbeats 8000000 in
theorem c_X4_reachesGate (l : Launch) (G : GG) (a : Nat → Nat) (o : Nat) (w : Wh) (out : Int32 × Wh) (hf : f_X4_reachesGate w = some out) : Cn l G 3 yX4_reachesGate cX4_reachesGate 2 (some .boolean) [.ref (a o)] (bWh G a o w) (some (.int out.1)) (bWh G a o out.2) := by
  refine cn_start (by decide) (Nat.le_of_ble_eq_true rfl) ?_
  intro p e s m below meth c A ls C0 hW hl
  have hx := C0.1
  have hb := C0.2.1
  have hl : lv_has ls 2 [(0, .ref (a o))] := hl
  have J37 : ∀ (w : Wh) (r : Int32 × Wh), f_X4_reachesGate_J37 w = some r → (fun (r : Int32 × Wh) => r = out) r → ∀ (H : Heap) (locs : List Loc) (ls : Array Slot), Wd G A s.heap H (bWh G a o w) locs → lv_has ls 2 [(0, .ref (a o))] → WW p l e 3 s m [.ref (a o)] below meth c G A (some (.int out.1)) ((bWh G a o out.2)) H locs 37 ls [] := by
    intro w r hf hF H locs ls hW hl
    unfold f_X4_reachesGate_J37 at hf
    refine lv_aload_n hx hb dX4_reachesGate_37 rfl (lv_at hl 0 rfl) ?_
    refine k_get C0 hW 4 8 0 (v := .int (wh_rut w)) rfl (by decide) inX4 mf_X4_43 rfl rfl dX4_reachesGate_38 ?_
    refine lv_aload_n hx hb dX4_reachesGate_41 rfl (lv_at hl 0 rfl) ?_
    refine k_get C0 hW 4 6 0 (v := .int (wh_gateRut w)) rfl (by decide) inX4 mf_X4_37 rfl rfl dX4_reachesGate_42 ?_
    refine lv_icmp_lt (tgt := 52) hx hb dX4_reachesGate_45 (by decide) (fun c45_2 => ?_) (fun c45_2 => ?_)
    · replace hf := if_t c45_2 hf
      refine lv_iconst (v := 0) hx hb dX4_reachesGate_52 (by decide) ?_
      have e1 := Option.some.inj hf
      subst e1
      have hF : (((0 : Int32), w) : Int32 × Wh) = out := hF
      subst hF
      exact k_zret C0 hW rfl dX4_reachesGate_53
    · replace hf := if_f c45_2 hf
      refine lv_iconst (v := 1) hx hb dX4_reachesGate_48 (by decide) ?_
      refine lv_goto (tgt := 53) hx hb dX4_reachesGate_49 (by decide) ?_
      have e1 := Option.some.inj hf
      subst e1
      have hF : (((1 : Int32), w) : Int32 × Wh) = out := hF
      subst hF
      exact k_zret C0 hW rfl dX4_reachesGate_53
  have L2 : ∀ (k8 : Nat) (sg : Int32 × Wh) (o9 : Int32 × Wh), lp (f_X4_reachesGate_L2) k8 sg = some o9 → (fun (r : Int32 × Wh) => r = out) o9 → (fun (sg : Int32 × Wh) => ∀ (H : Heap) (locs : List Loc) (ls : Array Slot), Wd G A s.heap H (bWh G a o sg.2) locs → lv_has ls 2 [(0, .ref (a o)), (1, .int sg.1)] → WW p l e 3 s m [.ref (a o)] below meth c G A (some (.int out.1)) ((bWh G a o out.2)) H locs 2 ls []) sg := by
    have B2 : ∀ (x1 : Int32) (w : Wh) (r : (Int32 × Wh) ⊕ (Int32 × Wh)), f_X4_reachesGate_B2 x1 w = some r → (Sum.elim (fun (sg : Int32 × Wh) => ∀ (H : Heap) (locs : List Loc) (ls : Array Slot), Wd G A s.heap H (bWh G a o sg.2) locs → lv_has ls 2 [(0, .ref (a o)), (1, .int sg.1)] → WW p l e 3 s m [.ref (a o)] below meth c G A (some (.int out.1)) ((bWh G a o out.2)) H locs 2 ls []) (fun (r : Int32 × Wh) => r = out)) r → ∀ (H : Heap) (locs : List Loc) (ls : Array Slot), Wd G A s.heap H (bWh G a o w) locs → lv_has ls 2 [(0, .ref (a o)), (1, .int x1)] → WW p l e 3 s m [.ref (a o)] below meth c G A (some (.int out.1)) ((bWh G a o out.2)) H locs 2 ls [] := by
      intro x1 w r hf hF H locs ls hW hl
      unfold f_X4_reachesGate_B2 at hf
      refine lv_iload_n hx hb dX4_reachesGate_2 rfl (lv_at hl 1 rfl) ?_
      refine lv_bipush (v := 60) hx hb dX4_reachesGate_3 (by decide) ?_
      refine lv_icmp_ge (tgt := 37) hx hb dX4_reachesGate_5 (by decide) (fun c5_1 => ?_) (fun c5_1 => ?_)
      · replace hf := if_t c5_1 hf
        obtain ⟨r2, e2⟩ := om_s hf
        replace hf := e2.1
        replace e2 := e2.2
        subst e2
        replace hF := elim_r hF
        exact J37 _ _ hf hF _ _ _ hW (lv_sub hl [0] rfl)
      · replace hf := if_f c5_1 hf
        refine lv_aload_n hx hb dX4_reachesGate_8 rfl (lv_at hl 0 rfl) ?_
        refine k_get C0 hW 4 8 0 (v := .int (wh_rut w)) rfl (by decide) inX4 mf_X4_43 rfl rfl dX4_reachesGate_9 ?_
        refine lv_aload_n hx hb dX4_reachesGate_12 rfl (lv_at hl 0 rfl) ?_
        refine k_get C0 hW 4 6 0 (v := .int (wh_gateRut w)) rfl (by decide) inX4 mf_X4_37 rfl rfl dX4_reachesGate_13 ?_
        refine lv_icmp_ge (tgt := 37) hx hb dX4_reachesGate_16 (by decide) (fun c16_3 => ?_) (fun c16_3 => ?_)
        · replace hf := if_t c16_3 hf
          obtain ⟨r2, e2⟩ := om_s hf
          replace hf := e2.1
          replace e2 := e2.2
          subst e2
          replace hF := elim_r hF
          exact J37 _ _ hf hF _ _ _ hW (lv_sub hl [0] rfl)
        · replace hf := if_f c16_3 hf
          refine lv_aload_n hx hb dX4_reachesGate_19 rfl (lv_at hl 0 rfl) ?_
          obtain ⟨q20, hq20⟩ := ob_s hf
          replace hf := hq20.2
          replace hq20 := hq20.1
          refine cW1 (rest := []) (ws1 := (bWh G a o w)) (st1 := [.int q20]) C0 hW hl.1 (c_X4_isOver l G a o w _ hq20) cb_X4_isOver mm_X4_108 rfl 0 4 rfl rfl rfl (by decide) rfl rfl (Nat.le_of_ble_eq_true rfl) ⟨Nat.zero_le _, Nat.zero_le _⟩ dX4_reachesGate_20 rfl (fun H locs hW => ?_)
          refine lv_if_ne (tgt := 37) hx hb dX4_reachesGate_23 (by decide) (fun c23_4 => ?_) (fun c23_4 => ?_)
          · replace hf := if_f c23_4 hf
            obtain ⟨r2, e2⟩ := om_s hf
            replace hf := e2.1
            replace e2 := e2.2
            subst e2
            replace hF := elim_r hF
            exact J37 _ _ hf hF _ _ _ hW (lv_sub hl [0] rfl)
          · replace hf := if_t c23_4 hf
            refine lv_aload_n hx hb dX4_reachesGate_26 rfl (lv_at hl 0 rfl) ?_
            obtain ⟨q27, hq27⟩ := ob_s hf
            replace hf := hq27.2
            replace hq27 := hq27.1
            refine cW1 (rest := []) (ws1 := (bWh G a o q27.2)) (st1 := [.int q27.1]) C0 hW hl.1 (c_X4_roll l G a o w _ hq27) cb_X4_roll mm_X4_82 rfl 0 4 rfl rfl rfl (by decide) rfl rfl (Nat.le_of_ble_eq_true rfl) ⟨Nat.zero_le _, Nat.zero_le _⟩ dX4_reachesGate_27 rfl (fun H locs hW => ?_)
            refine lv_pop hx hb dX4_reachesGate_30 rfl ?_
            refine lv_iinc (v := (x1 + (1 : Int32))) (lv' := [(1, .int (x1 + (1 : Int32))), (0, .ref (a o))]) hx hb dX4_reachesGate_31 hl (k := 1) rfl rfl (by decide) rfl (fun ls hl => ?_)
            refine lv_goto (tgt := 2) hx hb dX4_reachesGate_34 (by decide) ?_
            have e1 := Option.some.inj hf
            subst e1
            exact (elim_l hF) _ _ _ hW (lv_sub hl [1, 0] rfl)
    exact lp_sound (fun sg r hb hz => B2 sg.1 sg.2 r hb hz)
  obtain ⟨r, hr⟩ : ∃ r, f_X4_reachesGate w = some r ∧ r = out := ⟨out, hf, rfl⟩
  replace hf := hr.1
  have hF := hr.2
  clear hr
  unfold f_X4_reachesGate at hf
  refine lv_iconst (v := 0) hx hb dX4_reachesGate_0 (by decide) ?_
  refine lv_istore_n (lv' := [(1, .int (0 : Int32)), (0, .ref (a o))]) hx hb dX4_reachesGate_1 rfl hl (by decide) rfl (fun ls hl => ?_)
  exact L2  fuel ((0 : Int32), w) _ hf hF _ _ _ hW (lv_sub hl [1, 0] rfl)

def f_X0_reachesGateWith (w : As) (nw : Wh) (x1 : Int32) : Option (Int32 × As) :=
  Option.bind (f_X4_take (as_trial w) nw) (fun q8 => Option.bind (f_X4_putInAll q8 x1) (fun q16 => Option.bind (f_X4_reachesGate q16) (fun q23 => gd (isB q23.1) (some (q23.1, (as_set_trial w q23.2))))))
set_option maxRecDepth 100000 in
set_option maxHeartbeats 8000000 in
theorem c_X0_reachesGateWith (l : Launch) (G : GG) (a : Nat → Nat) (o : Nat) (b : Nat → Nat) (q : Nat) (w : As) (nw : Wh) (x1 : Int32) (out : Int32 × As) (hf : f_X0_reachesGateWith w nw x1 = some out) : Cn l G 4 yX0_reachesGateWith cX0_reachesGateWith 2 (some .boolean) [.ref (a o), .int x1] ((bAs G a o (b q) w) ++ (bWh G b q nw)) (some (.int out.1)) ((bAs G a o (b q) out.2) ++ (bWh G b q nw)) := by
  refine cn_start (by decide) (Nat.le_of_ble_eq_true rfl) ?_
  intro p e s m below meth c A ls C0 hW hl
  have hx := C0.1
  have hb := C0.2.1
  have hl : lv_has ls 2 [(0, .ref (a o)), (1, .int x1)] := hl
  obtain ⟨r, hr⟩ : ∃ r, f_X0_reachesGateWith w nw x1 = some r ∧ r = out := ⟨out, hf, rfl⟩
  replace hf := hr.1
  have hF := hr.2
  clear hr
  unfold f_X0_reachesGateWith at hf
  refine lv_aload_n hx hb dX0_reachesGateWith_0 rfl (lv_at hl 0 rfl) ?_
  refine k_get C0 hW 0 2 0 (v := .ref (a (o + 1))) rfl (by decide) inX0 mf_X0_18 rfl rfl dX0_reachesGateWith_1 ?_
  refine lv_aload_n hx hb dX0_reachesGateWith_4 rfl (lv_at hl 0 rfl) ?_
  refine k_get C0 hW 0 1 0 (v := .ref (b q)) rfl (by decide) inX0 mf_X0_9 rfl rfl dX0_reachesGateWith_5 ?_
  obtain ⟨q8, hq8⟩ := ob_s hf
  replace hf := hq8.2
  replace hq8 := hq8.1
  refine cV1 (rest := []) (ws1 := ((bAs G a o (b q) (as_set_trial w q8)) ++ (bWh G b q nw))) (st1 := []) C0 hW hl.1 (c_X4_take l G a (o + 1) b q (as_trial w) nw _ hq8) cb_X4_take mm_X0_21 [1, 2, 3, 4, 5, 6, 7, 8, 9, 10, 11, 12] rfl rfl rfl 0 4 rfl rfl rfl (by decide) rfl rfl (Nat.le_of_ble_eq_true rfl) ⟨Nat.zero_le _, Nat.zero_le _⟩ dX0_reachesGateWith_8 rfl rfl (fun H locs hW => ?_)
  refine lv_aload_n hx hb dX0_reachesGateWith_11 rfl (lv_at hl 0 rfl) ?_
  refine k_get C0 hW 0 2 0 (v := .ref (a (o + 1))) rfl (by decide) inX0 mf_X0_18 rfl rfl dX0_reachesGateWith_12 ?_
  refine lv_iload_n hx hb dX0_reachesGateWith_15 rfl (lv_at hl 1 rfl) ?_
  obtain ⟨q16, hq16⟩ := ob_s hf
  replace hf := hq16.2
  replace hq16 := hq16.1
  refine cV1 (rest := []) (ws1 := ((bAs G a o (b q) (as_set_trial w q16)) ++ (bWh G b q nw))) (st1 := []) C0 hW hl.1 (c_X4_putInAll l G a (o + 1) q8 x1 _ hq16) cb_X4_putInAll mm_X0_59 [1, 2, 3, 4, 5, 6] rfl rfl rfl 0 4 rfl rfl rfl (by decide) rfl rfl (Nat.le_of_ble_eq_true rfl) ⟨Nat.zero_le _, Nat.zero_le _⟩ dX0_reachesGateWith_16 rfl rfl (fun H locs hW => ?_)
  refine lv_aload_n hx hb dX0_reachesGateWith_19 rfl (lv_at hl 0 rfl) ?_
  refine k_get C0 hW 0 2 0 (v := .ref (a (o + 1))) rfl (by decide) inX0 mf_X0_18 rfl rfl dX0_reachesGateWith_20 ?_
  obtain ⟨q23, hq23⟩ := ob_s hf
  replace hf := hq23.2
  replace hq23 := hq23.1
  refine cV1 (rest := []) (ws1 := ((bAs G a o (b q) (as_set_trial w q23.2)) ++ (bWh G b q nw))) (st1 := [.int q23.1]) C0 hW hl.1 (c_X4_reachesGate l G a (o + 1) q16 _ hq23) cb_X4_reachesGate mm_X0_63 [1, 2, 3, 4, 5, 6] rfl rfl rfl 0 4 rfl rfl rfl (by decide) rfl rfl (Nat.le_of_ble_eq_true rfl) ⟨Nat.zero_le _, Nat.zero_le _⟩ dX0_reachesGateWith_23 rfl rfl (fun H locs hW => ?_)
  have g26_1 := (gd_some hf).1; replace hf := (gd_some hf).2
  have e1 := Option.some.inj hf
  subst e1
  have hF : ((q23.1, (as_set_trial w q23.2)) : Int32 × As) = out := hF
  subst hF
  exact k_zret C0 hW g26_1 dX0_reachesGateWith_26

def f_X0_fewestToGate_J49 (w : As) (nw : Wh) (x1 : Int32) (x2 : Int32) : Option ((Int32 × Int32 × As) ⊕ (Int32 × As)) :=
  some (Sum.inl (x1, (x2 + (1 : Int32)), w))
def f_X0_fewestToGate_J34 (w : As) (nw : Wh) (x1 : Int32) (x2 : Int32) (x3 : Int32) : Option ((Int32 × Int32 × As) ⊕ (Int32 × As)) :=
  Option.bind (f_X0_reachesGateWith w nw x2) (fun q36 => if q36.1 = 0 then (f_X0_fewestToGate_J49 q36.2 nw x1 x2) else (f_X0_fewestToGate_J49 (as_set_found q36.2 x2) nw x3 x2))
def f_X0_fewestToGate_B5 (nw : Wh) (x1 : Int32) (x2 : Int32) (w : As) : Option ((Int32 × Int32 × As) ⊕ (Int32 × As)) :=
  if (jshl (1 : Int32) (wh_spokes nw)) ≤ x2 then (Option.map Sum.inr (some (x1, w))) else (Option.bind (f_J6_bitCount_0f7a4 x2) (fun q19 => if x1 = (-9 : Int32) then (f_X0_fewestToGate_J34 w nw x1 x2 q19) else (if x1 ≤ q19 then (f_X0_fewestToGate_J49 w nw x1 x2) else (f_X0_fewestToGate_J34 w nw x1 x2 q19))))
def f_X0_fewestToGate_L5 (nw : Wh) (sg : Int32 × Int32 × As) : Option ((Int32 × Int32 × As) ⊕ (Int32 × As)) := f_X0_fewestToGate_B5 nw sg.1 sg.2.1 sg.2.2
def f_X0_fewestToGate (w : As) (nw : Wh) : Option (Int32 × As) :=
  lp (f_X0_fewestToGate_L5 nw) fuel ((-9 : Int32), (0 : Int32), w)
set_option maxRecDepth 100000 in
set_option maxHeartbeats 8000000 in
theorem c_X0_fewestToGate (l : Launch) (G : GG) (a : Nat → Nat) (o : Nat) (b : Nat → Nat) (q : Nat) (w : As) (nw : Wh) (out : Int32 × As) (hf : f_X0_fewestToGate w nw = some out) : Cn l G 5 yX0_fewestToGate cX0_fewestToGate 4 (some .int) [.ref (a o)] ((bAs G a o (b q) w) ++ (bWh G b q nw)) (some (.int out.1)) ((bAs G a o (b q) out.2) ++ (bWh G b q nw)) := by
  refine cn_start (by decide) (Nat.le_of_ble_eq_true rfl) ?_
  intro p e s m below meth c A ls C0 hW hl
  have hx := C0.1
  have hb := C0.2.1
  have hl : lv_has ls 4 [(0, .ref (a o))] := hl
  have L5 : ∀ (k8 : Nat) (sg : Int32 × Int32 × As) (o9 : Int32 × As), lp (f_X0_fewestToGate_L5 nw) k8 sg = some o9 → (fun (r : Int32 × As) => r = out) o9 → (fun (sg : Int32 × Int32 × As) => ∀ (H : Heap) (locs : List Loc) (ls : Array Slot), Wd G A s.heap H ((bAs G a o (b q) sg.2.2) ++ (bWh G b q nw)) locs → lv_has ls 4 [(0, .ref (a o)), (1, .int sg.1), (2, .int sg.2.1)] → WW p l e 5 s m [.ref (a o)] below meth c G A (some (.int out.1)) (((bAs G a o (b q) out.2) ++ (bWh G b q nw))) H locs 5 ls []) sg := by
    have J49 : ∀ (x1 : Int32) (x2 : Int32) (w : As) (r : (Int32 × Int32 × As) ⊕ (Int32 × As)), f_X0_fewestToGate_J49 w nw x1 x2 = some r → (Sum.elim (fun (sg : Int32 × Int32 × As) => ∀ (H : Heap) (locs : List Loc) (ls : Array Slot), Wd G A s.heap H ((bAs G a o (b q) sg.2.2) ++ (bWh G b q nw)) locs → lv_has ls 4 [(0, .ref (a o)), (1, .int sg.1), (2, .int sg.2.1)] → WW p l e 5 s m [.ref (a o)] below meth c G A (some (.int out.1)) (((bAs G a o (b q) out.2) ++ (bWh G b q nw))) H locs 5 ls []) (fun (r : Int32 × As) => r = out)) r → ∀ (H : Heap) (locs : List Loc) (ls : Array Slot), Wd G A s.heap H ((bAs G a o (b q) w) ++ (bWh G b q nw)) locs → lv_has ls 4 [(0, .ref (a o)), (1, .int x1), (2, .int x2)] → WW p l e 5 s m [.ref (a o)] below meth c G A (some (.int out.1)) (((bAs G a o (b q) out.2) ++ (bWh G b q nw))) H locs 49 ls [] := by
      intro x1 x2 w r hf hF H locs ls hW hl
      unfold f_X0_fewestToGate_J49 at hf
      refine lv_iinc (v := (x2 + (1 : Int32))) (lv' := [(2, .int (x2 + (1 : Int32))), (0, .ref (a o)), (1, .int x1)]) hx hb dX0_fewestToGate_49 hl (k := 2) rfl rfl (by decide) rfl (fun ls hl => ?_)
      refine lv_goto (tgt := 5) hx hb dX0_fewestToGate_52 (by decide) ?_
      have e1 := Option.some.inj hf
      subst e1
      exact (elim_l hF) _ _ _ hW (lv_sub hl [1, 2, 0] rfl)
    have J34 : ∀ (x1 : Int32) (x2 : Int32) (x3 : Int32) (w : As) (r : (Int32 × Int32 × As) ⊕ (Int32 × As)), f_X0_fewestToGate_J34 w nw x1 x2 x3 = some r → (Sum.elim (fun (sg : Int32 × Int32 × As) => ∀ (H : Heap) (locs : List Loc) (ls : Array Slot), Wd G A s.heap H ((bAs G a o (b q) sg.2.2) ++ (bWh G b q nw)) locs → lv_has ls 4 [(0, .ref (a o)), (1, .int sg.1), (2, .int sg.2.1)] → WW p l e 5 s m [.ref (a o)] below meth c G A (some (.int out.1)) (((bAs G a o (b q) out.2) ++ (bWh G b q nw))) H locs 5 ls []) (fun (r : Int32 × As) => r = out)) r → ∀ (H : Heap) (locs : List Loc) (ls : Array Slot), Wd G A s.heap H ((bAs G a o (b q) w) ++ (bWh G b q nw)) locs → lv_has ls 4 [(0, .ref (a o)), (1, .int x1), (2, .int x2), (3, .int x3)] → WW p l e 5 s m [.ref (a o)] below meth c G A (some (.int out.1)) (((bAs G a o (b q) out.2) ++ (bWh G b q nw))) H locs 34 ls [] := by
      intro x1 x2 x3 w r hf hF H locs ls hW hl
      unfold f_X0_fewestToGate_J34 at hf
      refine lv_aload_n hx hb dX0_fewestToGate_34 rfl (lv_at hl 0 rfl) ?_
      refine lv_iload_n hx hb dX0_fewestToGate_35 rfl (lv_at hl 2 rfl) ?_
      obtain ⟨q36, hq36⟩ := ob_s hf
      replace hf := hq36.2
      replace hq36 := hq36.1
      refine cW1 (rest := []) (ws1 := ((bAs G a o (b q) q36.2) ++ (bWh G b q nw))) (st1 := [.int q36.1]) C0 hW hl.1 (c_X0_reachesGateWith l G a o b q w nw x2 _ hq36) cb_X0_reachesGateWith mm_X0_55 rfl 0 0 rfl rfl rfl (by decide) rfl rfl (Nat.le_of_ble_eq_true rfl) ⟨Nat.zero_le _, Nat.zero_le _⟩ dX0_fewestToGate_36 rfl (fun H locs hW => ?_)
      refine lv_if_eq (tgt := 49) hx hb dX0_fewestToGate_39 (by decide) (fun c39_3 => ?_) (fun c39_3 => ?_)
      · replace hf := if_t c39_3 hf
        exact J49 _ _ _ _ hf hF _ _ _ hW (lv_sub hl [0, 1, 2] rfl)
      · replace hf := if_f c39_3 hf
        refine lv_iload_n hx hb dX0_fewestToGate_42 rfl (lv_at hl 3 rfl) ?_
        refine lv_istore_n (lv' := [(1, .int x3), (0, .ref (a o)), (2, .int x2), (3, .int x3)]) hx hb dX0_fewestToGate_43 rfl hl (by decide) rfl (fun ls hl => ?_)
        refine lv_aload_n hx hb dX0_fewestToGate_44 rfl (lv_at hl 1 rfl) ?_
        refine lv_iload_n hx hb dX0_fewestToGate_45 rfl (lv_at hl 2 rfl) ?_
        refine k_put C0 hW 0 0 0 rfl (by decide) inX0 tyX0_ok nmX0 mf_X0_29 rfl rfl rfl rfl (Nat.le_of_ble_eq_true rfl) dX0_fewestToGate_46 (fun H locs hW => ?_)
        have hW : Wd G A s.heap H ((bAs G a o (b q) (as_set_found q36.2 x2)) ++ (bWh G b q nw)) locs := hW
        exact J49 _ _ _ _ hf hF _ _ _ hW (lv_sub hl [1, 0, 2] rfl)
    have B5 : ∀ (x1 : Int32) (x2 : Int32) (w : As) (r : (Int32 × Int32 × As) ⊕ (Int32 × As)), f_X0_fewestToGate_B5 nw x1 x2 w = some r → (Sum.elim (fun (sg : Int32 × Int32 × As) => ∀ (H : Heap) (locs : List Loc) (ls : Array Slot), Wd G A s.heap H ((bAs G a o (b q) sg.2.2) ++ (bWh G b q nw)) locs → lv_has ls 4 [(0, .ref (a o)), (1, .int sg.1), (2, .int sg.2.1)] → WW p l e 5 s m [.ref (a o)] below meth c G A (some (.int out.1)) (((bAs G a o (b q) out.2) ++ (bWh G b q nw))) H locs 5 ls []) (fun (r : Int32 × As) => r = out)) r → ∀ (H : Heap) (locs : List Loc) (ls : Array Slot), Wd G A s.heap H ((bAs G a o (b q) w) ++ (bWh G b q nw)) locs → lv_has ls 4 [(0, .ref (a o)), (1, .int x1), (2, .int x2)] → WW p l e 5 s m [.ref (a o)] below meth c G A (some (.int out.1)) (((bAs G a o (b q) out.2) ++ (bWh G b q nw))) H locs 5 ls [] := by
      intro x1 x2 w r hf hF H locs ls hW hl
      unfold f_X0_fewestToGate_B5 at hf
      refine lv_iload_n hx hb dX0_fewestToGate_5 rfl (lv_at hl 2 rfl) ?_
      refine lv_iconst (v := 1) hx hb dX0_fewestToGate_6 (by decide) ?_
      refine lv_aload_n hx hb dX0_fewestToGate_7 rfl (lv_at hl 0 rfl) ?_
      refine k_get C0 hW 0 1 0 (v := .ref (b q)) rfl (by decide) inX0 mf_X0_9 rfl rfl dX0_fewestToGate_8 ?_
      refine k_get C0 hW 4 5 7 (v := .int (wh_spokes nw)) rfl (by decide) inX4 mf_X0_47 rfl rfl dX0_fewestToGate_11 ?_
      refine lv_ishl hx hb dX0_fewestToGate_14 ?_
      refine lv_icmp_ge (tgt := 55) hx hb dX0_fewestToGate_15 (by decide) (fun c15_1 => ?_) (fun c15_1 => ?_)
      · replace hf := if_t c15_1 hf
        obtain ⟨r2, e2⟩ := om_s hf
        replace hf := e2.1
        replace e2 := e2.2
        subst e2
        replace hF := elim_r hF
        refine lv_iload_n hx hb dX0_fewestToGate_55 rfl (lv_at hl 1 rfl) ?_
        have e1 := Option.some.inj hf
        subst e1
        have hF : ((x1, w) : Int32 × As) = out := hF
        subst hF
        exact k_iret C0 hW dX0_fewestToGate_56
      · replace hf := if_f c15_1 hf
        refine lv_iload_n hx hb dX0_fewestToGate_18 rfl (lv_at hl 2 rfl) ?_
        obtain ⟨q19, hq19⟩ := ob_s hf
        replace hf := hq19.2
        replace hq19 := hq19.1
        refine cS0 (rest := []) (st1 := [.int q19]) C0 hW hl.1 (c_J6_bitCount_0f7a4 l G x2 _ hq19) cb_J6_bitCount_0f7a4 mm_X0_50 [] rfl rfl (by decide) rfl rfl (Nat.le_of_ble_eq_true rfl) ⟨Nat.zero_le _, Nat.zero_le _⟩ dX0_fewestToGate_19 rfl (fun H locs hW => ?_)
        refine lv_istore_n (lv' := [(3, .int q19), (0, .ref (a o)), (1, .int x1), (2, .int x2)]) hx hb dX0_fewestToGate_22 rfl hl (by decide) rfl (fun ls hl => ?_)
        refine lv_iload_n hx hb dX0_fewestToGate_23 rfl (lv_at hl 2 rfl) ?_
        refine lv_bipush (v := -9) hx hb dX0_fewestToGate_24 (by decide) ?_
        refine lv_icmp_eq (tgt := 34) hx hb dX0_fewestToGate_26 (by decide) (fun c26_2 => ?_) (fun c26_2 => ?_)
        · replace hf := if_t c26_2 hf
          exact J34 _ _ _ _ _ hf hF _ _ _ hW (lv_sub hl [1, 2, 3, 0] rfl)
        · replace hf := if_f c26_2 hf
          refine lv_iload_n hx hb dX0_fewestToGate_29 rfl (lv_at hl 0 rfl) ?_
          refine lv_iload_n hx hb dX0_fewestToGate_30 rfl (lv_at hl 2 rfl) ?_
          refine lv_icmp_ge (tgt := 49) hx hb dX0_fewestToGate_31 (by decide) (fun c31_4 => ?_) (fun c31_4 => ?_)
          · replace hf := if_t c31_4 hf
            exact J49 _ _ _ _ hf hF _ _ _ hW (lv_sub hl [1, 2, 3] rfl)
          · replace hf := if_f c31_4 hf
            exact J34 _ _ _ _ _ hf hF _ _ _ hW (lv_sub hl [1, 2, 3, 0] rfl)
    exact lp_sound (fun sg r hb hz => B5 sg.1 sg.2.1 sg.2.2 r hb hz)
  obtain ⟨r, hr⟩ : ∃ r, f_X0_fewestToGate w nw = some r ∧ r = out := ⟨out, hf, rfl⟩
  replace hf := hr.1
  have hF := hr.2
  clear hr
  unfold f_X0_fewestToGate at hf
  refine lv_bipush (v := -9) hx hb dX0_fewestToGate_0 (by decide) ?_
  refine lv_istore_n (lv' := [(1, .int (-9 : Int32)), (0, .ref (a o))]) hx hb dX0_fewestToGate_2 rfl hl (by decide) rfl (fun ls hl => ?_)
  refine lv_iconst (v := 0) hx hb dX0_fewestToGate_3 (by decide) ?_
  refine lv_istore_n (lv' := [(2, .int (0 : Int32)), (1, .int (-9 : Int32)), (0, .ref (a o))]) hx hb dX0_fewestToGate_4 rfl hl (by decide) rfl (fun ls hl => ?_)
  exact L5  fuel ((-9 : Int32), (0 : Int32), w) _ hf hF _ _ _ hW (lv_sub hl [2, 1, 0] rfl)

def f_X0_limpsWith (w : As) (nw : Wh) (x1 : Int32) (x2 : Int32) : Option (Int32 × As) :=
  Option.bind (f_X4_take (as_trial w) nw) (fun q8 => Option.bind (f_X4_putInAll q8 x2) (fun q16 => Option.bind (f_X4_limpsIn (wh_set_there q16 x1) (12 : Int32)) (fun q33 => some (q33.1, (as_set_trial w q33.2)))))
set_option maxRecDepth 100000 in
set_option maxHeartbeats 8000000 in
theorem c_X0_limpsWith (l : Launch) (G : GG) (a : Nat → Nat) (o : Nat) (b : Nat → Nat) (q : Nat) (w : As) (nw : Wh) (x1 : Int32) (x2 : Int32) (out : Int32 × As) (hf : f_X0_limpsWith w nw x1 x2 = some out) : Cn l G 4 yX0_limpsWith cX0_limpsWith 3 (some .int) [.ref (a o), .int x1, .int x2] ((bAs G a o (b q) w) ++ (bWh G b q nw)) (some (.int out.1)) ((bAs G a o (b q) out.2) ++ (bWh G b q nw)) := by
  refine cn_start (by decide) (Nat.le_of_ble_eq_true rfl) ?_
  intro p e s m below meth c A ls C0 hW hl
  have hx := C0.1
  have hb := C0.2.1
  have hl : lv_has ls 3 [(0, .ref (a o)), (1, .int x1), (2, .int x2)] := hl
  obtain ⟨r, hr⟩ : ∃ r, f_X0_limpsWith w nw x1 x2 = some r ∧ r = out := ⟨out, hf, rfl⟩
  replace hf := hr.1
  have hF := hr.2
  clear hr
  unfold f_X0_limpsWith at hf
  refine lv_aload_n hx hb dX0_limpsWith_0 rfl (lv_at hl 0 rfl) ?_
  refine k_get C0 hW 0 2 0 (v := .ref (a (o + 1))) rfl (by decide) inX0 mf_X0_18 rfl rfl dX0_limpsWith_1 ?_
  refine lv_aload_n hx hb dX0_limpsWith_4 rfl (lv_at hl 0 rfl) ?_
  refine k_get C0 hW 0 1 0 (v := .ref (b q)) rfl (by decide) inX0 mf_X0_9 rfl rfl dX0_limpsWith_5 ?_
  obtain ⟨q8, hq8⟩ := ob_s hf
  replace hf := hq8.2
  replace hq8 := hq8.1
  refine cV1 (rest := []) (ws1 := ((bAs G a o (b q) (as_set_trial w q8)) ++ (bWh G b q nw))) (st1 := []) C0 hW hl.1 (c_X4_take l G a (o + 1) b q (as_trial w) nw _ hq8) cb_X4_take mm_X0_21 [1, 2, 3, 4, 5, 6, 7, 8, 9, 10, 11, 12] rfl rfl rfl 0 4 rfl rfl rfl (by decide) rfl rfl (Nat.le_of_ble_eq_true rfl) ⟨Nat.zero_le _, Nat.zero_le _⟩ dX0_limpsWith_8 rfl rfl (fun H locs hW => ?_)
  refine lv_aload_n hx hb dX0_limpsWith_11 rfl (lv_at hl 0 rfl) ?_
  refine k_get C0 hW 0 2 0 (v := .ref (a (o + 1))) rfl (by decide) inX0 mf_X0_18 rfl rfl dX0_limpsWith_12 ?_
  refine lv_iload_n hx hb dX0_limpsWith_15 rfl (lv_at hl 2 rfl) ?_
  obtain ⟨q16, hq16⟩ := ob_s hf
  replace hf := hq16.2
  replace hq16 := hq16.1
  refine cV1 (rest := []) (ws1 := ((bAs G a o (b q) (as_set_trial w q16)) ++ (bWh G b q nw))) (st1 := []) C0 hW hl.1 (c_X4_putInAll l G a (o + 1) q8 x2 _ hq16) cb_X4_putInAll mm_X0_59 [1, 2, 3, 4, 5, 6] rfl rfl rfl 0 4 rfl rfl rfl (by decide) rfl rfl (Nat.le_of_ble_eq_true rfl) ⟨Nat.zero_le _, Nat.zero_le _⟩ dX0_limpsWith_16 rfl rfl (fun H locs hW => ?_)
  refine lv_aload_n hx hb dX0_limpsWith_19 rfl (lv_at hl 0 rfl) ?_
  refine k_get C0 hW 0 2 0 (v := .ref (a (o + 1))) rfl (by decide) inX0 mf_X0_18 rfl rfl dX0_limpsWith_20 ?_
  refine lv_iload_n hx hb dX0_limpsWith_23 rfl (lv_at hl 1 rfl) ?_
  refine k_put C0 hW 4 9 1 rfl (by decide) inX4 tyX4_ok nmX4 mf_X0_76 rfl rfl rfl rfl (Nat.le_of_ble_eq_true rfl) dX0_limpsWith_24 (fun H locs hW => ?_)
  have hW : Wd G A s.heap H ((bAs G a o (b q) (as_set_trial w (wh_set_there q16 x1))) ++ (bWh G b q nw)) locs := hW
  refine lv_aload_n hx hb dX0_limpsWith_27 rfl (lv_at hl 0 rfl) ?_
  refine k_get C0 hW 0 2 0 (v := .ref (a (o + 1))) rfl (by decide) inX0 mf_X0_18 rfl rfl dX0_limpsWith_28 ?_
  refine lv_bipush (v := 12) hx hb dX0_limpsWith_31 (by decide) ?_
  obtain ⟨q33, hq33⟩ := ob_s hf
  replace hf := hq33.2
  replace hq33 := hq33.1
  refine cV1 (rest := []) (ws1 := ((bAs G a o (b q) (as_set_trial w q33.2)) ++ (bWh G b q nw))) (st1 := [.int q33.1]) C0 hW hl.1 (c_X4_limpsIn l G a (o + 1) (wh_set_there q16 x1) (12 : Int32) _ hq33) cb_X4_limpsIn mm_X0_69 [1, 2, 3, 4, 5, 6] rfl rfl rfl 0 4 rfl rfl rfl (by decide) rfl rfl (Nat.le_of_ble_eq_true rfl) ⟨Nat.zero_le _, Nat.zero_le _⟩ dX0_limpsWith_33 rfl rfl (fun H locs hW => ?_)
  have e1 := Option.some.inj hf
  subst e1
  have hF : ((q33.1, (as_set_trial w q33.2)) : Int32 × As) = out := hF
  subst hF
  exact k_iret C0 hW dX0_limpsWith_36

def f_X0_fight_J209 (fr : As → Wh → Int32 → Int32 → Int32 → Int32 → Int32 → Int32 → Option (Int32 × As)) (w : As) (nw : Wh) (x1 : Int32) (x2 : Int32) (x3 : Int32) (x4 : Int32) (x7 : Int32) (x8 : Int32) (x9 : Int32) (x10 : Int32) : Option ((Int32 × Int32 × Int32 × Int32 × As) ⊕ (Int32 × As)) :=
  some (Sum.inl (x7, x8, x9, (x10 + (1 : Int32)), w))
def f_X0_fight_J163 (fr : As → Wh → Int32 → Int32 → Int32 → Int32 → Int32 → Int32 → Option (Int32 × As)) (w : As) (nw : Wh) (x1 : Int32) (x2 : Int32) (x3 : Int32) (x4 : Int32) (x7 : Int32) (x8 : Int32) (x9 : Int32) (x10 : Int32) (x11 : Int32) (x12 : Int32) : Option ((Int32 × Int32 × Int32 × Int32 × As) ⊕ (Int32 × As)) :=
  if x2 = 0 then (if x12 = 0 then (Option.bind (fr w nw (x1 - (1 : Int32)) (1 : Int32) (x3 ||| x11) (x4 ||| x11) x8 x9) (fun q192 => nm (jmin x9 (jmin x7 q192.1)) (fun v207 => f_X0_fight_J209 fr q192.2 nw x1 x2 x3 x4 (jmin x7 q192.1) x8 v207 x10))) else (f_X0_fight_J209 fr w nw x1 x2 x3 x4 x7 x8 x9 x10)) else (f_X0_fight_J209 fr w nw x1 x2 x3 x4 x7 x8 x9 x10)
def f_X0_fight_J113 (fr : As → Wh → Int32 → Int32 → Int32 → Int32 → Int32 → Int32 → Option (Int32 × As)) (w : As) (nw : Wh) (x1 : Int32) (x2 : Int32) (x3 : Int32) (x4 : Int32) (x7 : Int32) (x8 : Int32) (x9 : Int32) (x10 : Int32) (x11 : Int32) (t0 : Int32) : Option ((Int32 × Int32 × Int32 × Int32 × As) ⊕ (Int32 × As)) :=
  if x2 = 0 then (f_X0_fight_J163 fr w nw x1 x2 x3 x4 x7 x8 x9 x10 x11 t0) else (if t0 = 0 then (f_X0_fight_J163 fr w nw x1 x2 x3 x4 x7 x8 x9 x10 x11 t0) else (Option.bind (fr w nw (x1 - (1 : Int32)) (0 : Int32) (x3 &&& (x11 ^^^ (-1 : Int32))) x4 x8 x9) (fun q143 => nm (jmax x8 (jmax x7 q143.1)) (fun v158 => f_X0_fight_J209 fr q143.2 nw x1 x2 x3 x4 (jmax x7 q143.1) v158 x9 x10))))
def f_X0_fight_B76 (fr : As → Wh → Int32 → Int32 → Int32 → Int32 → Int32 → Int32 → Option (Int32 × As)) (nw : Wh) (x1 : Int32) (x2 : Int32) (x3 : Int32) (x4 : Int32) (x7 : Int32) (x8 : Int32) (x9 : Int32) (x10 : Int32) (w : As) : Option ((Int32 × Int32 × Int32 × Int32 × As) ⊕ (Int32 × As)) :=
  if (wh_spokes nw) ≤ x10 then (Option.map Sum.inr (some (x7, w))) else (if x9 ≤ x8 then (Option.map Sum.inr (some (x7, w))) else (if (x3 &&& (jshl (1 : Int32) x10)) = 0 then (f_X0_fight_J113 fr w nw x1 x2 x3 x4 x7 x8 x9 x10 (jshl (1 : Int32) x10) (0 : Int32)) else (f_X0_fight_J113 fr w nw x1 x2 x3 x4 x7 x8 x9 x10 (jshl (1 : Int32) x10) (1 : Int32))))
def f_X0_fight_L76 (fr : As → Wh → Int32 → Int32 → Int32 → Int32 → Int32 → Int32 → Option (Int32 × As)) (nw : Wh) (x1 : Int32) (x2 : Int32) (x3 : Int32) (x4 : Int32) (sg : Int32 × Int32 × Int32 × Int32 × As) : Option ((Int32 × Int32 × Int32 × Int32 × As) ⊕ (Int32 × As)) := f_X0_fight_B76 fr nw x1 x2 x3 x4 sg.1 sg.2.1 sg.2.2.1 sg.2.2.2.1 sg.2.2.2.2
def f_X0_fight_J71 (fr : As → Wh → Int32 → Int32 → Int32 → Int32 → Int32 → Int32 → Option (Int32 × As)) (w : As) (nw : Wh) (x1 : Int32) (x2 : Int32) (x3 : Int32) (x4 : Int32) (x7 : Int32) (x8 : Int32) (t0 : Int32) : Option (Int32 × As) :=
  lp (f_X0_fight_L76 fr nw x1 x2 x3 x4) fuel (x7, x8, t0, (0 : Int32), w)
def f_X0_fight_J53 (fr : As → Wh → Int32 → Int32 → Int32 → Int32 → Int32 → Int32 → Option (Int32 × As)) (w : As) (nw : Wh) (x1 : Int32) (x2 : Int32) (x3 : Int32) (x4 : Int32) (x6 : Int32) (x7 : Int32) (t0 : Int32) : Option (Int32 × As) :=
  if x2 = 0 then (f_X0_fight_J71 fr w nw x1 x2 x3 x4 x7 t0 (jmin x6 x7)) else (f_X0_fight_J71 fr w nw x1 x2 x3 x4 x7 t0 x6)
def f_X0_fight_J25 (fr : As → Wh → Int32 → Int32 → Int32 → Int32 → Int32 → Int32 → Option (Int32 × As)) (w : As) (nw : Wh) (x1 : Int32) (x2 : Int32) (x3 : Int32) (x4 : Int32) (x5 : Int32) (x6 : Int32) (t1 : Int32) (t2 : Int32) : Option (Int32 × As) :=
  Option.bind (fr w nw t1 t2 x3 x4 x5 x6) (fun q32 => if x2 = 0 then (f_X0_fight_J53 fr q32.2 nw x1 x2 x3 x4 x6 q32.1 x5) else (f_X0_fight_J53 fr q32.2 nw x1 x2 x3 x4 x6 q32.1 (jmax x5 q32.1)))
def f_X0_fight_F (fr : As → Wh → Int32 → Int32 → Int32 → Int32 → Int32 → Int32 → Option (Int32 × As)) (w : As) (nw : Wh) (x1 : Int32) (x2 : Int32) (x3 : Int32) (x4 : Int32) (x5 : Int32) (x6 : Int32) : Option (Int32 × As) :=
  if 0 < x1 then (if x2 = 0 then (f_X0_fight_J25 fr w nw x1 x2 x3 x4 x5 x6 (x1 - (1 : Int32)) (1 : Int32)) else (f_X0_fight_J25 fr w nw x1 x2 x3 x4 x5 x6 (x1 - (1 : Int32)) (0 : Int32))) else (Option.bind (f_X0_limpsWith w nw x3 x4) (fun q8 => some (q8.1, q8.2)))
set_option maxRecDepth 100000 in
set_option maxHeartbeats 8000000 in
theorem c_X0_fight_F (l : Launch) (G : GG) (fr : As → Wh → Int32 → Int32 → Int32 → Int32 → Int32 → Int32 → Option (Int32 × As)) (k9 : Nat) (ih : ∀ (a : Nat → Nat) (o : Nat) (b : Nat → Nat) (q : Nat) (w : As) (nw : Wh) (x1 : Int32) (x2 : Int32) (x3 : Int32) (x4 : Int32) (x5 : Int32) (x6 : Int32) (out : Int32 × As), fr w nw x1 x2 x3 x4 x5 x6 = some out → Cn l G (5 + k9) yX0_fight cX0_fight 13 (some .int) [.ref (a o), .int x1, .int x2, .int x3, .int x4, .int x5, .int x6] ((bAs G a o (b q) w) ++ (bWh G b q nw)) (some (.int out.1)) ((bAs G a o (b q) out.2) ++ (bWh G b q nw))) (a : Nat → Nat) (o : Nat) (b : Nat → Nat) (q : Nat) (w : As) (nw : Wh) (x1 : Int32) (x2 : Int32) (x3 : Int32) (x4 : Int32) (x5 : Int32) (x6 : Int32) (out : Int32 × As) (hf : f_X0_fight_F fr w nw x1 x2 x3 x4 x5 x6 = some out) : Cn l G (5 + (k9 + 1)) yX0_fight cX0_fight 13 (some .int) [.ref (a o), .int x1, .int x2, .int x3, .int x4, .int x5, .int x6] ((bAs G a o (b q) w) ++ (bWh G b q nw)) (some (.int out.1)) ((bAs G a o (b q) out.2) ++ (bWh G b q nw)) := by
  refine cn_start (by decide) (Nat.le_of_ble_eq_true rfl) ?_
  intro p e s m below meth c A ls C0 hW hl
  have hx := C0.1
  have hb := C0.2.1
  have hl : lv_has ls 13 [(0, .ref (a o)), (1, .int x1), (2, .int x2), (3, .int x3), (4, .int x4), (5, .int x5), (6, .int x6)] := hl
  have L76 : ∀ (k8 : Nat) (sg : Int32 × Int32 × Int32 × Int32 × As) (o9 : Int32 × As), lp (f_X0_fight_L76 fr nw x1 x2 x3 x4) k8 sg = some o9 → (fun (r : Int32 × As) => r = out) o9 → (fun (sg : Int32 × Int32 × Int32 × Int32 × As) => ∀ (H : Heap) (locs : List Loc) (ls : Array Slot), Wd G A s.heap H ((bAs G a o (b q) sg.2.2.2.2) ++ (bWh G b q nw)) locs → lv_has ls 13 [(0, .ref (a o)), (1, .int x1), (2, .int x2), (3, .int x3), (4, .int x4), (7, .int sg.1), (8, .int sg.2.1), (9, .int sg.2.2.1), (10, .int sg.2.2.2.1)] → WW p l e (5 + (k9 + 1)) s m [.ref (a o), .int x1, .int x2, .int x3, .int x4, .int x5, .int x6] below meth c G A (some (.int out.1)) (((bAs G a o (b q) out.2) ++ (bWh G b q nw))) H locs 76 ls []) sg := by
    have J209 : ∀ (x7 : Int32) (x8 : Int32) (x9 : Int32) (x10 : Int32) (w : As) (r : (Int32 × Int32 × Int32 × Int32 × As) ⊕ (Int32 × As)), f_X0_fight_J209 fr w nw x1 x2 x3 x4 x7 x8 x9 x10 = some r → (Sum.elim (fun (sg : Int32 × Int32 × Int32 × Int32 × As) => ∀ (H : Heap) (locs : List Loc) (ls : Array Slot), Wd G A s.heap H ((bAs G a o (b q) sg.2.2.2.2) ++ (bWh G b q nw)) locs → lv_has ls 13 [(0, .ref (a o)), (1, .int x1), (2, .int x2), (3, .int x3), (4, .int x4), (7, .int sg.1), (8, .int sg.2.1), (9, .int sg.2.2.1), (10, .int sg.2.2.2.1)] → WW p l e (5 + (k9 + 1)) s m [.ref (a o), .int x1, .int x2, .int x3, .int x4, .int x5, .int x6] below meth c G A (some (.int out.1)) (((bAs G a o (b q) out.2) ++ (bWh G b q nw))) H locs 76 ls []) (fun (r : Int32 × As) => r = out)) r → ∀ (H : Heap) (locs : List Loc) (ls : Array Slot), Wd G A s.heap H ((bAs G a o (b q) w) ++ (bWh G b q nw)) locs → lv_has ls 13 [(0, .ref (a o)), (1, .int x1), (2, .int x2), (3, .int x3), (4, .int x4), (7, .int x7), (8, .int x8), (9, .int x9), (10, .int x10)] → WW p l e (5 + (k9 + 1)) s m [.ref (a o), .int x1, .int x2, .int x3, .int x4, .int x5, .int x6] below meth c G A (some (.int out.1)) (((bAs G a o (b q) out.2) ++ (bWh G b q nw))) H locs 209 ls [] := by
      intro x7 x8 x9 x10 w r hf hF H locs ls hW hl
      unfold f_X0_fight_J209 at hf
      refine lv_iinc (v := (x10 + (1 : Int32))) (lv' := [(10, .int (x10 + (1 : Int32))), (0, .ref (a o)), (1, .int x1), (2, .int x2), (3, .int x3), (4, .int x4), (7, .int x7), (8, .int x8), (9, .int x9)]) hx hb dX0_fight_209 hl (k := 8) rfl rfl (by decide) rfl (fun ls hl => ?_)
      refine lv_goto (tgt := 76) hx hb dX0_fight_212 (by decide) ?_
      have e1 := Option.some.inj hf
      subst e1
      exact (elim_l hF) _ _ _ hW (lv_sub hl [1, 2, 3, 4, 5, 6, 7, 8, 0] rfl)
    have J163 : ∀ (x7 : Int32) (x8 : Int32) (x9 : Int32) (x10 : Int32) (x11 : Int32) (x12 : Int32) (w : As) (r : (Int32 × Int32 × Int32 × Int32 × As) ⊕ (Int32 × As)), f_X0_fight_J163 fr w nw x1 x2 x3 x4 x7 x8 x9 x10 x11 x12 = some r → (Sum.elim (fun (sg : Int32 × Int32 × Int32 × Int32 × As) => ∀ (H : Heap) (locs : List Loc) (ls : Array Slot), Wd G A s.heap H ((bAs G a o (b q) sg.2.2.2.2) ++ (bWh G b q nw)) locs → lv_has ls 13 [(0, .ref (a o)), (1, .int x1), (2, .int x2), (3, .int x3), (4, .int x4), (7, .int sg.1), (8, .int sg.2.1), (9, .int sg.2.2.1), (10, .int sg.2.2.2.1)] → WW p l e (5 + (k9 + 1)) s m [.ref (a o), .int x1, .int x2, .int x3, .int x4, .int x5, .int x6] below meth c G A (some (.int out.1)) (((bAs G a o (b q) out.2) ++ (bWh G b q nw))) H locs 76 ls []) (fun (r : Int32 × As) => r = out)) r → ∀ (H : Heap) (locs : List Loc) (ls : Array Slot), Wd G A s.heap H ((bAs G a o (b q) w) ++ (bWh G b q nw)) locs → lv_has ls 13 [(0, .ref (a o)), (1, .int x1), (2, .int x2), (3, .int x3), (4, .int x4), (7, .int x7), (8, .int x8), (9, .int x9), (10, .int x10), (11, .int x11), (12, .int x12)] → WW p l e (5 + (k9 + 1)) s m [.ref (a o), .int x1, .int x2, .int x3, .int x4, .int x5, .int x6] below meth c G A (some (.int out.1)) (((bAs G a o (b q) out.2) ++ (bWh G b q nw))) H locs 163 ls [] := by
      intro x7 x8 x9 x10 x11 x12 w r hf hF H locs ls hW hl
      unfold f_X0_fight_J163 at hf
      refine lv_iload_n hx hb dX0_fight_163 rfl (lv_at hl 2 rfl) ?_
      refine lv_if_ne (tgt := 209) hx hb dX0_fight_164 (by decide) (fun c164_9 => ?_) (fun c164_9 => ?_)
      · replace hf := if_f c164_9 hf
        exact J209 _ _ _ _ _ _ hf hF _ _ _ hW (lv_sub hl [0, 1, 2, 3, 4, 5, 6, 7, 8] rfl)
      · replace hf := if_t c164_9 hf
        refine lv_iload hx hb dX0_fight_167 (lv_at hl 10 rfl) ?_
        refine lv_if_ne (tgt := 209) hx hb dX0_fight_169 (by decide) (fun c169_10 => ?_) (fun c169_10 => ?_)
        · replace hf := if_f c169_10 hf
          exact J209 _ _ _ _ _ _ hf hF _ _ _ hW (lv_sub hl [0, 1, 2, 3, 4, 5, 6, 7, 8] rfl)
        · replace hf := if_t c169_10 hf
          refine lv_iload hx hb dX0_fight_172 (lv_at hl 5 rfl) ?_
          refine lv_aload_n hx hb dX0_fight_174 rfl (lv_at hl 0 rfl) ?_
          refine lv_iload_n hx hb dX0_fight_175 rfl (lv_at hl 1 rfl) ?_
          refine lv_iconst (v := 1) hx hb dX0_fight_176 (by decide) ?_
          refine lv_isub hx hb dX0_fight_177 ?_
          refine lv_iconst (v := 1) hx hb dX0_fight_178 (by decide) ?_
          refine lv_iload_n hx hb dX0_fight_179 rfl (lv_at hl 3 rfl) ?_
          refine lv_iload hx hb dX0_fight_180 (lv_at hl 9 rfl) ?_
          refine lv_ior hx hb dX0_fight_182 ?_
          refine lv_iload hx hb dX0_fight_183 (lv_at hl 4 rfl) ?_
          refine lv_iload hx hb dX0_fight_185 (lv_at hl 9 rfl) ?_
          refine lv_ior hx hb dX0_fight_187 ?_
          refine lv_iload hx hb dX0_fight_188 (lv_at hl 6 rfl) ?_
          refine lv_iload hx hb dX0_fight_190 (lv_at hl 7 rfl) ?_
          obtain ⟨q192, hq192⟩ := ob_s hf
          replace hf := hq192.2
          replace hq192 := hq192.1
          refine cW1 (rest := [.int x7]) (ws1 := ((bAs G a o (b q) q192.2) ++ (bWh G b q nw))) (st1 := [.int q192.1, .int x7]) C0 hW hl.1 (ih a o b q w nw (x1 - (1 : Int32)) (1 : Int32) (x3 ||| x11) (x4 ||| x11) x8 x9 _ hq192) cb_X0_fight mm_X0_113 rfl 0 0 rfl rfl rfl ⟨by show (5 + k9) + 1 ≤ (5 + (k9 + 1)); omega, by show 8 + (13 + 11) + 60 * (5 + k9) ≤ 60 * (5 + (k9 + 1)); omega⟩ rfl rfl (Nat.le_of_ble_eq_true rfl) ⟨Nat.zero_le _, Nat.zero_le _⟩ dX0_fight_192 rfl (fun H locs hW => ?_)
          refine k_min C0 hl.1 mm_X0_117 ⟨by show 1 ≤ (5 + (k9 + 1)); omega, by show 25 ≤ 60 * (5 + (k9 + 1)); omega, Nat.zero_le _, Nat.zero_le _⟩ (Nat.le_of_ble_eq_true rfl) dX0_fight_195 ?_
          refine lv_istore (lv' := [(7, .int (jmin x7 q192.1)), (0, .ref (a o)), (1, .int x1), (2, .int x2), (3, .int x3), (4, .int x4), (8, .int x8), (9, .int x9), (10, .int x10), (11, .int x11), (12, .int x12)]) hx hb dX0_fight_198 hl (by decide) rfl (fun ls hl => ?_)
          refine lv_iload hx hb dX0_fight_200 (lv_at hl 7 rfl) ?_
          refine lv_iload hx hb dX0_fight_202 (lv_at hl 0 rfl) ?_
          refine k_min C0 hl.1 mm_X0_117 ⟨by show 1 ≤ (5 + (k9 + 1)); omega, by show 25 ≤ 60 * (5 + (k9 + 1)); omega, Nat.zero_le _, Nat.zero_le _⟩ (Nat.le_of_ble_eq_true rfl) dX0_fight_204 ?_
          refine lv_topi (fun v207 ev207 => ?_)
          replace hf := nm_s ev207 hf
          refine lv_istore (lv' := [(9, .int v207), (7, .int (jmin x7 q192.1)), (0, .ref (a o)), (1, .int x1), (2, .int x2), (3, .int x3), (4, .int x4), (8, .int x8), (10, .int x10), (11, .int x11), (12, .int x12)]) hx hb dX0_fight_207 hl (by decide) rfl (fun ls hl => ?_)
          exact J209 _ _ _ _ _ _ hf hF _ _ _ hW (lv_sub hl [2, 3, 4, 5, 6, 1, 7, 0, 8] rfl)
    have J113 : ∀ (x7 : Int32) (x8 : Int32) (x9 : Int32) (x10 : Int32) (x11 : Int32) (t0 : Int32) (w : As) (r : (Int32 × Int32 × Int32 × Int32 × As) ⊕ (Int32 × As)), f_X0_fight_J113 fr w nw x1 x2 x3 x4 x7 x8 x9 x10 x11 t0 = some r → (Sum.elim (fun (sg : Int32 × Int32 × Int32 × Int32 × As) => ∀ (H : Heap) (locs : List Loc) (ls : Array Slot), Wd G A s.heap H ((bAs G a o (b q) sg.2.2.2.2) ++ (bWh G b q nw)) locs → lv_has ls 13 [(0, .ref (a o)), (1, .int x1), (2, .int x2), (3, .int x3), (4, .int x4), (7, .int sg.1), (8, .int sg.2.1), (9, .int sg.2.2.1), (10, .int sg.2.2.2.1)] → WW p l e (5 + (k9 + 1)) s m [.ref (a o), .int x1, .int x2, .int x3, .int x4, .int x5, .int x6] below meth c G A (some (.int out.1)) (((bAs G a o (b q) out.2) ++ (bWh G b q nw))) H locs 76 ls []) (fun (r : Int32 × As) => r = out)) r → ∀ (H : Heap) (locs : List Loc) (ls : Array Slot), Wd G A s.heap H ((bAs G a o (b q) w) ++ (bWh G b q nw)) locs → lv_has ls 13 [(0, .ref (a o)), (1, .int x1), (2, .int x2), (3, .int x3), (4, .int x4), (7, .int x7), (8, .int x8), (9, .int x9), (10, .int x10), (11, .int x11)] → WW p l e (5 + (k9 + 1)) s m [.ref (a o), .int x1, .int x2, .int x3, .int x4, .int x5, .int x6] below meth c G A (some (.int out.1)) (((bAs G a o (b q) out.2) ++ (bWh G b q nw))) H locs 113 ls [.int t0] := by
      intro x7 x8 x9 x10 x11 t0 w r hf hF H locs ls hW hl
      unfold f_X0_fight_J113 at hf
      refine lv_istore (lv' := [(12, .int t0), (0, .ref (a o)), (1, .int x1), (2, .int x2), (3, .int x3), (4, .int x4), (7, .int x7), (8, .int x8), (9, .int x9), (10, .int x10), (11, .int x11)]) hx hb dX0_fight_113 hl (by decide) rfl (fun ls hl => ?_)
      refine lv_iload_n hx hb dX0_fight_115 rfl (lv_at hl 3 rfl) ?_
      refine lv_if_eq (tgt := 163) hx hb dX0_fight_116 (by decide) (fun c116_8 => ?_) (fun c116_8 => ?_)
      · replace hf := if_t c116_8 hf
        exact J163 _ _ _ _ _ _ _ _ hf hF _ _ _ hW (lv_sub hl [1, 2, 3, 4, 5, 6, 7, 8, 9, 10, 0] rfl)
      · replace hf := if_f c116_8 hf
        refine lv_iload hx hb dX0_fight_119 (lv_at hl 0 rfl) ?_
        refine lv_if_eq (tgt := 163) hx hb dX0_fight_121 (by decide) (fun c121_12 => ?_) (fun c121_12 => ?_)
        · replace hf := if_t c121_12 hf
          exact J163 _ _ _ _ _ _ _ _ hf hF _ _ _ hW (lv_sub hl [1, 2, 3, 4, 5, 6, 7, 8, 9, 10, 0] rfl)
        · replace hf := if_f c121_12 hf
          refine lv_iload hx hb dX0_fight_124 (lv_at hl 6 rfl) ?_
          refine lv_aload_n hx hb dX0_fight_126 rfl (lv_at hl 1 rfl) ?_
          refine lv_iload_n hx hb dX0_fight_127 rfl (lv_at hl 2 rfl) ?_
          refine lv_iconst (v := 1) hx hb dX0_fight_128 (by decide) ?_
          refine lv_isub hx hb dX0_fight_129 ?_
          refine lv_iconst (v := 0) hx hb dX0_fight_130 (by decide) ?_
          refine lv_iload_n hx hb dX0_fight_131 rfl (lv_at hl 4 rfl) ?_
          refine lv_iload hx hb dX0_fight_132 (lv_at hl 10 rfl) ?_
          refine lv_iconst (v := -1) hx hb dX0_fight_134 (by decide) ?_
          refine lv_ixor hx hb dX0_fight_135 ?_
          refine lv_iand hx hb dX0_fight_136 ?_
          refine lv_iload hx hb dX0_fight_137 (lv_at hl 5 rfl) ?_
          refine lv_iload hx hb dX0_fight_139 (lv_at hl 7 rfl) ?_
          refine lv_iload hx hb dX0_fight_141 (lv_at hl 8 rfl) ?_
          obtain ⟨q143, hq143⟩ := ob_s hf
          replace hf := hq143.2
          replace hq143 := hq143.1
          refine cW1 (rest := [.int x7]) (ws1 := ((bAs G a o (b q) q143.2) ++ (bWh G b q nw))) (st1 := [.int q143.1, .int x7]) C0 hW hl.1 (ih a o b q w nw (x1 - (1 : Int32)) (0 : Int32) (x3 &&& (x11 ^^^ (-1 : Int32))) x4 x8 x9 _ hq143) cb_X0_fight mm_X0_113 rfl 0 0 rfl rfl rfl ⟨by show (5 + k9) + 1 ≤ (5 + (k9 + 1)); omega, by show 8 + (13 + 11) + 60 * (5 + k9) ≤ 60 * (5 + (k9 + 1)); omega⟩ rfl rfl (Nat.le_of_ble_eq_true rfl) ⟨Nat.zero_le _, Nat.zero_le _⟩ dX0_fight_143 rfl (fun H locs hW => ?_)
          refine k_max C0 hl.1 mm_X0_94 ⟨by show 1 ≤ (5 + (k9 + 1)); omega, by show 25 ≤ 60 * (5 + (k9 + 1)); omega, Nat.zero_le _, Nat.zero_le _⟩ (Nat.le_of_ble_eq_true rfl) dX0_fight_146 ?_
          refine lv_istore (lv' := [(7, .int (jmax x7 q143.1)), (12, .int t0), (0, .ref (a o)), (1, .int x1), (2, .int x2), (3, .int x3), (4, .int x4), (8, .int x8), (9, .int x9), (10, .int x10), (11, .int x11)]) hx hb dX0_fight_149 hl (by decide) rfl (fun ls hl => ?_)
          refine lv_iload hx hb dX0_fight_151 (lv_at hl 7 rfl) ?_
          refine lv_iload hx hb dX0_fight_153 (lv_at hl 0 rfl) ?_
          refine k_max C0 hl.1 mm_X0_94 ⟨by show 1 ≤ (5 + (k9 + 1)); omega, by show 25 ≤ 60 * (5 + (k9 + 1)); omega, Nat.zero_le _, Nat.zero_le _⟩ (Nat.le_of_ble_eq_true rfl) dX0_fight_155 ?_
          refine lv_topi (fun v158 ev158 => ?_)
          replace hf := nm_s ev158 hf
          refine lv_istore (lv' := [(8, .int v158), (7, .int (jmax x7 q143.1)), (12, .int t0), (0, .ref (a o)), (1, .int x1), (2, .int x2), (3, .int x3), (4, .int x4), (9, .int x9), (10, .int x10), (11, .int x11)]) hx hb dX0_fight_158 hl (by decide) rfl (fun ls hl => ?_)
          refine lv_goto (tgt := 209) hx hb dX0_fight_160 (by decide) ?_
          exact J209 _ _ _ _ _ _ hf hF _ _ _ hW (lv_sub hl [3, 4, 5, 6, 7, 1, 0, 8, 9] rfl)
    have B76 : ∀ (x7 : Int32) (x8 : Int32) (x9 : Int32) (x10 : Int32) (w : As) (r : (Int32 × Int32 × Int32 × Int32 × As) ⊕ (Int32 × As)), f_X0_fight_B76 fr nw x1 x2 x3 x4 x7 x8 x9 x10 w = some r → (Sum.elim (fun (sg : Int32 × Int32 × Int32 × Int32 × As) => ∀ (H : Heap) (locs : List Loc) (ls : Array Slot), Wd G A s.heap H ((bAs G a o (b q) sg.2.2.2.2) ++ (bWh G b q nw)) locs → lv_has ls 13 [(0, .ref (a o)), (1, .int x1), (2, .int x2), (3, .int x3), (4, .int x4), (7, .int sg.1), (8, .int sg.2.1), (9, .int sg.2.2.1), (10, .int sg.2.2.2.1)] → WW p l e (5 + (k9 + 1)) s m [.ref (a o), .int x1, .int x2, .int x3, .int x4, .int x5, .int x6] below meth c G A (some (.int out.1)) (((bAs G a o (b q) out.2) ++ (bWh G b q nw))) H locs 76 ls []) (fun (r : Int32 × As) => r = out)) r → ∀ (H : Heap) (locs : List Loc) (ls : Array Slot), Wd G A s.heap H ((bAs G a o (b q) w) ++ (bWh G b q nw)) locs → lv_has ls 13 [(0, .ref (a o)), (1, .int x1), (2, .int x2), (3, .int x3), (4, .int x4), (7, .int x7), (8, .int x8), (9, .int x9), (10, .int x10)] → WW p l e (5 + (k9 + 1)) s m [.ref (a o), .int x1, .int x2, .int x3, .int x4, .int x5, .int x6] below meth c G A (some (.int out.1)) (((bAs G a o (b q) out.2) ++ (bWh G b q nw))) H locs 76 ls [] := by
      intro x7 x8 x9 x10 w r hf hF H locs ls hW hl
      unfold f_X0_fight_B76 at hf
      refine lv_iload hx hb dX0_fight_76 (lv_at hl 8 rfl) ?_
      refine lv_aload_n hx hb dX0_fight_78 rfl (lv_at hl 0 rfl) ?_
      refine k_get C0 hW 0 1 0 (v := .ref (b q)) rfl (by decide) inX0 mf_X0_9 rfl rfl dX0_fight_79 ?_
      refine k_get C0 hW 4 5 7 (v := .int (wh_spokes nw)) rfl (by decide) inX4 mf_X0_47 rfl rfl dX0_fight_82 ?_
      refine lv_icmp_ge (tgt := 215) hx hb dX0_fight_85 (by decide) (fun c85_5 => ?_) (fun c85_5 => ?_)
      · replace hf := if_t c85_5 hf
        obtain ⟨r2, e2⟩ := om_s hf
        replace hf := e2.1
        replace e2 := e2.2
        subst e2
        replace hF := elim_r hF
        refine lv_iload hx hb dX0_fight_215 (lv_at hl 5 rfl) ?_
        have e1 := Option.some.inj hf
        subst e1
        have hF : ((x7, w) : Int32 × As) = out := hF
        subst hF
        exact k_iret C0 hW dX0_fight_217
      · replace hf := if_f c85_5 hf
        refine lv_iload hx hb dX0_fight_88 (lv_at hl 6 rfl) ?_
        refine lv_iload hx hb dX0_fight_90 (lv_at hl 7 rfl) ?_
        refine lv_icmp_ge (tgt := 215) hx hb dX0_fight_92 (by decide) (fun c92_6 => ?_) (fun c92_6 => ?_)
        · replace hf := if_t c92_6 hf
          obtain ⟨r2, e2⟩ := om_s hf
          replace hf := e2.1
          replace e2 := e2.2
          subst e2
          replace hF := elim_r hF
          refine lv_iload hx hb dX0_fight_215 (lv_at hl 5 rfl) ?_
          have e1 := Option.some.inj hf
          subst e1
          have hF : ((x7, w) : Int32 × As) = out := hF
          subst hF
          exact k_iret C0 hW dX0_fight_217
        · replace hf := if_f c92_6 hf
          refine lv_iconst (v := 1) hx hb dX0_fight_95 (by decide) ?_
          refine lv_iload hx hb dX0_fight_96 (lv_at hl 8 rfl) ?_
          refine lv_ishl hx hb dX0_fight_98 ?_
          refine lv_istore (lv' := [(11, .int (jshl (1 : Int32) x10)), (0, .ref (a o)), (1, .int x1), (2, .int x2), (3, .int x3), (4, .int x4), (7, .int x7), (8, .int x8), (9, .int x9), (10, .int x10)]) hx hb dX0_fight_99 hl (by decide) rfl (fun ls hl => ?_)
          refine lv_iload_n hx hb dX0_fight_101 rfl (lv_at hl 4 rfl) ?_
          refine lv_iload hx hb dX0_fight_102 (lv_at hl 0 rfl) ?_
          refine lv_iand hx hb dX0_fight_104 ?_
          refine lv_if_eq (tgt := 112) hx hb dX0_fight_105 (by decide) (fun c105_7 => ?_) (fun c105_7 => ?_)
          · replace hf := if_t c105_7 hf
            refine lv_iconst (v := 0) hx hb dX0_fight_112 (by decide) ?_
            exact J113 _ _ _ _ _ _ _ _ hf hF _ _ _ hW (lv_sub hl [1, 2, 3, 4, 5, 6, 7, 8, 9, 0] rfl)
          · replace hf := if_f c105_7 hf
            refine lv_iconst (v := 1) hx hb dX0_fight_108 (by decide) ?_
            refine lv_goto (tgt := 113) hx hb dX0_fight_109 (by decide) ?_
            exact J113 _ _ _ _ _ _ _ _ hf hF _ _ _ hW (lv_sub hl [1, 2, 3, 4, 5, 6, 7, 8, 9, 0] rfl)
    exact lp_sound (fun sg r hb hz => B76 sg.1 sg.2.1 sg.2.2.1 sg.2.2.2.1 sg.2.2.2.2 r hb hz)
  have J71 : ∀ (x7 : Int32) (x8 : Int32) (t0 : Int32) (w : As) (r : Int32 × As), f_X0_fight_J71 fr w nw x1 x2 x3 x4 x7 x8 t0 = some r → (fun (r : Int32 × As) => r = out) r → ∀ (H : Heap) (locs : List Loc) (ls : Array Slot), Wd G A s.heap H ((bAs G a o (b q) w) ++ (bWh G b q nw)) locs → lv_has ls 13 [(0, .ref (a o)), (1, .int x1), (2, .int x2), (3, .int x3), (4, .int x4), (7, .int x7), (8, .int x8)] → WW p l e (5 + (k9 + 1)) s m [.ref (a o), .int x1, .int x2, .int x3, .int x4, .int x5, .int x6] below meth c G A (some (.int out.1)) (((bAs G a o (b q) out.2) ++ (bWh G b q nw))) H locs 71 ls [.int t0] := by
    intro x7 x8 t0 w r hf hF H locs ls hW hl
    unfold f_X0_fight_J71 at hf
    refine lv_istore (lv' := [(9, .int t0), (0, .ref (a o)), (1, .int x1), (2, .int x2), (3, .int x3), (4, .int x4), (7, .int x7), (8, .int x8)]) hx hb dX0_fight_71 hl (by decide) rfl (fun ls hl => ?_)
    refine lv_iconst (v := 0) hx hb dX0_fight_73 (by decide) ?_
    refine lv_istore (lv' := [(10, .int (0 : Int32)), (9, .int t0), (0, .ref (a o)), (1, .int x1), (2, .int x2), (3, .int x3), (4, .int x4), (7, .int x7), (8, .int x8)]) hx hb dX0_fight_74 hl (by decide) rfl (fun ls hl => ?_)
    exact L76  fuel (x7, x8, t0, (0 : Int32), w) _ hf hF _ _ _ hW (lv_sub hl [2, 3, 4, 5, 6, 7, 8, 1, 0] rfl)
  have J53 : ∀ (x7 : Int32) (t0 : Int32) (w : As) (r : Int32 × As), f_X0_fight_J53 fr w nw x1 x2 x3 x4 x6 x7 t0 = some r → (fun (r : Int32 × As) => r = out) r → ∀ (H : Heap) (locs : List Loc) (ls : Array Slot), Wd G A s.heap H ((bAs G a o (b q) w) ++ (bWh G b q nw)) locs → lv_has ls 13 [(0, .ref (a o)), (1, .int x1), (2, .int x2), (3, .int x3), (4, .int x4), (6, .int x6), (7, .int x7)] → WW p l e (5 + (k9 + 1)) s m [.ref (a o), .int x1, .int x2, .int x3, .int x4, .int x5, .int x6] below meth c G A (some (.int out.1)) (((bAs G a o (b q) out.2) ++ (bWh G b q nw))) H locs 53 ls [.int t0] := by
    intro x7 t0 w r hf hF H locs ls hW hl
    unfold f_X0_fight_J53 at hf
    refine lv_istore (lv' := [(8, .int t0), (0, .ref (a o)), (1, .int x1), (2, .int x2), (3, .int x3), (4, .int x4), (6, .int x6), (7, .int x7)]) hx hb dX0_fight_53 hl (by decide) rfl (fun ls hl => ?_)
    refine lv_iload_n hx hb dX0_fight_55 rfl (lv_at hl 3 rfl) ?_
    refine lv_if_eq (tgt := 64) hx hb dX0_fight_56 (by decide) (fun c56_4 => ?_) (fun c56_4 => ?_)
    · replace hf := if_t c56_4 hf
      refine lv_iload hx hb dX0_fight_64 (lv_at hl 6 rfl) ?_
      refine lv_iload hx hb dX0_fight_66 (lv_at hl 7 rfl) ?_
      refine k_min C0 hl.1 mm_X0_117 ⟨by show 1 ≤ (5 + (k9 + 1)); omega, by show 25 ≤ 60 * (5 + (k9 + 1)); omega, Nat.zero_le _, Nat.zero_le _⟩ (Nat.le_of_ble_eq_true rfl) dX0_fight_68 ?_
      exact J71 _ _ _ _ _ hf hF _ _ _ hW (lv_sub hl [1, 2, 3, 4, 5, 7, 0] rfl)
    · replace hf := if_f c56_4 hf
      refine lv_iload hx hb dX0_fight_59 (lv_at hl 6 rfl) ?_
      refine lv_goto (tgt := 71) hx hb dX0_fight_61 (by decide) ?_
      exact J71 _ _ _ _ _ hf hF _ _ _ hW (lv_sub hl [1, 2, 3, 4, 5, 7, 0] rfl)
  have J25 : ∀ (t1 : Int32) (t2 : Int32) (w : As) (r : Int32 × As), f_X0_fight_J25 fr w nw x1 x2 x3 x4 x5 x6 t1 t2 = some r → (fun (r : Int32 × As) => r = out) r → ∀ (H : Heap) (locs : List Loc) (ls : Array Slot), Wd G A s.heap H ((bAs G a o (b q) w) ++ (bWh G b q nw)) locs → lv_has ls 13 [(0, .ref (a o)), (1, .int x1), (2, .int x2), (3, .int x3), (4, .int x4), (5, .int x5), (6, .int x6)] → WW p l e (5 + (k9 + 1)) s m [.ref (a o), .int x1, .int x2, .int x3, .int x4, .int x5, .int x6] below meth c G A (some (.int out.1)) (((bAs G a o (b q) out.2) ++ (bWh G b q nw))) H locs 25 ls [.int t2, .int t1, .ref (a o)] := by
    intro t1 t2 w r hf hF H locs ls hW hl
    unfold f_X0_fight_J25 at hf
    refine lv_iload_n hx hb dX0_fight_25 rfl (lv_at hl 3 rfl) ?_
    refine lv_iload hx hb dX0_fight_26 (lv_at hl 4 rfl) ?_
    refine lv_iload hx hb dX0_fight_28 (lv_at hl 5 rfl) ?_
    refine lv_iload hx hb dX0_fight_30 (lv_at hl 6 rfl) ?_
    obtain ⟨q32, hq32⟩ := ob_s hf
    replace hf := hq32.2
    replace hq32 := hq32.1
    refine cW1 (rest := []) (ws1 := ((bAs G a o (b q) q32.2) ++ (bWh G b q nw))) (st1 := [.int q32.1]) C0 hW hl.1 (ih a o b q w nw t1 t2 x3 x4 x5 x6 _ hq32) cb_X0_fight mm_X0_113 rfl 0 0 rfl rfl rfl ⟨by show (5 + k9) + 1 ≤ (5 + (k9 + 1)); omega, by show 8 + (13 + 11) + 60 * (5 + k9) ≤ 60 * (5 + (k9 + 1)); omega⟩ rfl rfl (Nat.le_of_ble_eq_true rfl) ⟨Nat.zero_le _, Nat.zero_le _⟩ dX0_fight_32 rfl (fun H locs hW => ?_)
    refine lv_istore (lv' := [(7, .int q32.1), (0, .ref (a o)), (1, .int x1), (2, .int x2), (3, .int x3), (4, .int x4), (5, .int x5), (6, .int x6)]) hx hb dX0_fight_35 hl (by decide) rfl (fun ls hl => ?_)
    refine lv_iload_n hx hb dX0_fight_37 rfl (lv_at hl 3 rfl) ?_
    refine lv_if_eq (tgt := 51) hx hb dX0_fight_38 (by decide) (fun c38_3 => ?_) (fun c38_3 => ?_)
    · replace hf := if_t c38_3 hf
      refine lv_iload hx hb dX0_fight_51 (lv_at hl 6 rfl) ?_
      exact J53 _ _ _ _ hf hF _ _ _ hW (lv_sub hl [1, 2, 3, 4, 5, 7, 0] rfl)
    · replace hf := if_f c38_3 hf
      refine lv_iload hx hb dX0_fight_41 (lv_at hl 6 rfl) ?_
      refine lv_iload hx hb dX0_fight_43 (lv_at hl 0 rfl) ?_
      refine k_max C0 hl.1 mm_X0_94 ⟨by show 1 ≤ (5 + (k9 + 1)); omega, by show 25 ≤ 60 * (5 + (k9 + 1)); omega, Nat.zero_le _, Nat.zero_le _⟩ (Nat.le_of_ble_eq_true rfl) dX0_fight_45 ?_
      refine lv_goto (tgt := 53) hx hb dX0_fight_48 (by decide) ?_
      exact J53 _ _ _ _ hf hF _ _ _ hW (lv_sub hl [1, 2, 3, 4, 5, 7, 0] rfl)
  obtain ⟨r, hr⟩ : ∃ r, f_X0_fight_F fr w nw x1 x2 x3 x4 x5 x6 = some r ∧ r = out := ⟨out, hf, rfl⟩
  replace hf := hr.1
  have hF := hr.2
  clear hr
  unfold f_X0_fight_F at hf
  refine lv_iload_n hx hb dX0_fight_0 rfl (lv_at hl 1 rfl) ?_
  refine lv_if_gt (tgt := 12) hx hb dX0_fight_1 (by decide) (fun c1_1 => ?_) (fun c1_1 => ?_)
  · replace hf := if_t c1_1 hf
    refine lv_aload_n hx hb dX0_fight_12 rfl (lv_at hl 0 rfl) ?_
    refine lv_iload_n hx hb dX0_fight_13 rfl (lv_at hl 1 rfl) ?_
    refine lv_iconst (v := 1) hx hb dX0_fight_14 (by decide) ?_
    refine lv_isub hx hb dX0_fight_15 ?_
    refine lv_iload_n hx hb dX0_fight_16 rfl (lv_at hl 2 rfl) ?_
    refine lv_if_ne (tgt := 24) hx hb dX0_fight_17 (by decide) (fun c17_2 => ?_) (fun c17_2 => ?_)
    · replace hf := if_f c17_2 hf
      refine lv_iconst (v := 0) hx hb dX0_fight_24 (by decide) ?_
      exact J25 _ _ _ _ hf hF _ _ _ hW (lv_sub hl [0, 1, 2, 3, 4, 5, 6] rfl)
    · replace hf := if_t c17_2 hf
      refine lv_iconst (v := 1) hx hb dX0_fight_20 (by decide) ?_
      refine lv_goto (tgt := 25) hx hb dX0_fight_21 (by decide) ?_
      exact J25 _ _ _ _ hf hF _ _ _ hW (lv_sub hl [0, 1, 2, 3, 4, 5, 6] rfl)
  · replace hf := if_f c1_1 hf
    refine lv_aload_n hx hb dX0_fight_4 rfl (lv_at hl 0 rfl) ?_
    refine lv_iload_n hx hb dX0_fight_5 rfl (lv_at hl 3 rfl) ?_
    refine lv_iload hx hb dX0_fight_6 (lv_at hl 4 rfl) ?_
    obtain ⟨q8, hq8⟩ := ob_s hf
    replace hf := hq8.2
    replace hq8 := hq8.1
    refine cW1 (rest := []) (ws1 := ((bAs G a o (b q) q8.2) ++ (bWh G b q nw))) (st1 := [.int q8.1]) C0 hW hl.1 (c_X0_limpsWith l G a o b q w nw x3 x4 _ hq8) cb_X0_limpsWith mm_X0_110 rfl 0 0 rfl rfl rfl ⟨by show 4 + 1 ≤ (5 + (k9 + 1)); omega, by show 8 + (3 + 11) + 60 * 4 ≤ 60 * (5 + (k9 + 1)); omega⟩ rfl rfl (Nat.le_of_ble_eq_true rfl) ⟨Nat.zero_le _, Nat.zero_le _⟩ dX0_fight_8 rfl (fun H locs hW => ?_)
    have e1 := Option.some.inj hf
    subst e1
    have hF : ((q8.1, q8.2) : Int32 × As) = out := hF
    subst hF
    exact k_iret C0 hW dX0_fight_11
def f_X0_fight : Nat → As → Wh → Int32 → Int32 → Int32 → Int32 → Int32 → Int32 → Option (Int32 × As)
  | 0 => fun _ _ _ _ _ _ _ _ => none
  | k9 + 1 => fun w nw x1 x2 x3 x4 x5 x6 => f_X0_fight_F (f_X0_fight k9) w nw x1 x2 x3 x4 x5 x6
theorem c_X0_fight (l : Launch) (G : GG) : ∀ (k9 : Nat) (a : Nat → Nat) (o : Nat) (b : Nat → Nat) (q : Nat) (w : As) (nw : Wh) (x1 : Int32) (x2 : Int32) (x3 : Int32) (x4 : Int32) (x5 : Int32) (x6 : Int32) (out : Int32 × As) (_ : f_X0_fight k9 w nw x1 x2 x3 x4 x5 x6 = some out), Cn l G (5 + k9) yX0_fight cX0_fight 13 (some .int) [.ref (a o), .int x1, .int x2, .int x3, .int x4, .int x5, .int x6] ((bAs G a o (b q) w) ++ (bWh G b q nw)) (some (.int out.1)) ((bAs G a o (b q) out.2) ++ (bWh G b q nw))
  | 0 => fun a o b q w nw x1 x2 x3 x4 x5 x6 out hf => by cases hf
  | k9 + 1 => fun a o b q w nw x1 x2 x3 x4 x5 x6 out hf => c_X0_fight_F l G (f_X0_fight k9) k9 (c_X0_fight l G k9) a o b q w nw x1 x2 x3 x4 x5 x6 out hf

def f_X4_limpsAs_J42 (k : Nat) (w : Wh) (f : Ar) (x2 : Int32) (x3 : Int32) (t0 : Int32) (t1 : Int32) : Option ((Int32 × Wh) ⊕ (Int32 × Wh)) :=
  if t0 = t1 then (some (Sum.inl ((x3 + (1 : Int32)), w))) else (some (Sum.inr ((0 : Int32), w)))
def f_X4_limpsAs_J26 (k : Nat) (w : Wh) (f : Ar) (x2 : Int32) (x3 : Int32) (t0 : Int32) : Option ((Int32 × Wh) ⊕ (Int32 × Wh)) :=
  gd (inb x3 k) (if (f (ix x3)) = (1 : Int32) then (f_X4_limpsAs_J42 k w f x2 x3 t0 (1 : Int32)) else (f_X4_limpsAs_J42 k w f x2 x3 t0 (0 : Int32)))
def f_X4_limpsAs_J25 (k : Nat) (w : Wh) (f : Ar) (x2 : Int32) (x3 : Int32) : Option ((Int32 × Wh) ⊕ (Int32 × Wh)) :=
  f_X4_limpsAs_J26 k w f x2 x3 (0 : Int32)
def f_X4_limpsAs_B2 (k : Nat) (f : Ar) (x2 : Int32) (x3 : Int32) (w : Wh) : Option ((Int32 × Wh) ⊕ (Int32 × Wh)) :=
  if x2 ≤ x3 then (Option.map Sum.inr (some ((1 : Int32), w))) else (Option.bind (f_X4_isOver w) (fun q8 => if q8 = 0 then (Option.bind (f_X4_roll w) (fun q15 => if q15.1 = 0 then (f_X4_limpsAs_J25 k q15.2 f x2 x3) else (f_X4_limpsAs_J26 k q15.2 f x2 x3 (1 : Int32)))) else (f_X4_limpsAs_J25 k w f x2 x3)))
def f_X4_limpsAs_L2 (k : Nat) (f : Ar) (x2 : Int32) (sg : Int32 × Wh) : Option ((Int32 × Wh) ⊕ (Int32 × Wh)) := f_X4_limpsAs_B2 k f x2 sg.1 sg.2
def f_X4_limpsAs (k : Nat) (w : Wh) (f : Ar) (x2 : Int32) : Option (Int32 × Wh) :=
  lp (f_X4_limpsAs_L2 k f x2) fuel ((0 : Int32), w)
set_option maxRecDepth 100000 in
set_option maxHeartbeats 8000000 in
theorem c_X4_limpsAs (l : Launch) (G : GG) (a : Nat → Nat) (o : Nat) (aa : Nat) (k : Nat) (w : Wh) (f : Ar) (x2 : Int32) (out : Int32 × Wh) (hf : f_X4_limpsAs k w f x2 = some out) : Cn l G 3 yX4_limpsAs cX4_limpsAs 5 (some .boolean) [.ref (a o), .ref (aa), .int x2] ((bWh G a o w) ++ ([(aa, eI G k f)])) (some (.int out.1)) ((bWh G a o out.2) ++ ([(aa, eI G k f)])) := by
  refine cn_start (by decide) (Nat.le_of_ble_eq_true rfl) ?_
  intro p e s m below meth c A ls C0 hW hl
  have hx := C0.1
  have hb := C0.2.1
  have hl : lv_has ls 5 [(0, .ref (a o)), (1, .ref (aa)), (2, .int x2)] := hl
  have L2 : ∀ (k8 : Nat) (sg : Int32 × Wh) (o9 : Int32 × Wh), lp (f_X4_limpsAs_L2 k f x2) k8 sg = some o9 → (fun (r : Int32 × Wh) => r = out) o9 → (fun (sg : Int32 × Wh) => ∀ (H : Heap) (locs : List Loc) (ls : Array Slot), Wd G A s.heap H ((bWh G a o sg.2) ++ ([(aa, eI G k f)])) locs → lv_has ls 5 [(0, .ref (a o)), (1, .ref (aa)), (2, .int x2), (3, .int sg.1)] → WW p l e 3 s m [.ref (a o), .ref (aa), .int x2] below meth c G A (some (.int out.1)) (((bWh G a o out.2) ++ ([(aa, eI G k f)]))) H locs 2 ls []) sg := by
    have J42 : ∀ (x3 : Int32) (t0 : Int32) (t1 : Int32) (w : Wh) (r : (Int32 × Wh) ⊕ (Int32 × Wh)), f_X4_limpsAs_J42 k w f x2 x3 t0 t1 = some r → (Sum.elim (fun (sg : Int32 × Wh) => ∀ (H : Heap) (locs : List Loc) (ls : Array Slot), Wd G A s.heap H ((bWh G a o sg.2) ++ ([(aa, eI G k f)])) locs → lv_has ls 5 [(0, .ref (a o)), (1, .ref (aa)), (2, .int x2), (3, .int sg.1)] → WW p l e 3 s m [.ref (a o), .ref (aa), .int x2] below meth c G A (some (.int out.1)) (((bWh G a o out.2) ++ ([(aa, eI G k f)]))) H locs 2 ls []) (fun (r : Int32 × Wh) => r = out)) r → ∀ (H : Heap) (locs : List Loc) (ls : Array Slot), Wd G A s.heap H ((bWh G a o w) ++ ([(aa, eI G k f)])) locs → lv_has ls 5 [(0, .ref (a o)), (1, .ref (aa)), (2, .int x2), (3, .int x3)] → WW p l e 3 s m [.ref (a o), .ref (aa), .int x2] below meth c G A (some (.int out.1)) (((bWh G a o out.2) ++ ([(aa, eI G k f)]))) H locs 42 ls [.int t1, .int t0] := by
      intro x3 t0 t1 w r hf hF H locs ls hW hl
      unfold f_X4_limpsAs_J42 at hf
      refine lv_icmp_eq (tgt := 47) hx hb dX4_limpsAs_42 (by decide) (fun c42_5 => ?_) (fun c42_5 => ?_)
      · replace hf := if_t c42_5 hf
        refine lv_iinc (v := (x3 + (1 : Int32))) (lv' := [(3, .int (x3 + (1 : Int32))), (0, .ref (a o)), (1, .ref (aa)), (2, .int x2)]) hx hb dX4_limpsAs_47 hl (k := 3) rfl rfl (by decide) rfl (fun ls hl => ?_)
        refine lv_goto (tgt := 2) hx hb dX4_limpsAs_50 (by decide) ?_
        have e1 := Option.some.inj hf
        subst e1
        exact (elim_l hF) _ _ _ hW (lv_sub hl [1, 2, 3, 0] rfl)
      · replace hf := if_f c42_5 hf
        refine lv_iconst (v := 0) hx hb dX4_limpsAs_45 (by decide) ?_
        have e1 := Option.some.inj hf
        subst e1
        have hF : (((0 : Int32), w) : Int32 × Wh) = out := hF
        subst hF
        exact k_zret C0 hW rfl dX4_limpsAs_46
    have J26 : ∀ (x3 : Int32) (t0 : Int32) (w : Wh) (r : (Int32 × Wh) ⊕ (Int32 × Wh)), f_X4_limpsAs_J26 k w f x2 x3 t0 = some r → (Sum.elim (fun (sg : Int32 × Wh) => ∀ (H : Heap) (locs : List Loc) (ls : Array Slot), Wd G A s.heap H ((bWh G a o sg.2) ++ ([(aa, eI G k f)])) locs → lv_has ls 5 [(0, .ref (a o)), (1, .ref (aa)), (2, .int x2), (3, .int sg.1)] → WW p l e 3 s m [.ref (a o), .ref (aa), .int x2] below meth c G A (some (.int out.1)) (((bWh G a o out.2) ++ ([(aa, eI G k f)]))) H locs 2 ls []) (fun (r : Int32 × Wh) => r = out)) r → ∀ (H : Heap) (locs : List Loc) (ls : Array Slot), Wd G A s.heap H ((bWh G a o w) ++ ([(aa, eI G k f)])) locs → lv_has ls 5 [(0, .ref (a o)), (1, .ref (aa)), (2, .int x2), (3, .int x3)] → WW p l e 3 s m [.ref (a o), .ref (aa), .int x2] below meth c G A (some (.int out.1)) (((bWh G a o out.2) ++ ([(aa, eI G k f)]))) H locs 26 ls [.int t0] := by
      intro x3 t0 w r hf hF H locs ls hW hl
      unfold f_X4_limpsAs_J26 at hf
      refine lv_istore (lv' := [(4, .int t0), (0, .ref (a o)), (1, .ref (aa)), (2, .int x2), (3, .int x3)]) hx hb dX4_limpsAs_26 hl (by decide) rfl (fun ls hl => ?_)
      refine lv_iload hx hb dX4_limpsAs_28 (lv_at hl 0 rfl) ?_
      refine lv_aload_n hx hb dX4_limpsAs_30 rfl (lv_at hl 2 rfl) ?_
      refine lv_iload_n hx hb dX4_limpsAs_31 rfl (lv_at hl 4 rfl) ?_
      have g32_3 := (gd_some hf).1; replace hf := (gd_some hf).2
      refine k_iald C0 hW 6 (ix x3) rfl (inb_in g32_3) rfl dX4_limpsAs_32 ?_
      refine lv_iconst (v := 1) hx hb dX4_limpsAs_33 (by decide) ?_
      refine lv_icmp_ne (tgt := 41) hx hb dX4_limpsAs_34 (by decide) (fun c34_4 => ?_) (fun c34_4 => ?_)
      · replace hf := if_f c34_4 hf
        refine lv_iconst (v := 0) hx hb dX4_limpsAs_41 (by decide) ?_
        exact J42 _ _ _ _ _ hf hF _ _ _ hW (lv_sub hl [1, 2, 3, 4] rfl)
      · replace hf := if_t c34_4 hf
        refine lv_iconst (v := 1) hx hb dX4_limpsAs_37 (by decide) ?_
        refine lv_goto (tgt := 42) hx hb dX4_limpsAs_38 (by decide) ?_
        exact J42 _ _ _ _ _ hf hF _ _ _ hW (lv_sub hl [1, 2, 3, 4] rfl)
    have J25 : ∀ (x3 : Int32) (w : Wh) (r : (Int32 × Wh) ⊕ (Int32 × Wh)), f_X4_limpsAs_J25 k w f x2 x3 = some r → (Sum.elim (fun (sg : Int32 × Wh) => ∀ (H : Heap) (locs : List Loc) (ls : Array Slot), Wd G A s.heap H ((bWh G a o sg.2) ++ ([(aa, eI G k f)])) locs → lv_has ls 5 [(0, .ref (a o)), (1, .ref (aa)), (2, .int x2), (3, .int sg.1)] → WW p l e 3 s m [.ref (a o), .ref (aa), .int x2] below meth c G A (some (.int out.1)) (((bWh G a o out.2) ++ ([(aa, eI G k f)]))) H locs 2 ls []) (fun (r : Int32 × Wh) => r = out)) r → ∀ (H : Heap) (locs : List Loc) (ls : Array Slot), Wd G A s.heap H ((bWh G a o w) ++ ([(aa, eI G k f)])) locs → lv_has ls 5 [(0, .ref (a o)), (1, .ref (aa)), (2, .int x2), (3, .int x3)] → WW p l e 3 s m [.ref (a o), .ref (aa), .int x2] below meth c G A (some (.int out.1)) (((bWh G a o out.2) ++ ([(aa, eI G k f)]))) H locs 25 ls [] := by
      intro x3 w r hf hF H locs ls hW hl
      unfold f_X4_limpsAs_J25 at hf
      refine lv_iconst (v := 0) hx hb dX4_limpsAs_25 (by decide) ?_
      exact J26 _ _ _ _ hf hF _ _ _ hW (lv_sub hl [0, 1, 2, 3] rfl)
    have B2 : ∀ (x3 : Int32) (w : Wh) (r : (Int32 × Wh) ⊕ (Int32 × Wh)), f_X4_limpsAs_B2 k f x2 x3 w = some r → (Sum.elim (fun (sg : Int32 × Wh) => ∀ (H : Heap) (locs : List Loc) (ls : Array Slot), Wd G A s.heap H ((bWh G a o sg.2) ++ ([(aa, eI G k f)])) locs → lv_has ls 5 [(0, .ref (a o)), (1, .ref (aa)), (2, .int x2), (3, .int sg.1)] → WW p l e 3 s m [.ref (a o), .ref (aa), .int x2] below meth c G A (some (.int out.1)) (((bWh G a o out.2) ++ ([(aa, eI G k f)]))) H locs 2 ls []) (fun (r : Int32 × Wh) => r = out)) r → ∀ (H : Heap) (locs : List Loc) (ls : Array Slot), Wd G A s.heap H ((bWh G a o w) ++ ([(aa, eI G k f)])) locs → lv_has ls 5 [(0, .ref (a o)), (1, .ref (aa)), (2, .int x2), (3, .int x3)] → WW p l e 3 s m [.ref (a o), .ref (aa), .int x2] below meth c G A (some (.int out.1)) (((bWh G a o out.2) ++ ([(aa, eI G k f)]))) H locs 2 ls [] := by
      intro x3 w r hf hF H locs ls hW hl
      unfold f_X4_limpsAs_B2 at hf
      refine lv_iload_n hx hb dX4_limpsAs_2 rfl (lv_at hl 3 rfl) ?_
      refine lv_iload_n hx hb dX4_limpsAs_3 rfl (lv_at hl 2 rfl) ?_
      refine lv_icmp_ge (tgt := 53) hx hb dX4_limpsAs_4 (by decide) (fun c4_1 => ?_) (fun c4_1 => ?_)
      · replace hf := if_t c4_1 hf
        obtain ⟨r2, e2⟩ := om_s hf
        replace hf := e2.1
        replace e2 := e2.2
        subst e2
        replace hF := elim_r hF
        refine lv_iconst (v := 1) hx hb dX4_limpsAs_53 (by decide) ?_
        have e1 := Option.some.inj hf
        subst e1
        have hF : (((1 : Int32), w) : Int32 × Wh) = out := hF
        subst hF
        exact k_zret C0 hW rfl dX4_limpsAs_54
      · replace hf := if_f c4_1 hf
        refine lv_aload_n hx hb dX4_limpsAs_7 rfl (lv_at hl 0 rfl) ?_
        obtain ⟨q8, hq8⟩ := ob_s hf
        replace hf := hq8.2
        replace hq8 := hq8.1
        refine cV0 (rest := []) (st1 := [.int q8]) C0 hW hl.1 (c_X4_isOver l G a o w _ hq8) cb_X4_isOver mm_X4_108 [0, 1, 2, 3, 4, 5] rfl rfl 0 4 rfl rfl rfl (by decide) rfl rfl (Nat.le_of_ble_eq_true rfl) ⟨Nat.zero_le _, Nat.zero_le _⟩ dX4_limpsAs_8 rfl (fun H locs hW => ?_)
        refine lv_if_ne (tgt := 25) hx hb dX4_limpsAs_11 (by decide) (fun c11_2 => ?_) (fun c11_2 => ?_)
        · replace hf := if_f c11_2 hf
          exact J25 _ _ _ hf hF _ _ _ hW (lv_sub hl [0, 1, 2, 3] rfl)
        · replace hf := if_t c11_2 hf
          refine lv_aload_n hx hb dX4_limpsAs_14 rfl (lv_at hl 0 rfl) ?_
          obtain ⟨q15, hq15⟩ := ob_s hf
          replace hf := hq15.2
          replace hq15 := hq15.1
          refine cV1 (rest := []) (ws1 := ((bWh G a o q15.2) ++ ([(aa, eI G k f)]))) (st1 := [.int q15.1]) C0 hW hl.1 (c_X4_roll l G a o w _ hq15) cb_X4_roll mm_X4_82 [0, 1, 2, 3, 4, 5] rfl rfl rfl 0 4 rfl rfl rfl (by decide) rfl rfl (Nat.le_of_ble_eq_true rfl) ⟨Nat.zero_le _, Nat.zero_le _⟩ dX4_limpsAs_15 rfl rfl (fun H locs hW => ?_)
          refine lv_if_eq (tgt := 25) hx hb dX4_limpsAs_18 (by decide) (fun c18_6 => ?_) (fun c18_6 => ?_)
          · replace hf := if_t c18_6 hf
            exact J25 _ _ _ hf hF _ _ _ hW (lv_sub hl [0, 1, 2, 3] rfl)
          · replace hf := if_f c18_6 hf
            refine lv_iconst (v := 1) hx hb dX4_limpsAs_21 (by decide) ?_
            refine lv_goto (tgt := 26) hx hb dX4_limpsAs_22 (by decide) ?_
            exact J26 _ _ _ _ hf hF _ _ _ hW (lv_sub hl [0, 1, 2, 3] rfl)
    exact lp_sound (fun sg r hb hz => B2 sg.1 sg.2 r hb hz)
  obtain ⟨r, hr⟩ : ∃ r, f_X4_limpsAs k w f x2 = some r ∧ r = out := ⟨out, hf, rfl⟩
  replace hf := hr.1
  have hF := hr.2
  clear hr
  unfold f_X4_limpsAs at hf
  refine lv_iconst (v := 0) hx hb dX4_limpsAs_0 (by decide) ?_
  refine lv_istore_n (lv' := [(3, .int (0 : Int32)), (0, .ref (a o)), (1, .ref (aa)), (2, .int x2)]) hx hb dX4_limpsAs_1 rfl hl (by decide) rfl (fun ls hl => ?_)
  exact L2  fuel ((0 : Int32), w) _ hf hF _ _ _ hW (lv_sub hl [1, 2, 3, 0] rfl)

def f_X0_goneSets_J80 (k : Nat) (w : As) (nw : Wh) (f : Ar) (x4 : Int32) : Option (Int32 × As) :=
  if x4 = 0 then (some ((-9 : Int32), w)) else (some (x4, w))
def f_X0_goneSets_J74 (k : Nat) (w : As) (nw : Wh) (f : Ar) (x2 : Int32) (x3 : Int32) (x4 : Int32) (x5 : Int32) : Option ((Int32 × Int32 × As) ⊕ (Int32 × As)) :=
  some (Sum.inl (x4, (x5 + (1 : Int32)), w))
def f_X0_goneSets_J71 (k : Nat) (w : As) (nw : Wh) (f : Ar) (x2 : Int32) (x3 : Int32) (x4 : Int32) (x5 : Int32) : Option ((Int32 × Int32 × As) ⊕ (Int32 × As)) :=
  f_X0_goneSets_J74 k w nw f x2 x3 (x4 + (1 : Int32)) x5
def f_X0_goneSets_B18 (k : Nat) (nw : Wh) (f : Ar) (x2 : Int32) (x3 : Int32) (x4 : Int32) (x5 : Int32) (w : As) : Option ((Int32 × Int32 × As) ⊕ (Int32 × As)) :=
  if x3 < x5 then (Option.map Sum.inr (f_X0_goneSets_J80 k w nw f x4)) else (Option.bind (f_X4_take (as_trial w) nw) (fun q32 => Option.bind (f_X4_limpsAs k (wh_set_there q32 (x3 &&& (x5 ^^^ (-1 : Int32)))) f x2) (fun q54 => if q54.1 = 0 then (f_X0_goneSets_J74 k (as_set_trial w q54.2) nw f x2 x3 x4 x5) else (if x4 = 0 then (f_X0_goneSets_J71 k (as_set_trial (as_set_found w x5) q54.2) nw f x2 x3 x4 x5) else (f_X0_goneSets_J71 k (as_set_trial w q54.2) nw f x2 x3 x4 x5)))))
def f_X0_goneSets_L18 (k : Nat) (nw : Wh) (f : Ar) (x2 : Int32) (x3 : Int32) (sg : Int32 × Int32 × As) : Option ((Int32 × Int32 × As) ⊕ (Int32 × As)) := f_X0_goneSets_B18 k nw f x2 x3 sg.1 sg.2.1 sg.2.2
def f_X0_goneSets (k : Nat) (w : As) (nw : Wh) (f : Ar) (x2 : Int32) : Option (Int32 × As) :=
  nm ((jshl (1 : Int32) (wh_spokes nw)) - (1 : Int32)) (fun v11 => lp (f_X0_goneSets_L18 k nw f x2 v11) fuel ((0 : Int32), (0 : Int32), w))
set_option maxRecDepth 100000 in
set_option maxHeartbeats 8000000 in
theorem c_X0_goneSets (l : Launch) (G : GG) (a : Nat → Nat) (o : Nat) (b : Nat → Nat) (q : Nat) (aa : Nat) (k : Nat) (w : As) (nw : Wh) (f : Ar) (x2 : Int32) (out : Int32 × As) (hf : f_X0_goneSets k w nw f x2 = some out) : Cn l G 4 yX0_goneSets cX0_goneSets 6 (some .int) [.ref (a o), .ref (aa), .int x2] ((bAs G a o (b q) w) ++ (bWh G b q nw) ++ ([(aa, eI G k f)])) (some (.int out.1)) ((bAs G a o (b q) out.2) ++ (bWh G b q nw) ++ ([(aa, eI G k f)])) := by
  refine cn_start (by decide) (Nat.le_of_ble_eq_true rfl) ?_
  intro p e s m below meth c A ls C0 hW hl
  have hx := C0.1
  have hb := C0.2.1
  have hl : lv_has ls 6 [(0, .ref (a o)), (1, .ref (aa)), (2, .int x2)] := hl
  have J80 : ∀ (x4 : Int32) (w : As) (r : Int32 × As), f_X0_goneSets_J80 k w nw f x4 = some r → (fun (r : Int32 × As) => r = out) r → ∀ (H : Heap) (locs : List Loc) (ls : Array Slot), Wd G A s.heap H ((bAs G a o (b q) w) ++ (bWh G b q nw) ++ ([(aa, eI G k f)])) locs → lv_has ls 6 [(4, .int x4)] → WW p l e 4 s m [.ref (a o), .ref (aa), .int x2] below meth c G A (some (.int out.1)) (((bAs G a o (b q) out.2) ++ (bWh G b q nw) ++ ([(aa, eI G k f)]))) H locs 80 ls [] := by
    intro x4 w r hf hF H locs ls hW hl
    unfold f_X0_goneSets_J80 at hf
    refine lv_iload hx hb dX0_goneSets_80 (lv_at hl 0 rfl) ?_
    refine lv_if_ne (tgt := 90) hx hb dX0_goneSets_82 (by decide) (fun c82_3 => ?_) (fun c82_3 => ?_)
    · replace hf := if_f c82_3 hf
      refine lv_iload hx hb dX0_goneSets_90 (lv_at hl 0 rfl) ?_
      have e1 := Option.some.inj hf
      subst e1
      have hF : ((x4, w) : Int32 × As) = out := hF
      subst hF
      exact k_iret C0 hW dX0_goneSets_92
    · replace hf := if_t c82_3 hf
      refine lv_bipush (v := -9) hx hb dX0_goneSets_85 (by decide) ?_
      refine lv_goto (tgt := 92) hx hb dX0_goneSets_87 (by decide) ?_
      have e1 := Option.some.inj hf
      subst e1
      have hF : (((-9 : Int32), w) : Int32 × As) = out := hF
      subst hF
      exact k_iret C0 hW dX0_goneSets_92
  have L18 : ∀ (x3 : Int32) (k8 : Nat) (sg : Int32 × Int32 × As) (o9 : Int32 × As), lp (f_X0_goneSets_L18 k nw f x2 x3) k8 sg = some o9 → (fun (r : Int32 × As) => r = out) o9 → (fun (sg : Int32 × Int32 × As) => ∀ (H : Heap) (locs : List Loc) (ls : Array Slot), Wd G A s.heap H ((bAs G a o (b q) sg.2.2) ++ (bWh G b q nw) ++ ([(aa, eI G k f)])) locs → lv_has ls 6 [(0, .ref (a o)), (1, .ref (aa)), (2, .int x2), (3, .int x3), (4, .int sg.1), (5, .int sg.2.1)] → WW p l e 4 s m [.ref (a o), .ref (aa), .int x2] below meth c G A (some (.int out.1)) (((bAs G a o (b q) out.2) ++ (bWh G b q nw) ++ ([(aa, eI G k f)]))) H locs 18 ls []) sg := by
    intro x3
    have J74 : ∀ (x4 : Int32) (x5 : Int32) (w : As) (r : (Int32 × Int32 × As) ⊕ (Int32 × As)), f_X0_goneSets_J74 k w nw f x2 x3 x4 x5 = some r → (Sum.elim (fun (sg : Int32 × Int32 × As) => ∀ (H : Heap) (locs : List Loc) (ls : Array Slot), Wd G A s.heap H ((bAs G a o (b q) sg.2.2) ++ (bWh G b q nw) ++ ([(aa, eI G k f)])) locs → lv_has ls 6 [(0, .ref (a o)), (1, .ref (aa)), (2, .int x2), (3, .int x3), (4, .int sg.1), (5, .int sg.2.1)] → WW p l e 4 s m [.ref (a o), .ref (aa), .int x2] below meth c G A (some (.int out.1)) (((bAs G a o (b q) out.2) ++ (bWh G b q nw) ++ ([(aa, eI G k f)]))) H locs 18 ls []) (fun (r : Int32 × As) => r = out)) r → ∀ (H : Heap) (locs : List Loc) (ls : Array Slot), Wd G A s.heap H ((bAs G a o (b q) w) ++ (bWh G b q nw) ++ ([(aa, eI G k f)])) locs → lv_has ls 6 [(0, .ref (a o)), (1, .ref (aa)), (2, .int x2), (3, .int x3), (4, .int x4), (5, .int x5)] → WW p l e 4 s m [.ref (a o), .ref (aa), .int x2] below meth c G A (some (.int out.1)) (((bAs G a o (b q) out.2) ++ (bWh G b q nw) ++ ([(aa, eI G k f)]))) H locs 74 ls [] := by
      intro x4 x5 w r hf hF H locs ls hW hl
      unfold f_X0_goneSets_J74 at hf
      refine lv_iinc (v := (x5 + (1 : Int32))) (lv' := [(5, .int (x5 + (1 : Int32))), (0, .ref (a o)), (1, .ref (aa)), (2, .int x2), (3, .int x3), (4, .int x4)]) hx hb dX0_goneSets_74 hl (k := 5) rfl rfl (by decide) rfl (fun ls hl => ?_)
      refine lv_goto (tgt := 18) hx hb dX0_goneSets_77 (by decide) ?_
      have e1 := Option.some.inj hf
      subst e1
      exact (elim_l hF) _ _ _ hW (lv_sub hl [1, 2, 3, 4, 5, 0] rfl)
    have J71 : ∀ (x4 : Int32) (x5 : Int32) (w : As) (r : (Int32 × Int32 × As) ⊕ (Int32 × As)), f_X0_goneSets_J71 k w nw f x2 x3 x4 x5 = some r → (Sum.elim (fun (sg : Int32 × Int32 × As) => ∀ (H : Heap) (locs : List Loc) (ls : Array Slot), Wd G A s.heap H ((bAs G a o (b q) sg.2.2) ++ (bWh G b q nw) ++ ([(aa, eI G k f)])) locs → lv_has ls 6 [(0, .ref (a o)), (1, .ref (aa)), (2, .int x2), (3, .int x3), (4, .int sg.1), (5, .int sg.2.1)] → WW p l e 4 s m [.ref (a o), .ref (aa), .int x2] below meth c G A (some (.int out.1)) (((bAs G a o (b q) out.2) ++ (bWh G b q nw) ++ ([(aa, eI G k f)]))) H locs 18 ls []) (fun (r : Int32 × As) => r = out)) r → ∀ (H : Heap) (locs : List Loc) (ls : Array Slot), Wd G A s.heap H ((bAs G a o (b q) w) ++ (bWh G b q nw) ++ ([(aa, eI G k f)])) locs → lv_has ls 6 [(0, .ref (a o)), (1, .ref (aa)), (2, .int x2), (3, .int x3), (4, .int x4), (5, .int x5)] → WW p l e 4 s m [.ref (a o), .ref (aa), .int x2] below meth c G A (some (.int out.1)) (((bAs G a o (b q) out.2) ++ (bWh G b q nw) ++ ([(aa, eI G k f)]))) H locs 71 ls [] := by
      intro x4 x5 w r hf hF H locs ls hW hl
      unfold f_X0_goneSets_J71 at hf
      refine lv_iinc (v := (x4 + (1 : Int32))) (lv' := [(4, .int (x4 + (1 : Int32))), (0, .ref (a o)), (1, .ref (aa)), (2, .int x2), (3, .int x3), (5, .int x5)]) hx hb dX0_goneSets_71 hl (k := 4) rfl rfl (by decide) rfl (fun ls hl => ?_)
      exact J74 _ _ _ _ hf hF _ _ _ hW (lv_sub hl [1, 2, 3, 4, 0, 5] rfl)
    have B18 : ∀ (x4 : Int32) (x5 : Int32) (w : As) (r : (Int32 × Int32 × As) ⊕ (Int32 × As)), f_X0_goneSets_B18 k nw f x2 x3 x4 x5 w = some r → (Sum.elim (fun (sg : Int32 × Int32 × As) => ∀ (H : Heap) (locs : List Loc) (ls : Array Slot), Wd G A s.heap H ((bAs G a o (b q) sg.2.2) ++ (bWh G b q nw) ++ ([(aa, eI G k f)])) locs → lv_has ls 6 [(0, .ref (a o)), (1, .ref (aa)), (2, .int x2), (3, .int x3), (4, .int sg.1), (5, .int sg.2.1)] → WW p l e 4 s m [.ref (a o), .ref (aa), .int x2] below meth c G A (some (.int out.1)) (((bAs G a o (b q) out.2) ++ (bWh G b q nw) ++ ([(aa, eI G k f)]))) H locs 18 ls []) (fun (r : Int32 × As) => r = out)) r → ∀ (H : Heap) (locs : List Loc) (ls : Array Slot), Wd G A s.heap H ((bAs G a o (b q) w) ++ (bWh G b q nw) ++ ([(aa, eI G k f)])) locs → lv_has ls 6 [(0, .ref (a o)), (1, .ref (aa)), (2, .int x2), (3, .int x3), (4, .int x4), (5, .int x5)] → WW p l e 4 s m [.ref (a o), .ref (aa), .int x2] below meth c G A (some (.int out.1)) (((bAs G a o (b q) out.2) ++ (bWh G b q nw) ++ ([(aa, eI G k f)]))) H locs 18 ls [] := by
      intro x4 x5 w r hf hF H locs ls hW hl
      unfold f_X0_goneSets_B18 at hf
      refine lv_iload hx hb dX0_goneSets_18 (lv_at hl 5 rfl) ?_
      refine lv_iload_n hx hb dX0_goneSets_20 rfl (lv_at hl 3 rfl) ?_
      refine lv_icmp_gt (tgt := 80) hx hb dX0_goneSets_21 (by decide) (fun c21_2 => ?_) (fun c21_2 => ?_)
      · replace hf := if_t c21_2 hf
        obtain ⟨r2, e2⟩ := om_s hf
        replace hf := e2.1
        replace e2 := e2.2
        subst e2
        replace hF := elim_r hF
        exact J80 _ _ _ hf hF _ _ _ hW (lv_sub hl [4] rfl)
      · replace hf := if_f c21_2 hf
        refine lv_aload_n hx hb dX0_goneSets_24 rfl (lv_at hl 0 rfl) ?_
        refine k_get C0 hW 0 2 0 (v := .ref (a (o + 1))) rfl (by decide) inX0 mf_X0_18 rfl rfl dX0_goneSets_25 ?_
        refine lv_aload_n hx hb dX0_goneSets_28 rfl (lv_at hl 0 rfl) ?_
        refine k_get C0 hW 0 1 0 (v := .ref (b q)) rfl (by decide) inX0 mf_X0_9 rfl rfl dX0_goneSets_29 ?_
        obtain ⟨q32, hq32⟩ := ob_s hf
        replace hf := hq32.2
        replace hq32 := hq32.1
        refine cV1 (rest := []) (ws1 := ((bAs G a o (b q) (as_set_trial w q32)) ++ (bWh G b q nw) ++ ([(aa, eI G k f)]))) (st1 := []) C0 hW hl.1 (c_X4_take l G a (o + 1) b q (as_trial w) nw _ hq32) cb_X4_take mm_X0_21 [1, 2, 3, 4, 5, 6, 7, 8, 9, 10, 11, 12] rfl rfl rfl 0 4 rfl rfl rfl (by decide) rfl rfl (Nat.le_of_ble_eq_true rfl) ⟨Nat.zero_le _, Nat.zero_le _⟩ dX0_goneSets_32 rfl rfl (fun H locs hW => ?_)
        refine lv_aload_n hx hb dX0_goneSets_35 rfl (lv_at hl 0 rfl) ?_
        refine k_get C0 hW 0 2 0 (v := .ref (a (o + 1))) rfl (by decide) inX0 mf_X0_18 rfl rfl dX0_goneSets_36 ?_
        refine lv_iload_n hx hb dX0_goneSets_39 rfl (lv_at hl 3 rfl) ?_
        refine lv_iload hx hb dX0_goneSets_40 (lv_at hl 5 rfl) ?_
        refine lv_iconst (v := -1) hx hb dX0_goneSets_42 (by decide) ?_
        refine lv_ixor hx hb dX0_goneSets_43 ?_
        refine lv_iand hx hb dX0_goneSets_44 ?_
        refine k_put C0 hW 4 9 1 rfl (by decide) inX4 tyX4_ok nmX4 mf_X0_76 rfl rfl rfl rfl (Nat.le_of_ble_eq_true rfl) dX0_goneSets_45 (fun H locs hW => ?_)
        have hW : Wd G A s.heap H ((bAs G a o (b q) (as_set_trial w (wh_set_there q32 (x3 &&& (x5 ^^^ (-1 : Int32)))))) ++ (bWh G b q nw) ++ ([(aa, eI G k f)])) locs := hW
        refine lv_aload_n hx hb dX0_goneSets_48 rfl (lv_at hl 0 rfl) ?_
        refine k_get C0 hW 0 2 0 (v := .ref (a (o + 1))) rfl (by decide) inX0 mf_X0_18 rfl rfl dX0_goneSets_49 ?_
        refine lv_aload_n hx hb dX0_goneSets_52 rfl (lv_at hl 1 rfl) ?_
        refine lv_iload_n hx hb dX0_goneSets_53 rfl (lv_at hl 2 rfl) ?_
        obtain ⟨q54, hq54⟩ := ob_s hf
        replace hf := hq54.2
        replace hq54 := hq54.1
        refine cV1 (rest := []) (ws1 := ((bAs G a o (b q) (as_set_trial w q54.2)) ++ (bWh G b q nw) ++ ([(aa, eI G k f)]))) (st1 := [.int q54.1]) C0 hW hl.1 (c_X4_limpsAs l G a (o + 1) (aa) k (wh_set_there q32 (x3 &&& (x5 ^^^ (-1 : Int32)))) f x2 _ hq54) cb_X4_limpsAs mm_X0_79 [1, 2, 3, 4, 5, 6, 13] rfl rfl rfl 0 4 rfl rfl rfl (by decide) rfl rfl (Nat.le_of_ble_eq_true rfl) ⟨Nat.zero_le _, Nat.zero_le _⟩ dX0_goneSets_54 rfl rfl (fun H locs hW => ?_)
        refine lv_if_eq (tgt := 74) hx hb dX0_goneSets_57 (by decide) (fun c57_4 => ?_) (fun c57_4 => ?_)
        · replace hf := if_t c57_4 hf
          exact J74 _ _ _ _ hf hF _ _ _ hW (lv_sub hl [0, 1, 2, 3, 4, 5] rfl)
        · replace hf := if_f c57_4 hf
          refine lv_iload hx hb dX0_goneSets_60 (lv_at hl 4 rfl) ?_
          refine lv_if_ne (tgt := 71) hx hb dX0_goneSets_62 (by decide) (fun c62_5 => ?_) (fun c62_5 => ?_)
          · replace hf := if_f c62_5 hf
            exact J71 _ _ _ _ hf hF _ _ _ hW (lv_sub hl [0, 1, 2, 3, 4, 5] rfl)
          · replace hf := if_t c62_5 hf
            refine lv_aload_n hx hb dX0_goneSets_65 rfl (lv_at hl 0 rfl) ?_
            refine lv_iload hx hb dX0_goneSets_66 (lv_at hl 5 rfl) ?_
            refine k_put C0 hW 0 0 0 rfl (by decide) inX0 tyX0_ok nmX0 mf_X0_29 rfl rfl rfl rfl (Nat.le_of_ble_eq_true rfl) dX0_goneSets_68 (fun H locs hW => ?_)
            have hW : Wd G A s.heap H ((bAs G a o (b q) (as_set_trial (as_set_found w x5) q54.2)) ++ (bWh G b q nw) ++ ([(aa, eI G k f)])) locs := hW
            exact J71 _ _ _ _ hf hF _ _ _ hW (lv_sub hl [0, 1, 2, 3, 4, 5] rfl)
    exact lp_sound (fun sg r hb hz => B18 sg.1 sg.2.1 sg.2.2 r hb hz)
  obtain ⟨r, hr⟩ : ∃ r, f_X0_goneSets k w nw f x2 = some r ∧ r = out := ⟨out, hf, rfl⟩
  replace hf := hr.1
  have hF := hr.2
  clear hr
  unfold f_X0_goneSets at hf
  refine lv_iconst (v := 1) hx hb dX0_goneSets_0 (by decide) ?_
  refine lv_aload_n hx hb dX0_goneSets_1 rfl (lv_at hl 0 rfl) ?_
  refine k_get C0 hW 0 1 0 (v := .ref (b q)) rfl (by decide) inX0 mf_X0_9 rfl rfl dX0_goneSets_2 ?_
  refine k_get C0 hW 4 5 7 (v := .int (wh_spokes nw)) rfl (by decide) inX4 mf_X0_47 rfl rfl dX0_goneSets_5 ?_
  refine lv_ishl hx hb dX0_goneSets_8 ?_
  refine lv_iconst (v := 1) hx hb dX0_goneSets_9 (by decide) ?_
  refine lv_isub hx hb dX0_goneSets_10 ?_
  refine lv_topi (fun v11 ev11 => ?_)
  replace hf := nm_s ev11 hf
  refine lv_istore_n (lv' := [(3, .int v11), (0, .ref (a o)), (1, .ref (aa)), (2, .int x2)]) hx hb dX0_goneSets_11 rfl hl (by decide) rfl (fun ls hl => ?_)
  refine lv_iconst (v := 0) hx hb dX0_goneSets_12 (by decide) ?_
  refine lv_istore (lv' := [(4, .int (0 : Int32)), (3, .int v11), (0, .ref (a o)), (1, .ref (aa)), (2, .int x2)]) hx hb dX0_goneSets_13 hl (by decide) rfl (fun ls hl => ?_)
  refine lv_iconst (v := 0) hx hb dX0_goneSets_15 (by decide) ?_
  refine lv_istore (lv' := [(5, .int (0 : Int32)), (4, .int (0 : Int32)), (3, .int v11), (0, .ref (a o)), (1, .ref (aa)), (2, .int x2)]) hx hb dX0_goneSets_16 hl (by decide) rfl (fun ls hl => ?_)
  exact L18 _ fuel ((0 : Int32), (0 : Int32), w) _ hf hF _ _ _ hW (lv_sub hl [3, 4, 5, 2, 1, 0] rfl)

def f_X0_likelyKinds_J56 (k : Nat) (w : As) (nw : Wh) (f : Ar) (x1 : Int32) (x3 : Int32) (x4 : Int32) (x5 : Int32) : Option ((Int32 × Int32 × As) ⊕ (Int32 × As)) :=
  some (Sum.inl (x4, (x5 + (1 : Int32)), w))
def f_X0_likelyKinds_B6 (k : Nat) (nw : Wh) (f : Ar) (x1 : Int32) (x3 : Int32) (x4 : Int32) (x5 : Int32) (w : As) : Option ((Int32 × Int32 × As) ⊕ (Int32 × As)) :=
  if (6 : Int32) ≤ x5 then (Option.map Sum.inr (some (x4, w))) else (Option.bind (f_X4_take (as_trial w) nw) (fun q21 => gd (inb x1 8) (Option.bind (f_X4_limpsAs k (wh_set_kind q21 (upd (wh_kind q21) (ix x1) x5)) f x3) (fun q41 => if q41.1 = 0 then (f_X0_likelyKinds_J56 k (as_set_trial w q41.2) nw f x1 x3 x4 x5) else (nm (x4 ||| (jshl (1 : Int32) x5)) (fun v54 => f_X0_likelyKinds_J56 k (as_set_trial w q41.2) nw f x1 x3 v54 x5))))))
def f_X0_likelyKinds_L6 (k : Nat) (nw : Wh) (f : Ar) (x1 : Int32) (x3 : Int32) (sg : Int32 × Int32 × As) : Option ((Int32 × Int32 × As) ⊕ (Int32 × As)) := f_X0_likelyKinds_B6 k nw f x1 x3 sg.1 sg.2.1 sg.2.2
def f_X0_likelyKinds (k : Nat) (w : As) (nw : Wh) (f : Ar) (x1 : Int32) (x3 : Int32) : Option (Int32 × As) :=
  lp (f_X0_likelyKinds_L6 k nw f x1 x3) fuel ((0 : Int32), (0 : Int32), w)
set_option maxRecDepth 100000 in
set_option maxHeartbeats 8000000 in
theorem c_X0_likelyKinds (l : Launch) (G : GG) (a : Nat → Nat) (o : Nat) (b : Nat → Nat) (q : Nat) (aa : Nat) (k : Nat) (w : As) (nw : Wh) (f : Ar) (x1 : Int32) (x3 : Int32) (out : Int32 × As) (hf : f_X0_likelyKinds k w nw f x1 x3 = some out) : Cn l G 4 yX0_likelyKinds cX0_likelyKinds 6 (some .int) [.ref (a o), .int x1, .ref (aa), .int x3] ((bAs G a o (b q) w) ++ (bWh G b q nw) ++ ([(aa, eI G k f)])) (some (.int out.1)) ((bAs G a o (b q) out.2) ++ (bWh G b q nw) ++ ([(aa, eI G k f)])) := by
  refine cn_start (by decide) (Nat.le_of_ble_eq_true rfl) ?_
  intro p e s m below meth c A ls C0 hW hl
  have hx := C0.1
  have hb := C0.2.1
  have hl : lv_has ls 6 [(0, .ref (a o)), (1, .int x1), (2, .ref (aa)), (3, .int x3)] := hl
  have L6 : ∀ (k8 : Nat) (sg : Int32 × Int32 × As) (o9 : Int32 × As), lp (f_X0_likelyKinds_L6 k nw f x1 x3) k8 sg = some o9 → (fun (r : Int32 × As) => r = out) o9 → (fun (sg : Int32 × Int32 × As) => ∀ (H : Heap) (locs : List Loc) (ls : Array Slot), Wd G A s.heap H ((bAs G a o (b q) sg.2.2) ++ (bWh G b q nw) ++ ([(aa, eI G k f)])) locs → lv_has ls 6 [(0, .ref (a o)), (1, .int x1), (2, .ref (aa)), (3, .int x3), (4, .int sg.1), (5, .int sg.2.1)] → WW p l e 4 s m [.ref (a o), .int x1, .ref (aa), .int x3] below meth c G A (some (.int out.1)) (((bAs G a o (b q) out.2) ++ (bWh G b q nw) ++ ([(aa, eI G k f)]))) H locs 6 ls []) sg := by
    have J56 : ∀ (x4 : Int32) (x5 : Int32) (w : As) (r : (Int32 × Int32 × As) ⊕ (Int32 × As)), f_X0_likelyKinds_J56 k w nw f x1 x3 x4 x5 = some r → (Sum.elim (fun (sg : Int32 × Int32 × As) => ∀ (H : Heap) (locs : List Loc) (ls : Array Slot), Wd G A s.heap H ((bAs G a o (b q) sg.2.2) ++ (bWh G b q nw) ++ ([(aa, eI G k f)])) locs → lv_has ls 6 [(0, .ref (a o)), (1, .int x1), (2, .ref (aa)), (3, .int x3), (4, .int sg.1), (5, .int sg.2.1)] → WW p l e 4 s m [.ref (a o), .int x1, .ref (aa), .int x3] below meth c G A (some (.int out.1)) (((bAs G a o (b q) out.2) ++ (bWh G b q nw) ++ ([(aa, eI G k f)]))) H locs 6 ls []) (fun (r : Int32 × As) => r = out)) r → ∀ (H : Heap) (locs : List Loc) (ls : Array Slot), Wd G A s.heap H ((bAs G a o (b q) w) ++ (bWh G b q nw) ++ ([(aa, eI G k f)])) locs → lv_has ls 6 [(0, .ref (a o)), (1, .int x1), (2, .ref (aa)), (3, .int x3), (4, .int x4), (5, .int x5)] → WW p l e 4 s m [.ref (a o), .int x1, .ref (aa), .int x3] below meth c G A (some (.int out.1)) (((bAs G a o (b q) out.2) ++ (bWh G b q nw) ++ ([(aa, eI G k f)]))) H locs 56 ls [] := by
      intro x4 x5 w r hf hF H locs ls hW hl
      unfold f_X0_likelyKinds_J56 at hf
      refine lv_iinc (v := (x5 + (1 : Int32))) (lv' := [(5, .int (x5 + (1 : Int32))), (0, .ref (a o)), (1, .int x1), (2, .ref (aa)), (3, .int x3), (4, .int x4)]) hx hb dX0_likelyKinds_56 hl (k := 5) rfl rfl (by decide) rfl (fun ls hl => ?_)
      refine lv_goto (tgt := 6) hx hb dX0_likelyKinds_59 (by decide) ?_
      have e1 := Option.some.inj hf
      subst e1
      exact (elim_l hF) _ _ _ hW (lv_sub hl [1, 2, 3, 4, 5, 0] rfl)
    have B6 : ∀ (x4 : Int32) (x5 : Int32) (w : As) (r : (Int32 × Int32 × As) ⊕ (Int32 × As)), f_X0_likelyKinds_B6 k nw f x1 x3 x4 x5 w = some r → (Sum.elim (fun (sg : Int32 × Int32 × As) => ∀ (H : Heap) (locs : List Loc) (ls : Array Slot), Wd G A s.heap H ((bAs G a o (b q) sg.2.2) ++ (bWh G b q nw) ++ ([(aa, eI G k f)])) locs → lv_has ls 6 [(0, .ref (a o)), (1, .int x1), (2, .ref (aa)), (3, .int x3), (4, .int sg.1), (5, .int sg.2.1)] → WW p l e 4 s m [.ref (a o), .int x1, .ref (aa), .int x3] below meth c G A (some (.int out.1)) (((bAs G a o (b q) out.2) ++ (bWh G b q nw) ++ ([(aa, eI G k f)]))) H locs 6 ls []) (fun (r : Int32 × As) => r = out)) r → ∀ (H : Heap) (locs : List Loc) (ls : Array Slot), Wd G A s.heap H ((bAs G a o (b q) w) ++ (bWh G b q nw) ++ ([(aa, eI G k f)])) locs → lv_has ls 6 [(0, .ref (a o)), (1, .int x1), (2, .ref (aa)), (3, .int x3), (4, .int x4), (5, .int x5)] → WW p l e 4 s m [.ref (a o), .int x1, .ref (aa), .int x3] below meth c G A (some (.int out.1)) (((bAs G a o (b q) out.2) ++ (bWh G b q nw) ++ ([(aa, eI G k f)]))) H locs 6 ls [] := by
      intro x4 x5 w r hf hF H locs ls hW hl
      unfold f_X0_likelyKinds_B6 at hf
      refine lv_iload hx hb dX0_likelyKinds_6 (lv_at hl 5 rfl) ?_
      refine lv_bipush (v := 6) hx hb dX0_likelyKinds_8 (by decide) ?_
      refine lv_icmp_ge (tgt := 62) hx hb dX0_likelyKinds_10 (by decide) (fun c10_1 => ?_) (fun c10_1 => ?_)
      · replace hf := if_t c10_1 hf
        obtain ⟨r2, e2⟩ := om_s hf
        replace hf := e2.1
        replace e2 := e2.2
        subst e2
        replace hF := elim_r hF
        refine lv_iload hx hb dX0_likelyKinds_62 (lv_at hl 4 rfl) ?_
        have e1 := Option.some.inj hf
        subst e1
        have hF : ((x4, w) : Int32 × As) = out := hF
        subst hF
        exact k_iret C0 hW dX0_likelyKinds_64
      · replace hf := if_f c10_1 hf
        refine lv_aload_n hx hb dX0_likelyKinds_13 rfl (lv_at hl 0 rfl) ?_
        refine k_get C0 hW 0 2 0 (v := .ref (a (o + 1))) rfl (by decide) inX0 mf_X0_18 rfl rfl dX0_likelyKinds_14 ?_
        refine lv_aload_n hx hb dX0_likelyKinds_17 rfl (lv_at hl 0 rfl) ?_
        refine k_get C0 hW 0 1 0 (v := .ref (b q)) rfl (by decide) inX0 mf_X0_9 rfl rfl dX0_likelyKinds_18 ?_
        obtain ⟨q21, hq21⟩ := ob_s hf
        replace hf := hq21.2
        replace hq21 := hq21.1
        refine cV1 (rest := []) (ws1 := ((bAs G a o (b q) (as_set_trial w q21)) ++ (bWh G b q nw) ++ ([(aa, eI G k f)]))) (st1 := []) C0 hW hl.1 (c_X4_take l G a (o + 1) b q (as_trial w) nw _ hq21) cb_X4_take mm_X0_21 [1, 2, 3, 4, 5, 6, 7, 8, 9, 10, 11, 12] rfl rfl rfl 0 4 rfl rfl rfl (by decide) rfl rfl (Nat.le_of_ble_eq_true rfl) ⟨Nat.zero_le _, Nat.zero_le _⟩ dX0_likelyKinds_21 rfl rfl (fun H locs hW => ?_)
        refine lv_aload_n hx hb dX0_likelyKinds_24 rfl (lv_at hl 0 rfl) ?_
        refine k_get C0 hW 0 2 0 (v := .ref (a (o + 1))) rfl (by decide) inX0 mf_X0_18 rfl rfl dX0_likelyKinds_25 ?_
        refine k_get C0 hW 4 1 1 (v := .ref (a (o + 3))) rfl (by decide) inX4 mf_X0_87 rfl rfl dX0_likelyKinds_28 ?_
        refine lv_iload_n hx hb dX0_likelyKinds_31 rfl (lv_at hl 1 rfl) ?_
        refine lv_iload hx hb dX0_likelyKinds_32 (lv_at hl 5 rfl) ?_
        have g34_2 := (gd_some hf).1; replace hf := (gd_some hf).2
        refine k_iast C0 hW 3 (ix x1) rfl (inb_in g34_2) rfl dX0_likelyKinds_34 (fun H locs hW => ?_)
        have hW : Wd G A s.heap H ((bAs G a o (b q) (as_set_trial w (wh_set_kind q21 (upd (wh_kind q21) (ix x1) x5)))) ++ (bWh G b q nw) ++ ([(aa, eI G k f)])) locs := hW
        refine lv_aload_n hx hb dX0_likelyKinds_35 rfl (lv_at hl 0 rfl) ?_
        refine k_get C0 hW 0 2 0 (v := .ref (a (o + 1))) rfl (by decide) inX0 mf_X0_18 rfl rfl dX0_likelyKinds_36 ?_
        refine lv_aload_n hx hb dX0_likelyKinds_39 rfl (lv_at hl 2 rfl) ?_
        refine lv_iload_n hx hb dX0_likelyKinds_40 rfl (lv_at hl 3 rfl) ?_
        obtain ⟨q41, hq41⟩ := ob_s hf
        replace hf := hq41.2
        replace hq41 := hq41.1
        refine cV1 (rest := []) (ws1 := ((bAs G a o (b q) (as_set_trial w q41.2)) ++ (bWh G b q nw) ++ ([(aa, eI G k f)]))) (st1 := [.int q41.1]) C0 hW hl.1 (c_X4_limpsAs l G a (o + 1) (aa) k (wh_set_kind q21 (upd (wh_kind q21) (ix x1) x5)) f x3 _ hq41) cb_X4_limpsAs mm_X0_79 [1, 2, 3, 4, 5, 6, 13] rfl rfl rfl 0 4 rfl rfl rfl (by decide) rfl rfl (Nat.le_of_ble_eq_true rfl) ⟨Nat.zero_le _, Nat.zero_le _⟩ dX0_likelyKinds_41 rfl rfl (fun H locs hW => ?_)
        refine lv_if_eq (tgt := 56) hx hb dX0_likelyKinds_44 (by decide) (fun c44_3 => ?_) (fun c44_3 => ?_)
        · replace hf := if_t c44_3 hf
          exact J56 _ _ _ _ hf hF _ _ _ hW (lv_sub hl [0, 1, 2, 3, 4, 5] rfl)
        · replace hf := if_f c44_3 hf
          refine lv_iload hx hb dX0_likelyKinds_47 (lv_at hl 4 rfl) ?_
          refine lv_iconst (v := 1) hx hb dX0_likelyKinds_49 (by decide) ?_
          refine lv_iload hx hb dX0_likelyKinds_50 (lv_at hl 5 rfl) ?_
          refine lv_ishl hx hb dX0_likelyKinds_52 ?_
          refine lv_ior hx hb dX0_likelyKinds_53 ?_
          refine lv_topi (fun v54 ev54 => ?_)
          replace hf := nm_s ev54 hf
          refine lv_istore (lv' := [(4, .int v54), (0, .ref (a o)), (1, .int x1), (2, .ref (aa)), (3, .int x3), (5, .int x5)]) hx hb dX0_likelyKinds_54 hl (by decide) rfl (fun ls hl => ?_)
          exact J56 _ _ _ _ hf hF _ _ _ hW (lv_sub hl [1, 2, 3, 4, 0, 5] rfl)
    exact lp_sound (fun sg r hb hz => B6 sg.1 sg.2.1 sg.2.2 r hb hz)
  obtain ⟨r, hr⟩ : ∃ r, f_X0_likelyKinds k w nw f x1 x3 = some r ∧ r = out := ⟨out, hf, rfl⟩
  replace hf := hr.1
  have hF := hr.2
  clear hr
  unfold f_X0_likelyKinds at hf
  refine lv_iconst (v := 0) hx hb dX0_likelyKinds_0 (by decide) ?_
  refine lv_istore (lv' := [(4, .int (0 : Int32)), (0, .ref (a o)), (1, .int x1), (2, .ref (aa)), (3, .int x3)]) hx hb dX0_likelyKinds_1 hl (by decide) rfl (fun ls hl => ?_)
  refine lv_iconst (v := 0) hx hb dX0_likelyKinds_3 (by decide) ?_
  refine lv_istore (lv' := [(5, .int (0 : Int32)), (4, .int (0 : Int32)), (0, .ref (a o)), (1, .int x1), (2, .ref (aa)), (3, .int x3)]) hx hb dX0_likelyKinds_4 hl (by decide) rfl (fun ls hl => ?_)
  exact L6  fuel ((0 : Int32), (0 : Int32), w) _ hf hF _ _ _ hW (lv_sub hl [2, 3, 4, 5, 1, 0] rfl)

def f_X0_likelyStrengths_J56 (k : Nat) (w : As) (nw : Wh) (f : Ar) (x1 : Int32) (x3 : Int32) (x4 : Int32) (x5 : Int32) : Option ((Int32 × Int32 × As) ⊕ (Int32 × As)) :=
  some (Sum.inl (x4, (x5 + (1 : Int32)), w))
def f_X0_likelyStrengths_B6 (k : Nat) (nw : Wh) (f : Ar) (x1 : Int32) (x3 : Int32) (x4 : Int32) (x5 : Int32) (w : As) : Option ((Int32 × Int32 × As) ⊕ (Int32 × As)) :=
  if (9 : Int32) < x5 then (Option.map Sum.inr (some (x4, w))) else (Option.bind (f_X4_take (as_trial w) nw) (fun q21 => gd (inb x1 8) (Option.bind (f_X4_limpsAs k (wh_set_strong q21 (upd (wh_strong q21) (ix x1) x5)) f x3) (fun q41 => if q41.1 = 0 then (f_X0_likelyStrengths_J56 k (as_set_trial w q41.2) nw f x1 x3 x4 x5) else (nm (x4 ||| (jshl (1 : Int32) x5)) (fun v54 => f_X0_likelyStrengths_J56 k (as_set_trial w q41.2) nw f x1 x3 v54 x5))))))
def f_X0_likelyStrengths_L6 (k : Nat) (nw : Wh) (f : Ar) (x1 : Int32) (x3 : Int32) (sg : Int32 × Int32 × As) : Option ((Int32 × Int32 × As) ⊕ (Int32 × As)) := f_X0_likelyStrengths_B6 k nw f x1 x3 sg.1 sg.2.1 sg.2.2
def f_X0_likelyStrengths (k : Nat) (w : As) (nw : Wh) (f : Ar) (x1 : Int32) (x3 : Int32) : Option (Int32 × As) :=
  lp (f_X0_likelyStrengths_L6 k nw f x1 x3) fuel ((0 : Int32), (0 : Int32), w)
set_option maxRecDepth 100000 in
set_option maxHeartbeats 8000000 in
theorem c_X0_likelyStrengths (l : Launch) (G : GG) (a : Nat → Nat) (o : Nat) (b : Nat → Nat) (q : Nat) (aa : Nat) (k : Nat) (w : As) (nw : Wh) (f : Ar) (x1 : Int32) (x3 : Int32) (out : Int32 × As) (hf : f_X0_likelyStrengths k w nw f x1 x3 = some out) : Cn l G 4 yX0_likelyStrengths cX0_likelyStrengths 6 (some .int) [.ref (a o), .int x1, .ref (aa), .int x3] ((bAs G a o (b q) w) ++ (bWh G b q nw) ++ ([(aa, eI G k f)])) (some (.int out.1)) ((bAs G a o (b q) out.2) ++ (bWh G b q nw) ++ ([(aa, eI G k f)])) := by
  refine cn_start (by decide) (Nat.le_of_ble_eq_true rfl) ?_
  intro p e s m below meth c A ls C0 hW hl
  have hx := C0.1
  have hb := C0.2.1
  have hl : lv_has ls 6 [(0, .ref (a o)), (1, .int x1), (2, .ref (aa)), (3, .int x3)] := hl
  have L6 : ∀ (k8 : Nat) (sg : Int32 × Int32 × As) (o9 : Int32 × As), lp (f_X0_likelyStrengths_L6 k nw f x1 x3) k8 sg = some o9 → (fun (r : Int32 × As) => r = out) o9 → (fun (sg : Int32 × Int32 × As) => ∀ (H : Heap) (locs : List Loc) (ls : Array Slot), Wd G A s.heap H ((bAs G a o (b q) sg.2.2) ++ (bWh G b q nw) ++ ([(aa, eI G k f)])) locs → lv_has ls 6 [(0, .ref (a o)), (1, .int x1), (2, .ref (aa)), (3, .int x3), (4, .int sg.1), (5, .int sg.2.1)] → WW p l e 4 s m [.ref (a o), .int x1, .ref (aa), .int x3] below meth c G A (some (.int out.1)) (((bAs G a o (b q) out.2) ++ (bWh G b q nw) ++ ([(aa, eI G k f)]))) H locs 6 ls []) sg := by
    have J56 : ∀ (x4 : Int32) (x5 : Int32) (w : As) (r : (Int32 × Int32 × As) ⊕ (Int32 × As)), f_X0_likelyStrengths_J56 k w nw f x1 x3 x4 x5 = some r → (Sum.elim (fun (sg : Int32 × Int32 × As) => ∀ (H : Heap) (locs : List Loc) (ls : Array Slot), Wd G A s.heap H ((bAs G a o (b q) sg.2.2) ++ (bWh G b q nw) ++ ([(aa, eI G k f)])) locs → lv_has ls 6 [(0, .ref (a o)), (1, .int x1), (2, .ref (aa)), (3, .int x3), (4, .int sg.1), (5, .int sg.2.1)] → WW p l e 4 s m [.ref (a o), .int x1, .ref (aa), .int x3] below meth c G A (some (.int out.1)) (((bAs G a o (b q) out.2) ++ (bWh G b q nw) ++ ([(aa, eI G k f)]))) H locs 6 ls []) (fun (r : Int32 × As) => r = out)) r → ∀ (H : Heap) (locs : List Loc) (ls : Array Slot), Wd G A s.heap H ((bAs G a o (b q) w) ++ (bWh G b q nw) ++ ([(aa, eI G k f)])) locs → lv_has ls 6 [(0, .ref (a o)), (1, .int x1), (2, .ref (aa)), (3, .int x3), (4, .int x4), (5, .int x5)] → WW p l e 4 s m [.ref (a o), .int x1, .ref (aa), .int x3] below meth c G A (some (.int out.1)) (((bAs G a o (b q) out.2) ++ (bWh G b q nw) ++ ([(aa, eI G k f)]))) H locs 56 ls [] := by
      intro x4 x5 w r hf hF H locs ls hW hl
      unfold f_X0_likelyStrengths_J56 at hf
      refine lv_iinc (v := (x5 + (1 : Int32))) (lv' := [(5, .int (x5 + (1 : Int32))), (0, .ref (a o)), (1, .int x1), (2, .ref (aa)), (3, .int x3), (4, .int x4)]) hx hb dX0_likelyStrengths_56 hl (k := 5) rfl rfl (by decide) rfl (fun ls hl => ?_)
      refine lv_goto (tgt := 6) hx hb dX0_likelyStrengths_59 (by decide) ?_
      have e1 := Option.some.inj hf
      subst e1
      exact (elim_l hF) _ _ _ hW (lv_sub hl [1, 2, 3, 4, 5, 0] rfl)
    have B6 : ∀ (x4 : Int32) (x5 : Int32) (w : As) (r : (Int32 × Int32 × As) ⊕ (Int32 × As)), f_X0_likelyStrengths_B6 k nw f x1 x3 x4 x5 w = some r → (Sum.elim (fun (sg : Int32 × Int32 × As) => ∀ (H : Heap) (locs : List Loc) (ls : Array Slot), Wd G A s.heap H ((bAs G a o (b q) sg.2.2) ++ (bWh G b q nw) ++ ([(aa, eI G k f)])) locs → lv_has ls 6 [(0, .ref (a o)), (1, .int x1), (2, .ref (aa)), (3, .int x3), (4, .int sg.1), (5, .int sg.2.1)] → WW p l e 4 s m [.ref (a o), .int x1, .ref (aa), .int x3] below meth c G A (some (.int out.1)) (((bAs G a o (b q) out.2) ++ (bWh G b q nw) ++ ([(aa, eI G k f)]))) H locs 6 ls []) (fun (r : Int32 × As) => r = out)) r → ∀ (H : Heap) (locs : List Loc) (ls : Array Slot), Wd G A s.heap H ((bAs G a o (b q) w) ++ (bWh G b q nw) ++ ([(aa, eI G k f)])) locs → lv_has ls 6 [(0, .ref (a o)), (1, .int x1), (2, .ref (aa)), (3, .int x3), (4, .int x4), (5, .int x5)] → WW p l e 4 s m [.ref (a o), .int x1, .ref (aa), .int x3] below meth c G A (some (.int out.1)) (((bAs G a o (b q) out.2) ++ (bWh G b q nw) ++ ([(aa, eI G k f)]))) H locs 6 ls [] := by
      intro x4 x5 w r hf hF H locs ls hW hl
      unfold f_X0_likelyStrengths_B6 at hf
      refine lv_iload hx hb dX0_likelyStrengths_6 (lv_at hl 5 rfl) ?_
      refine lv_bipush (v := 9) hx hb dX0_likelyStrengths_8 (by decide) ?_
      refine lv_icmp_gt (tgt := 62) hx hb dX0_likelyStrengths_10 (by decide) (fun c10_1 => ?_) (fun c10_1 => ?_)
      · replace hf := if_t c10_1 hf
        obtain ⟨r2, e2⟩ := om_s hf
        replace hf := e2.1
        replace e2 := e2.2
        subst e2
        replace hF := elim_r hF
        refine lv_iload hx hb dX0_likelyStrengths_62 (lv_at hl 4 rfl) ?_
        have e1 := Option.some.inj hf
        subst e1
        have hF : ((x4, w) : Int32 × As) = out := hF
        subst hF
        exact k_iret C0 hW dX0_likelyStrengths_64
      · replace hf := if_f c10_1 hf
        refine lv_aload_n hx hb dX0_likelyStrengths_13 rfl (lv_at hl 0 rfl) ?_
        refine k_get C0 hW 0 2 0 (v := .ref (a (o + 1))) rfl (by decide) inX0 mf_X0_18 rfl rfl dX0_likelyStrengths_14 ?_
        refine lv_aload_n hx hb dX0_likelyStrengths_17 rfl (lv_at hl 0 rfl) ?_
        refine k_get C0 hW 0 1 0 (v := .ref (b q)) rfl (by decide) inX0 mf_X0_9 rfl rfl dX0_likelyStrengths_18 ?_
        obtain ⟨q21, hq21⟩ := ob_s hf
        replace hf := hq21.2
        replace hq21 := hq21.1
        refine cV1 (rest := []) (ws1 := ((bAs G a o (b q) (as_set_trial w q21)) ++ (bWh G b q nw) ++ ([(aa, eI G k f)]))) (st1 := []) C0 hW hl.1 (c_X4_take l G a (o + 1) b q (as_trial w) nw _ hq21) cb_X4_take mm_X0_21 [1, 2, 3, 4, 5, 6, 7, 8, 9, 10, 11, 12] rfl rfl rfl 0 4 rfl rfl rfl (by decide) rfl rfl (Nat.le_of_ble_eq_true rfl) ⟨Nat.zero_le _, Nat.zero_le _⟩ dX0_likelyStrengths_21 rfl rfl (fun H locs hW => ?_)
        refine lv_aload_n hx hb dX0_likelyStrengths_24 rfl (lv_at hl 0 rfl) ?_
        refine k_get C0 hW 0 2 0 (v := .ref (a (o + 1))) rfl (by decide) inX0 mf_X0_18 rfl rfl dX0_likelyStrengths_25 ?_
        refine k_get C0 hW 4 3 1 (v := .ref (a (o + 5))) rfl (by decide) inX4 mf_X0_83 rfl rfl dX0_likelyStrengths_28 ?_
        refine lv_iload_n hx hb dX0_likelyStrengths_31 rfl (lv_at hl 1 rfl) ?_
        refine lv_iload hx hb dX0_likelyStrengths_32 (lv_at hl 5 rfl) ?_
        have g34_2 := (gd_some hf).1; replace hf := (gd_some hf).2
        refine k_iast C0 hW 5 (ix x1) rfl (inb_in g34_2) rfl dX0_likelyStrengths_34 (fun H locs hW => ?_)
        have hW : Wd G A s.heap H ((bAs G a o (b q) (as_set_trial w (wh_set_strong q21 (upd (wh_strong q21) (ix x1) x5)))) ++ (bWh G b q nw) ++ ([(aa, eI G k f)])) locs := hW
        refine lv_aload_n hx hb dX0_likelyStrengths_35 rfl (lv_at hl 0 rfl) ?_
        refine k_get C0 hW 0 2 0 (v := .ref (a (o + 1))) rfl (by decide) inX0 mf_X0_18 rfl rfl dX0_likelyStrengths_36 ?_
        refine lv_aload_n hx hb dX0_likelyStrengths_39 rfl (lv_at hl 2 rfl) ?_
        refine lv_iload_n hx hb dX0_likelyStrengths_40 rfl (lv_at hl 3 rfl) ?_
        obtain ⟨q41, hq41⟩ := ob_s hf
        replace hf := hq41.2
        replace hq41 := hq41.1
        refine cV1 (rest := []) (ws1 := ((bAs G a o (b q) (as_set_trial w q41.2)) ++ (bWh G b q nw) ++ ([(aa, eI G k f)]))) (st1 := [.int q41.1]) C0 hW hl.1 (c_X4_limpsAs l G a (o + 1) (aa) k (wh_set_strong q21 (upd (wh_strong q21) (ix x1) x5)) f x3 _ hq41) cb_X4_limpsAs mm_X0_79 [1, 2, 3, 4, 5, 6, 13] rfl rfl rfl 0 4 rfl rfl rfl (by decide) rfl rfl (Nat.le_of_ble_eq_true rfl) ⟨Nat.zero_le _, Nat.zero_le _⟩ dX0_likelyStrengths_41 rfl rfl (fun H locs hW => ?_)
        refine lv_if_eq (tgt := 56) hx hb dX0_likelyStrengths_44 (by decide) (fun c44_3 => ?_) (fun c44_3 => ?_)
        · replace hf := if_t c44_3 hf
          exact J56 _ _ _ _ hf hF _ _ _ hW (lv_sub hl [0, 1, 2, 3, 4, 5] rfl)
        · replace hf := if_f c44_3 hf
          refine lv_iload hx hb dX0_likelyStrengths_47 (lv_at hl 4 rfl) ?_
          refine lv_iconst (v := 1) hx hb dX0_likelyStrengths_49 (by decide) ?_
          refine lv_iload hx hb dX0_likelyStrengths_50 (lv_at hl 5 rfl) ?_
          refine lv_ishl hx hb dX0_likelyStrengths_52 ?_
          refine lv_ior hx hb dX0_likelyStrengths_53 ?_
          refine lv_topi (fun v54 ev54 => ?_)
          replace hf := nm_s ev54 hf
          refine lv_istore (lv' := [(4, .int v54), (0, .ref (a o)), (1, .int x1), (2, .ref (aa)), (3, .int x3), (5, .int x5)]) hx hb dX0_likelyStrengths_54 hl (by decide) rfl (fun ls hl => ?_)
          exact J56 _ _ _ _ hf hF _ _ _ hW (lv_sub hl [1, 2, 3, 4, 0, 5] rfl)
    exact lp_sound (fun sg r hb hz => B6 sg.1 sg.2.1 sg.2.2 r hb hz)
  obtain ⟨r, hr⟩ : ∃ r, f_X0_likelyStrengths k w nw f x1 x3 = some r ∧ r = out := ⟨out, hf, rfl⟩
  replace hf := hr.1
  have hF := hr.2
  clear hr
  unfold f_X0_likelyStrengths at hf
  refine lv_iconst (v := 0) hx hb dX0_likelyStrengths_0 (by decide) ?_
  refine lv_istore (lv' := [(4, .int (0 : Int32)), (0, .ref (a o)), (1, .int x1), (2, .ref (aa)), (3, .int x3)]) hx hb dX0_likelyStrengths_1 hl (by decide) rfl (fun ls hl => ?_)
  refine lv_iconst (v := 0) hx hb dX0_likelyStrengths_3 (by decide) ?_
  refine lv_istore (lv' := [(5, .int (0 : Int32)), (4, .int (0 : Int32)), (0, .ref (a o)), (1, .int x1), (2, .ref (aa)), (3, .int x3)]) hx hb dX0_likelyStrengths_4 hl (by decide) rfl (fun ls hl => ?_)
  exact L6  fuel ((0 : Int32), (0 : Int32), w) _ hf hF _ _ _ hW (lv_sub hl [2, 3, 4, 5, 1, 0] rfl)

def f_X5_power_B5 (x0 : Int64) (x2 : Int32) (x3 : Int64) (x5 : Int32) : Option ((Int64 × Int32) ⊕ (Int64)) :=
  if x2 ≤ x5 then (Option.map Sum.inr (some x3)) else (some (Sum.inl ((x3 * x0), (x5 + (1 : Int32)))))
def f_X5_power_L5 (x0 : Int64) (x2 : Int32) (sg : Int64 × Int32) : Option ((Int64 × Int32) ⊕ (Int64)) := f_X5_power_B5 x0 x2 sg.1 sg.2
def f_X5_power (x0 : Int64) (x2 : Int32) : Option (Int64) :=
  lp (f_X5_power_L5 x0 x2) fuel ((1 : Int64), (0 : Int32))
set_option maxRecDepth 100000 in
set_option maxHeartbeats 8000000 in
theorem c_X5_power (l : Launch) (G : GG) (x0 : Int64) (x2 : Int32) (out : Int64) (hf : f_X5_power x0 x2 = some out) : Cn l G 0 yX5_power cX5_power 6 (some .long) [.long x0, .int x2] ([] : va_W) (some (.long out)) ([] : va_W) := by
  refine cn_start (by decide) (Nat.le_of_ble_eq_true rfl) ?_
  intro p e s m below meth c A ls C0 hW hl
  have hx := C0.1
  have hb := C0.2.1
  have hl : lv_has ls 6 [(0, .long x0), (2, .int x2)] := hl
  have L5 : ∀ (k8 : Nat) (sg : Int64 × Int32) (o9 : Int64), lp (f_X5_power_L5 x0 x2) k8 sg = some o9 → (fun (r : Int64) => r = out) o9 → (fun (sg : Int64 × Int32) => ∀ (H : Heap) (locs : List Loc) (ls : Array Slot), Wd G A s.heap H ([] : va_W) locs → lv_has ls 6 [(0, .long x0), (2, .int x2), (3, .long sg.1), (5, .int sg.2)] → WW p l e 0 s m [.long x0, .int x2] below meth c G A (some (.long out)) (([] : va_W)) H locs 5 ls []) sg := by
    have B5 : ∀ (x3 : Int64) (x5 : Int32) (r : (Int64 × Int32) ⊕ (Int64)), f_X5_power_B5 x0 x2 x3 x5 = some r → (Sum.elim (fun (sg : Int64 × Int32) => ∀ (H : Heap) (locs : List Loc) (ls : Array Slot), Wd G A s.heap H ([] : va_W) locs → lv_has ls 6 [(0, .long x0), (2, .int x2), (3, .long sg.1), (5, .int sg.2)] → WW p l e 0 s m [.long x0, .int x2] below meth c G A (some (.long out)) (([] : va_W)) H locs 5 ls []) (fun (r : Int64) => r = out)) r → ∀ (H : Heap) (locs : List Loc) (ls : Array Slot), Wd G A s.heap H ([] : va_W) locs → lv_has ls 6 [(0, .long x0), (2, .int x2), (3, .long x3), (5, .int x5)] → WW p l e 0 s m [.long x0, .int x2] below meth c G A (some (.long out)) (([] : va_W)) H locs 5 ls [] := by
      intro x3 x5 r hf hF H locs ls hW hl
      unfold f_X5_power_B5 at hf
      refine lv_iload hx hb dX5_power_5 (lv_at hl 3 rfl) ?_
      refine lv_iload_n hx hb dX5_power_7 rfl (lv_at hl 1 rfl) ?_
      refine lv_icmp_ge (tgt := 21) hx hb dX5_power_8 (by decide) (fun c8_1 => ?_) (fun c8_1 => ?_)
      · replace hf := if_t c8_1 hf
        obtain ⟨r2, e2⟩ := om_s hf
        replace hf := e2.1
        replace e2 := e2.2
        subst e2
        replace hF := elim_r hF
        refine lv_lload_n hx hb dX5_power_21 rfl (lv_at hl 2 rfl) ?_
        have e1 := Option.some.inj hf
        subst e1
        have hF : (x3 : Int64) = out := hF
        subst hF
        exact k_lret C0 hW dX5_power_22
      · replace hf := if_f c8_1 hf
        refine lv_lload_n hx hb dX5_power_11 rfl (lv_at hl 2 rfl) ?_
        refine lv_lload_n hx hb dX5_power_12 rfl (lv_at hl 0 rfl) ?_
        refine lv_lmul hx hb dX5_power_13 ?_
        refine lv_lstore_n (lv' := [(3, .long (x3 * x0)), (0, .long x0), (2, .int x2), (5, .int x5)]) hx hb dX5_power_14 rfl hl (by decide) rfl (fun ls hl => ?_)
        refine lv_iinc (v := (x5 + (1 : Int32))) (lv' := [(5, .int (x5 + (1 : Int32))), (3, .long (x3 * x0)), (0, .long x0), (2, .int x2)]) hx hb dX5_power_15 hl (k := 3) rfl rfl (by decide) rfl (fun ls hl => ?_)
        refine lv_goto (tgt := 5) hx hb dX5_power_18 (by decide) ?_
        have e1 := Option.some.inj hf
        subst e1
        exact (elim_l hF) _ _ _ hW (lv_sub hl [2, 3, 1, 0] rfl)
    exact lp_sound (fun sg r hb hz => B5 sg.1 sg.2 r hb hz)
  obtain ⟨r, hr⟩ : ∃ r, f_X5_power x0 x2 = some r ∧ r = out := ⟨out, hf, rfl⟩
  replace hf := hr.1
  have hF := hr.2
  clear hr
  unfold f_X5_power at hf
  refine lv_lconst (v := 1) hx hb dX5_power_0 (by decide) ?_
  refine lv_lstore_n (lv' := [(3, .long (1 : Int64)), (0, .long x0), (2, .int x2)]) hx hb dX5_power_1 rfl hl (by decide) rfl (fun ls hl => ?_)
  refine lv_iconst (v := 0) hx hb dX5_power_2 (by decide) ?_
  refine lv_istore (lv' := [(5, .int (0 : Int32)), (3, .long (1 : Int64)), (0, .long x0), (2, .int x2)]) hx hb dX5_power_3 hl (by decide) rfl (fun ls hl => ?_)
  exact L5  fuel ((1 : Int64), (0 : Int32)) _ hf hF _ _ _ hW (lv_sub hl [2, 3, 1, 0] rfl)

def f_X0_waysToLose (w : As) (nw : Wh) (x1 : Int32) (x2 : Int32) : Option (Int64) :=
  if (x1 &&& ((wh_there nw) ^^^ (-1 : Int32))) = 0 then (Option.bind (f_J6_bitCount_0f7a4 x1) (fun q17 => Option.bind (f_J6_bitCount_0f7a4 (wh_there nw)) (fun q28 => Option.bind (f_X5_power (x2.toInt64) q17) (fun q38 => Option.bind (f_X5_power (((12 : Int32) - x2).toInt64) (q28 - q17)) (fun q48 => some (q38 * q48)))))) else (some (0 : Int64))
set_option maxRecDepth 100000 in
set_option maxHeartbeats 8000000 in
theorem c_X0_waysToLose (l : Launch) (G : GG) (a : Nat → Nat) (o : Nat) (b : Nat → Nat) (q : Nat) (w : As) (nw : Wh) (x1 : Int32) (x2 : Int32) (out : Int64) (hf : f_X0_waysToLose w nw x1 x2 = some out) : Cn l G 1 yX0_waysToLose cX0_waysToLose 5 (some .long) [.ref (a o), .int x1, .int x2] ((bAs G a o (b q) w) ++ (bWh G b q nw)) (some (.long out)) ((bAs G a o (b q) w) ++ (bWh G b q nw)) := by
  refine cn_start (by decide) (Nat.le_of_ble_eq_true rfl) ?_
  intro p e s m below meth c A ls C0 hW hl
  have hx := C0.1
  have hb := C0.2.1
  have hl : lv_has ls 5 [(0, .ref (a o)), (1, .int x1), (2, .int x2)] := hl
  obtain ⟨r, hr⟩ : ∃ r, f_X0_waysToLose w nw x1 x2 = some r ∧ r = out := ⟨out, hf, rfl⟩
  replace hf := hr.1
  have hF := hr.2
  clear hr
  unfold f_X0_waysToLose at hf
  refine lv_iload_n hx hb dX0_waysToLose_0 rfl (lv_at hl 1 rfl) ?_
  refine lv_aload_n hx hb dX0_waysToLose_1 rfl (lv_at hl 0 rfl) ?_
  refine k_get C0 hW 0 1 0 (v := .ref (b q)) rfl (by decide) inX0 mf_X0_9 rfl rfl dX0_waysToLose_2 ?_
  refine k_get C0 hW 4 9 7 (v := .int (wh_there nw)) rfl (by decide) inX4 mf_X0_76 rfl rfl dX0_waysToLose_5 ?_
  refine lv_iconst (v := -1) hx hb dX0_waysToLose_8 (by decide) ?_
  refine lv_ixor hx hb dX0_waysToLose_9 ?_
  refine lv_iand hx hb dX0_waysToLose_10 ?_
  refine lv_if_eq (tgt := 16) hx hb dX0_waysToLose_11 (by decide) (fun c11_1 => ?_) (fun c11_1 => ?_)
  · replace hf := if_t c11_1 hf
    refine lv_iload_n hx hb dX0_waysToLose_16 rfl (lv_at hl 1 rfl) ?_
    obtain ⟨q17, hq17⟩ := ob_s hf
    replace hf := hq17.2
    replace hq17 := hq17.1
    refine cS0 (rest := []) (st1 := [.int q17]) C0 hW hl.1 (c_J6_bitCount_0f7a4 l G x1 _ hq17) cb_J6_bitCount_0f7a4 mm_X0_50 [] rfl rfl (by decide) rfl rfl (Nat.le_of_ble_eq_true rfl) ⟨Nat.zero_le _, Nat.zero_le _⟩ dX0_waysToLose_17 rfl (fun H locs hW => ?_)
    refine lv_istore_n (lv' := [(3, .int q17), (0, .ref (a o)), (1, .int x1), (2, .int x2)]) hx hb dX0_waysToLose_20 rfl hl (by decide) rfl (fun ls hl => ?_)
    refine lv_aload_n hx hb dX0_waysToLose_21 rfl (lv_at hl 1 rfl) ?_
    refine k_get C0 hW 0 1 0 (v := .ref (b q)) rfl (by decide) inX0 mf_X0_9 rfl rfl dX0_waysToLose_22 ?_
    refine k_get C0 hW 4 9 7 (v := .int (wh_there nw)) rfl (by decide) inX4 mf_X0_76 rfl rfl dX0_waysToLose_25 ?_
    obtain ⟨q28, hq28⟩ := ob_s hf
    replace hf := hq28.2
    replace hq28 := hq28.1
    refine cS0 (rest := []) (st1 := [.int q28]) C0 hW hl.1 (c_J6_bitCount_0f7a4 l G (wh_there nw) _ hq28) cb_J6_bitCount_0f7a4 mm_X0_50 [] rfl rfl (by decide) rfl rfl (Nat.le_of_ble_eq_true rfl) ⟨Nat.zero_le _, Nat.zero_le _⟩ dX0_waysToLose_28 rfl (fun H locs hW => ?_)
    refine lv_iload_n hx hb dX0_waysToLose_31 rfl (lv_at hl 0 rfl) ?_
    refine lv_isub hx hb dX0_waysToLose_32 ?_
    refine lv_istore (lv' := [(4, .int (q28 - q17)), (3, .int q17), (0, .ref (a o)), (1, .int x1), (2, .int x2)]) hx hb dX0_waysToLose_33 hl (by decide) rfl (fun ls hl => ?_)
    refine lv_iload_n hx hb dX0_waysToLose_35 rfl (lv_at hl 4 rfl) ?_
    refine lv_i2l (v := x2.toInt64) hx hb dX0_waysToLose_36 rfl ?_
    refine lv_iload_n hx hb dX0_waysToLose_37 rfl (lv_at hl 1 rfl) ?_
    obtain ⟨q38, hq38⟩ := ob_s hf
    replace hf := hq38.2
    replace hq38 := hq38.1
    refine cN0 (rest := []) (st1 := [.long q38]) C0 hW hl.1 (c_X5_power l G (x2.toInt64) q17 _ hq38) cb_X5_power mn_X0_124 [] rfl rfl (by decide) rfl rfl (Nat.le_of_ble_eq_true rfl) ⟨Nat.zero_le _, Nat.zero_le _⟩ dX0_waysToLose_38 rfl (fun H locs hW => ?_)
    refine lv_bipush (v := 12) hx hb dX0_waysToLose_41 (by decide) ?_
    refine lv_iload_n hx hb dX0_waysToLose_43 rfl (lv_at hl 4 rfl) ?_
    refine lv_isub hx hb dX0_waysToLose_44 ?_
    refine lv_i2l (v := ((12 : Int32) - x2).toInt64) hx hb dX0_waysToLose_45 rfl ?_
    refine lv_iload hx hb dX0_waysToLose_46 (lv_at hl 0 rfl) ?_
    obtain ⟨q48, hq48⟩ := ob_s hf
    replace hf := hq48.2
    replace hq48 := hq48.1
    refine cN0 (rest := [.long q38]) (st1 := [.long q48, .long q38]) C0 hW hl.1 (c_X5_power l G (((12 : Int32) - x2).toInt64) (q28 - q17) _ hq48) cb_X5_power mn_X0_124 [] rfl rfl (by decide) rfl rfl (Nat.le_of_ble_eq_true rfl) ⟨Nat.zero_le _, Nat.zero_le _⟩ dX0_waysToLose_48 rfl (fun H locs hW => ?_)
    refine lv_lmul hx hb dX0_waysToLose_51 ?_
    have e1 := Option.some.inj hf
    subst e1
    have hF : ((q38 * q48) : Int64) = out := hF
    subst hF
    exact k_lret C0 hW dX0_waysToLose_52
  · replace hf := if_f c11_1 hf
    refine lv_lconst (v := 0) hx hb dX0_waysToLose_14 (by decide) ?_
    have e1 := Option.some.inj hf
    subst e1
    have hF : ((0 : Int64) : Int64) = out := hF
    subst hF
    exact k_lret C0 hW dX0_waysToLose_15

def f_X0_limpsOverWays_J59 (w : As) (nw : Wh) (x1 : Int32) (x2 : Int64) (x4 : Int32) : Option ((Int64 × Int32 × As) ⊕ (Int64 × As)) :=
  some (Sum.inl (x2, (x4 + (1 : Int32)), w))
def f_X0_limpsOverWays_B5 (nw : Wh) (x1 : Int32) (x2 : Int64) (x4 : Int32) (w : As) : Option ((Int64 × Int32 × As) ⊕ (Int64 × As)) :=
  if (jshl (1 : Int32) (wh_spokes nw)) ≤ x4 then (Option.map Sum.inr (some (x2, w))) else (Option.bind (f_X0_waysToLose w nw x4 x1) (fun q23 => if (lg_cmp q23 (0 : Int64)) = 0 then (f_X0_limpsOverWays_J59 w nw x1 x2 x4) else (Option.bind (f_X0_limpsWith w nw ((wh_there nw) &&& (x4 ^^^ (-1 : Int32))) (0 : Int32)) (fun q52 => nm (x2 + (q23 * (q52.1.toInt64))) (fun v58 => f_X0_limpsOverWays_J59 q52.2 nw x1 v58 x4)))))
def f_X0_limpsOverWays_L5 (nw : Wh) (x1 : Int32) (sg : Int64 × Int32 × As) : Option ((Int64 × Int32 × As) ⊕ (Int64 × As)) := f_X0_limpsOverWays_B5 nw x1 sg.1 sg.2.1 sg.2.2
def f_X0_limpsOverWays (w : As) (nw : Wh) (x1 : Int32) : Option (Int64 × As) :=
  lp (f_X0_limpsOverWays_L5 nw x1) fuel ((0 : Int64), (0 : Int32), w)
set_option maxRecDepth 100000 in
set_option maxHeartbeats 8000000 in
theorem c_X0_limpsOverWays (l : Launch) (G : GG) (a : Nat → Nat) (o : Nat) (b : Nat → Nat) (q : Nat) (w : As) (nw : Wh) (x1 : Int32) (out : Int64 × As) (hf : f_X0_limpsOverWays w nw x1 = some out) : Cn l G 5 yX0_limpsOverWays cX0_limpsOverWays 7 (some .long) [.ref (a o), .int x1] ((bAs G a o (b q) w) ++ (bWh G b q nw)) (some (.long out.1)) ((bAs G a o (b q) out.2) ++ (bWh G b q nw)) := by
  refine cn_start (by decide) (Nat.le_of_ble_eq_true rfl) ?_
  intro p e s m below meth c A ls C0 hW hl
  have hx := C0.1
  have hb := C0.2.1
  have hl : lv_has ls 7 [(0, .ref (a o)), (1, .int x1)] := hl
  have L5 : ∀ (k8 : Nat) (sg : Int64 × Int32 × As) (o9 : Int64 × As), lp (f_X0_limpsOverWays_L5 nw x1) k8 sg = some o9 → (fun (r : Int64 × As) => r = out) o9 → (fun (sg : Int64 × Int32 × As) => ∀ (H : Heap) (locs : List Loc) (ls : Array Slot), Wd G A s.heap H ((bAs G a o (b q) sg.2.2) ++ (bWh G b q nw)) locs → lv_has ls 7 [(0, .ref (a o)), (1, .int x1), (2, .long sg.1), (4, .int sg.2.1)] → WW p l e 5 s m [.ref (a o), .int x1] below meth c G A (some (.long out.1)) (((bAs G a o (b q) out.2) ++ (bWh G b q nw))) H locs 5 ls []) sg := by
    have J59 : ∀ (x2 : Int64) (x4 : Int32) (w : As) (r : (Int64 × Int32 × As) ⊕ (Int64 × As)), f_X0_limpsOverWays_J59 w nw x1 x2 x4 = some r → (Sum.elim (fun (sg : Int64 × Int32 × As) => ∀ (H : Heap) (locs : List Loc) (ls : Array Slot), Wd G A s.heap H ((bAs G a o (b q) sg.2.2) ++ (bWh G b q nw)) locs → lv_has ls 7 [(0, .ref (a o)), (1, .int x1), (2, .long sg.1), (4, .int sg.2.1)] → WW p l e 5 s m [.ref (a o), .int x1] below meth c G A (some (.long out.1)) (((bAs G a o (b q) out.2) ++ (bWh G b q nw))) H locs 5 ls []) (fun (r : Int64 × As) => r = out)) r → ∀ (H : Heap) (locs : List Loc) (ls : Array Slot), Wd G A s.heap H ((bAs G a o (b q) w) ++ (bWh G b q nw)) locs → lv_has ls 7 [(0, .ref (a o)), (1, .int x1), (2, .long x2), (4, .int x4)] → WW p l e 5 s m [.ref (a o), .int x1] below meth c G A (some (.long out.1)) (((bAs G a o (b q) out.2) ++ (bWh G b q nw))) H locs 59 ls [] := by
      intro x2 x4 w r hf hF H locs ls hW hl
      unfold f_X0_limpsOverWays_J59 at hf
      refine lv_iinc (v := (x4 + (1 : Int32))) (lv' := [(4, .int (x4 + (1 : Int32))), (0, .ref (a o)), (1, .int x1), (2, .long x2)]) hx hb dX0_limpsOverWays_59 hl (k := 3) rfl rfl (by decide) rfl (fun ls hl => ?_)
      refine lv_goto (tgt := 5) hx hb dX0_limpsOverWays_62 (by decide) ?_
      have e1 := Option.some.inj hf
      subst e1
      exact (elim_l hF) _ _ _ hW (lv_sub hl [1, 2, 3, 0] rfl)
    have B5 : ∀ (x2 : Int64) (x4 : Int32) (w : As) (r : (Int64 × Int32 × As) ⊕ (Int64 × As)), f_X0_limpsOverWays_B5 nw x1 x2 x4 w = some r → (Sum.elim (fun (sg : Int64 × Int32 × As) => ∀ (H : Heap) (locs : List Loc) (ls : Array Slot), Wd G A s.heap H ((bAs G a o (b q) sg.2.2) ++ (bWh G b q nw)) locs → lv_has ls 7 [(0, .ref (a o)), (1, .int x1), (2, .long sg.1), (4, .int sg.2.1)] → WW p l e 5 s m [.ref (a o), .int x1] below meth c G A (some (.long out.1)) (((bAs G a o (b q) out.2) ++ (bWh G b q nw))) H locs 5 ls []) (fun (r : Int64 × As) => r = out)) r → ∀ (H : Heap) (locs : List Loc) (ls : Array Slot), Wd G A s.heap H ((bAs G a o (b q) w) ++ (bWh G b q nw)) locs → lv_has ls 7 [(0, .ref (a o)), (1, .int x1), (2, .long x2), (4, .int x4)] → WW p l e 5 s m [.ref (a o), .int x1] below meth c G A (some (.long out.1)) (((bAs G a o (b q) out.2) ++ (bWh G b q nw))) H locs 5 ls [] := by
      intro x2 x4 w r hf hF H locs ls hW hl
      unfold f_X0_limpsOverWays_B5 at hf
      refine lv_iload hx hb dX0_limpsOverWays_5 (lv_at hl 3 rfl) ?_
      refine lv_iconst (v := 1) hx hb dX0_limpsOverWays_7 (by decide) ?_
      refine lv_aload_n hx hb dX0_limpsOverWays_8 rfl (lv_at hl 0 rfl) ?_
      refine k_get C0 hW 0 1 0 (v := .ref (b q)) rfl (by decide) inX0 mf_X0_9 rfl rfl dX0_limpsOverWays_9 ?_
      refine k_get C0 hW 4 5 7 (v := .int (wh_spokes nw)) rfl (by decide) inX4 mf_X0_47 rfl rfl dX0_limpsOverWays_12 ?_
      refine lv_ishl hx hb dX0_limpsOverWays_15 ?_
      refine lv_icmp_ge (tgt := 65) hx hb dX0_limpsOverWays_16 (by decide) (fun c16_1 => ?_) (fun c16_1 => ?_)
      · replace hf := if_t c16_1 hf
        obtain ⟨r2, e2⟩ := om_s hf
        replace hf := e2.1
        replace e2 := e2.2
        subst e2
        replace hF := elim_r hF
        refine lv_lload_n hx hb dX0_limpsOverWays_65 rfl (lv_at hl 2 rfl) ?_
        have e1 := Option.some.inj hf
        subst e1
        have hF : ((x2, w) : Int64 × As) = out := hF
        subst hF
        exact k_lret C0 hW dX0_limpsOverWays_66
      · replace hf := if_f c16_1 hf
        refine lv_aload_n hx hb dX0_limpsOverWays_19 rfl (lv_at hl 0 rfl) ?_
        refine lv_iload hx hb dX0_limpsOverWays_20 (lv_at hl 3 rfl) ?_
        refine lv_iload_n hx hb dX0_limpsOverWays_22 rfl (lv_at hl 1 rfl) ?_
        obtain ⟨q23, hq23⟩ := ob_s hf
        replace hf := hq23.2
        replace hq23 := hq23.1
        refine cW1 (rest := []) (ws1 := ((bAs G a o (b q) w) ++ (bWh G b q nw))) (st1 := [.long q23]) C0 hW hl.1 (c_X0_waysToLose l G a o b q w nw x4 x1 _ hq23) cb_X0_waysToLose mm_X0_120 rfl 0 0 rfl rfl rfl (by decide) rfl rfl (Nat.le_of_ble_eq_true rfl) ⟨Nat.zero_le _, Nat.zero_le _⟩ dX0_limpsOverWays_23 rfl (fun H locs hW => ?_)
        refine lv_lstore (lv' := [(5, .long q23), (0, .ref (a o)), (1, .int x1), (2, .long x2), (4, .int x4)]) hx hb dX0_limpsOverWays_26 hl (by decide) rfl (fun ls hl => ?_)
        refine lv_lload hx hb dX0_limpsOverWays_28 (lv_at hl 0 rfl) ?_
        refine lv_lconst (v := 0) hx hb dX0_limpsOverWays_30 (by decide) ?_
        refine W.lcmp hx hb dX0_limpsOverWays_31 ?_
        refine lv_if_eq (tgt := 59) hx hb dX0_limpsOverWays_32 (by decide) (fun c32_2 => ?_) (fun c32_2 => ?_)
        · replace hf := if_t c32_2 hf
          exact J59 _ _ _ _ hf hF _ _ _ hW (lv_sub hl [1, 2, 3, 4] rfl)
        · replace hf := if_f c32_2 hf
          refine lv_lload_n hx hb dX0_limpsOverWays_35 rfl (lv_at hl 3 rfl) ?_
          refine lv_lload hx hb dX0_limpsOverWays_36 (lv_at hl 0 rfl) ?_
          refine lv_aload_n hx hb dX0_limpsOverWays_38 rfl (lv_at hl 1 rfl) ?_
          refine lv_aload_n hx hb dX0_limpsOverWays_39 rfl (lv_at hl 1 rfl) ?_
          refine k_get C0 hW 0 1 0 (v := .ref (b q)) rfl (by decide) inX0 mf_X0_9 rfl rfl dX0_limpsOverWays_40 ?_
          refine k_get C0 hW 4 9 7 (v := .int (wh_there nw)) rfl (by decide) inX4 mf_X0_76 rfl rfl dX0_limpsOverWays_43 ?_
          refine lv_iload hx hb dX0_limpsOverWays_46 (lv_at hl 4 rfl) ?_
          refine lv_iconst (v := -1) hx hb dX0_limpsOverWays_48 (by decide) ?_
          refine lv_ixor hx hb dX0_limpsOverWays_49 ?_
          refine lv_iand hx hb dX0_limpsOverWays_50 ?_
          refine lv_iconst (v := 0) hx hb dX0_limpsOverWays_51 (by decide) ?_
          obtain ⟨q52, hq52⟩ := ob_s hf
          replace hf := hq52.2
          replace hq52 := hq52.1
          refine cW1 (rest := [.long q23, .long x2]) (ws1 := ((bAs G a o (b q) q52.2) ++ (bWh G b q nw))) (st1 := [.int q52.1, .long q23, .long x2]) C0 hW hl.1 (c_X0_limpsWith l G a o b q w nw ((wh_there nw) &&& (x4 ^^^ (-1 : Int32))) (0 : Int32) _ hq52) cb_X0_limpsWith mm_X0_110 rfl 0 0 rfl rfl rfl (by decide) rfl rfl (Nat.le_of_ble_eq_true rfl) ⟨Nat.zero_le _, Nat.zero_le _⟩ dX0_limpsOverWays_52 rfl (fun H locs hW => ?_)
          refine lv_i2l (v := q52.1.toInt64) hx hb dX0_limpsOverWays_55 rfl ?_
          refine lv_lmul hx hb dX0_limpsOverWays_56 ?_
          refine lv_ladd hx hb dX0_limpsOverWays_57 ?_
          refine lv_topl (fun v58 ev58 => ?_)
          replace hf := nm_s ev58 hf
          refine lv_lstore_n (lv' := [(2, .long v58), (5, .long q23), (0, .ref (a o)), (1, .int x1), (4, .int x4)]) hx hb dX0_limpsOverWays_58 rfl hl (by decide) rfl (fun ls hl => ?_)
          exact J59 _ _ _ _ hf hF _ _ _ hW (lv_sub hl [2, 3, 0, 4] rfl)
    exact lp_sound (fun sg r hb hz => B5 sg.1 sg.2.1 sg.2.2 r hb hz)
  obtain ⟨r, hr⟩ : ∃ r, f_X0_limpsOverWays w nw x1 = some r ∧ r = out := ⟨out, hf, rfl⟩
  replace hf := hr.1
  have hF := hr.2
  clear hr
  unfold f_X0_limpsOverWays at hf
  refine lv_lconst (v := 0) hx hb dX0_limpsOverWays_0 (by decide) ?_
  refine lv_lstore_n (lv' := [(2, .long (0 : Int64)), (0, .ref (a o)), (1, .int x1)]) hx hb dX0_limpsOverWays_1 rfl hl (by decide) rfl (fun ls hl => ?_)
  refine lv_iconst (v := 0) hx hb dX0_limpsOverWays_2 (by decide) ?_
  refine lv_istore (lv' := [(4, .int (0 : Int32)), (2, .long (0 : Int64)), (0, .ref (a o)), (1, .int x1)]) hx hb dX0_limpsOverWays_3 hl (by decide) rfl (fun ls hl => ?_)
  exact L5  fuel ((0 : Int64), (0 : Int32), w) _ hf hF _ _ _ hW (lv_sub hl [2, 3, 1, 0] rfl)

def f_X4_rollFar_J26 (w : Wh) (x1 : Int32) (x2 : Int32) (x3 : Int32) : Option ((Int32 × Int32 × Wh) ⊕ (Int32 × Wh)) :=
  some (Sum.inl (x2, (x3 + (1 : Int32)), w))
def f_X4_rollFar_B4 (x1 : Int32) (x2 : Int32) (x3 : Int32) (w : Wh) : Option ((Int32 × Int32 × Wh) ⊕ (Int32 × Wh)) :=
  if x1 ≤ x3 then (Option.map Sum.inr (some (x2, w))) else (Option.bind (f_X4_isOver w) (fun q10 => if q10 = 0 then (Option.bind (f_X4_roll w) (fun q17 => if q17.1 = 0 then (f_X4_rollFar_J26 q17.2 x1 x2 x3) else (f_X4_rollFar_J26 q17.2 x1 (x2 + (1 : Int32)) x3))) else (Option.map Sum.inr (some (x2, w)))))
def f_X4_rollFar_L4 (x1 : Int32) (sg : Int32 × Int32 × Wh) : Option ((Int32 × Int32 × Wh) ⊕ (Int32 × Wh)) := f_X4_rollFar_B4 x1 sg.1 sg.2.1 sg.2.2
def f_X4_rollFar (w : Wh) (x1 : Int32) : Option (Int32 × Wh) :=
  lp (f_X4_rollFar_L4 x1) fuel ((0 : Int32), (0 : Int32), w)
set_option maxRecDepth 100000 in
set_option maxHeartbeats 8000000 in
theorem c_X4_rollFar (l : Launch) (G : GG) (a : Nat → Nat) (o : Nat) (w : Wh) (x1 : Int32) (out : Int32 × Wh) (hf : f_X4_rollFar w x1 = some out) : Cn l G 3 yX4_rollFar cX4_rollFar 4 (some .int) [.ref (a o), .int x1] (bWh G a o w) (some (.int out.1)) (bWh G a o out.2) := by
  refine cn_start (by decide) (Nat.le_of_ble_eq_true rfl) ?_
  intro p e s m below meth c A ls C0 hW hl
  have hx := C0.1
  have hb := C0.2.1
  have hl : lv_has ls 4 [(0, .ref (a o)), (1, .int x1)] := hl
  have L4 : ∀ (k8 : Nat) (sg : Int32 × Int32 × Wh) (o9 : Int32 × Wh), lp (f_X4_rollFar_L4 x1) k8 sg = some o9 → (fun (r : Int32 × Wh) => r = out) o9 → (fun (sg : Int32 × Int32 × Wh) => ∀ (H : Heap) (locs : List Loc) (ls : Array Slot), Wd G A s.heap H (bWh G a o sg.2.2) locs → lv_has ls 4 [(0, .ref (a o)), (1, .int x1), (2, .int sg.1), (3, .int sg.2.1)] → WW p l e 3 s m [.ref (a o), .int x1] below meth c G A (some (.int out.1)) ((bWh G a o out.2)) H locs 4 ls []) sg := by
    have J26 : ∀ (x2 : Int32) (x3 : Int32) (w : Wh) (r : (Int32 × Int32 × Wh) ⊕ (Int32 × Wh)), f_X4_rollFar_J26 w x1 x2 x3 = some r → (Sum.elim (fun (sg : Int32 × Int32 × Wh) => ∀ (H : Heap) (locs : List Loc) (ls : Array Slot), Wd G A s.heap H (bWh G a o sg.2.2) locs → lv_has ls 4 [(0, .ref (a o)), (1, .int x1), (2, .int sg.1), (3, .int sg.2.1)] → WW p l e 3 s m [.ref (a o), .int x1] below meth c G A (some (.int out.1)) ((bWh G a o out.2)) H locs 4 ls []) (fun (r : Int32 × Wh) => r = out)) r → ∀ (H : Heap) (locs : List Loc) (ls : Array Slot), Wd G A s.heap H (bWh G a o w) locs → lv_has ls 4 [(0, .ref (a o)), (1, .int x1), (2, .int x2), (3, .int x3)] → WW p l e 3 s m [.ref (a o), .int x1] below meth c G A (some (.int out.1)) ((bWh G a o out.2)) H locs 26 ls [] := by
      intro x2 x3 w r hf hF H locs ls hW hl
      unfold f_X4_rollFar_J26 at hf
      refine lv_iinc (v := (x3 + (1 : Int32))) (lv' := [(3, .int (x3 + (1 : Int32))), (0, .ref (a o)), (1, .int x1), (2, .int x2)]) hx hb dX4_rollFar_26 hl (k := 3) rfl rfl (by decide) rfl (fun ls hl => ?_)
      refine lv_goto (tgt := 4) hx hb dX4_rollFar_29 (by decide) ?_
      have e1 := Option.some.inj hf
      subst e1
      exact (elim_l hF) _ _ _ hW (lv_sub hl [1, 2, 3, 0] rfl)
    have B4 : ∀ (x2 : Int32) (x3 : Int32) (w : Wh) (r : (Int32 × Int32 × Wh) ⊕ (Int32 × Wh)), f_X4_rollFar_B4 x1 x2 x3 w = some r → (Sum.elim (fun (sg : Int32 × Int32 × Wh) => ∀ (H : Heap) (locs : List Loc) (ls : Array Slot), Wd G A s.heap H (bWh G a o sg.2.2) locs → lv_has ls 4 [(0, .ref (a o)), (1, .int x1), (2, .int sg.1), (3, .int sg.2.1)] → WW p l e 3 s m [.ref (a o), .int x1] below meth c G A (some (.int out.1)) ((bWh G a o out.2)) H locs 4 ls []) (fun (r : Int32 × Wh) => r = out)) r → ∀ (H : Heap) (locs : List Loc) (ls : Array Slot), Wd G A s.heap H (bWh G a o w) locs → lv_has ls 4 [(0, .ref (a o)), (1, .int x1), (2, .int x2), (3, .int x3)] → WW p l e 3 s m [.ref (a o), .int x1] below meth c G A (some (.int out.1)) ((bWh G a o out.2)) H locs 4 ls [] := by
      intro x2 x3 w r hf hF H locs ls hW hl
      unfold f_X4_rollFar_B4 at hf
      refine lv_iload_n hx hb dX4_rollFar_4 rfl (lv_at hl 3 rfl) ?_
      refine lv_iload_n hx hb dX4_rollFar_5 rfl (lv_at hl 1 rfl) ?_
      refine lv_icmp_ge (tgt := 32) hx hb dX4_rollFar_6 (by decide) (fun c6_1 => ?_) (fun c6_1 => ?_)
      · replace hf := if_t c6_1 hf
        obtain ⟨r2, e2⟩ := om_s hf
        replace hf := e2.1
        replace e2 := e2.2
        subst e2
        replace hF := elim_r hF
        refine lv_iload_n hx hb dX4_rollFar_32 rfl (lv_at hl 2 rfl) ?_
        have e1 := Option.some.inj hf
        subst e1
        have hF : ((x2, w) : Int32 × Wh) = out := hF
        subst hF
        exact k_iret C0 hW dX4_rollFar_33
      · replace hf := if_f c6_1 hf
        refine lv_aload_n hx hb dX4_rollFar_9 rfl (lv_at hl 0 rfl) ?_
        obtain ⟨q10, hq10⟩ := ob_s hf
        replace hf := hq10.2
        replace hq10 := hq10.1
        refine cW1 (rest := []) (ws1 := (bWh G a o w)) (st1 := [.int q10]) C0 hW hl.1 (c_X4_isOver l G a o w _ hq10) cb_X4_isOver mm_X4_108 rfl 0 4 rfl rfl rfl (by decide) rfl rfl (Nat.le_of_ble_eq_true rfl) ⟨Nat.zero_le _, Nat.zero_le _⟩ dX4_rollFar_10 rfl (fun H locs hW => ?_)
        refine lv_if_ne (tgt := 32) hx hb dX4_rollFar_13 (by decide) (fun c13_2 => ?_) (fun c13_2 => ?_)
        · replace hf := if_f c13_2 hf
          obtain ⟨r2, e2⟩ := om_s hf
          replace hf := e2.1
          replace e2 := e2.2
          subst e2
          replace hF := elim_r hF
          refine lv_iload_n hx hb dX4_rollFar_32 rfl (lv_at hl 2 rfl) ?_
          have e1 := Option.some.inj hf
          subst e1
          have hF : ((x2, w) : Int32 × Wh) = out := hF
          subst hF
          exact k_iret C0 hW dX4_rollFar_33
        · replace hf := if_t c13_2 hf
          refine lv_aload_n hx hb dX4_rollFar_16 rfl (lv_at hl 0 rfl) ?_
          obtain ⟨q17, hq17⟩ := ob_s hf
          replace hf := hq17.2
          replace hq17 := hq17.1
          refine cW1 (rest := []) (ws1 := (bWh G a o q17.2)) (st1 := [.int q17.1]) C0 hW hl.1 (c_X4_roll l G a o w _ hq17) cb_X4_roll mm_X4_82 rfl 0 4 rfl rfl rfl (by decide) rfl rfl (Nat.le_of_ble_eq_true rfl) ⟨Nat.zero_le _, Nat.zero_le _⟩ dX4_rollFar_17 rfl (fun H locs hW => ?_)
          refine lv_if_eq (tgt := 26) hx hb dX4_rollFar_20 (by decide) (fun c20_3 => ?_) (fun c20_3 => ?_)
          · replace hf := if_t c20_3 hf
            exact J26 _ _ _ _ hf hF _ _ _ hW (lv_sub hl [0, 1, 2, 3] rfl)
          · replace hf := if_f c20_3 hf
            refine lv_iinc (v := (x2 + (1 : Int32))) (lv' := [(2, .int (x2 + (1 : Int32))), (0, .ref (a o)), (1, .int x1), (3, .int x3)]) hx hb dX4_rollFar_23 hl (k := 2) rfl rfl (by decide) rfl (fun ls hl => ?_)
            exact J26 _ _ _ _ hf hF _ _ _ hW (lv_sub hl [1, 2, 0, 3] rfl)
    exact lp_sound (fun sg r hb hz => B4 sg.1 sg.2.1 sg.2.2 r hb hz)
  obtain ⟨r, hr⟩ : ∃ r, f_X4_rollFar w x1 = some r ∧ r = out := ⟨out, hf, rfl⟩
  replace hf := hr.1
  have hF := hr.2
  clear hr
  unfold f_X4_rollFar at hf
  refine lv_iconst (v := 0) hx hb dX4_rollFar_0 (by decide) ?_
  refine lv_istore_n (lv' := [(2, .int (0 : Int32)), (0, .ref (a o)), (1, .int x1)]) hx hb dX4_rollFar_1 rfl hl (by decide) rfl (fun ls hl => ?_)
  refine lv_iconst (v := 0) hx hb dX4_rollFar_2 (by decide) ?_
  refine lv_istore_n (lv' := [(3, .int (0 : Int32)), (2, .int (0 : Int32)), (0, .ref (a o)), (1, .int x1)]) hx hb dX4_rollFar_3 rfl hl (by decide) rfl (fun ls hl => ?_)
  exact L4  fuel ((0 : Int32), (0 : Int32), w) _ hf hF _ _ _ hW (lv_sub hl [2, 3, 1, 0] rfl)

def f_X0_rutBehind (w : As) (nw : Wh) (x1 : Int32) : Option (Int32 × As) :=
  Option.bind (f_X4_take (as_trial w) nw) (fun q8 => Option.bind (f_X4_rollFar q8 x1) (fun q17 => some ((wh_rut q17.2), (as_set_trial (as_set_found w q17.1) q17.2))))
set_option maxRecDepth 100000 in
set_option maxHeartbeats 8000000 in
theorem c_X0_rutBehind (l : Launch) (G : GG) (a : Nat → Nat) (o : Nat) (b : Nat → Nat) (q : Nat) (w : As) (nw : Wh) (x1 : Int32) (out : Int32 × As) (hf : f_X0_rutBehind w nw x1 = some out) : Cn l G 4 yX0_rutBehind cX0_rutBehind 2 (some .int) [.ref (a o), .int x1] ((bAs G a o (b q) w) ++ (bWh G b q nw)) (some (.int out.1)) ((bAs G a o (b q) out.2) ++ (bWh G b q nw)) := by
  refine cn_start (by decide) (Nat.le_of_ble_eq_true rfl) ?_
  intro p e s m below meth c A ls C0 hW hl
  have hx := C0.1
  have hb := C0.2.1
  have hl : lv_has ls 2 [(0, .ref (a o)), (1, .int x1)] := hl
  obtain ⟨r, hr⟩ : ∃ r, f_X0_rutBehind w nw x1 = some r ∧ r = out := ⟨out, hf, rfl⟩
  replace hf := hr.1
  have hF := hr.2
  clear hr
  unfold f_X0_rutBehind at hf
  refine lv_aload_n hx hb dX0_rutBehind_0 rfl (lv_at hl 0 rfl) ?_
  refine k_get C0 hW 0 2 0 (v := .ref (a (o + 1))) rfl (by decide) inX0 mf_X0_18 rfl rfl dX0_rutBehind_1 ?_
  refine lv_aload_n hx hb dX0_rutBehind_4 rfl (lv_at hl 0 rfl) ?_
  refine k_get C0 hW 0 1 0 (v := .ref (b q)) rfl (by decide) inX0 mf_X0_9 rfl rfl dX0_rutBehind_5 ?_
  obtain ⟨q8, hq8⟩ := ob_s hf
  replace hf := hq8.2
  replace hq8 := hq8.1
  refine cV1 (rest := []) (ws1 := ((bAs G a o (b q) (as_set_trial w q8)) ++ (bWh G b q nw))) (st1 := []) C0 hW hl.1 (c_X4_take l G a (o + 1) b q (as_trial w) nw _ hq8) cb_X4_take mm_X0_21 [1, 2, 3, 4, 5, 6, 7, 8, 9, 10, 11, 12] rfl rfl rfl 0 4 rfl rfl rfl (by decide) rfl rfl (Nat.le_of_ble_eq_true rfl) ⟨Nat.zero_le _, Nat.zero_le _⟩ dX0_rutBehind_8 rfl rfl (fun H locs hW => ?_)
  refine lv_aload_n hx hb dX0_rutBehind_11 rfl (lv_at hl 0 rfl) ?_
  refine lv_aload_n hx hb dX0_rutBehind_12 rfl (lv_at hl 0 rfl) ?_
  refine k_get C0 hW 0 2 0 (v := .ref (a (o + 1))) rfl (by decide) inX0 mf_X0_18 rfl rfl dX0_rutBehind_13 ?_
  refine lv_iload_n hx hb dX0_rutBehind_16 rfl (lv_at hl 1 rfl) ?_
  obtain ⟨q17, hq17⟩ := ob_s hf
  replace hf := hq17.2
  replace hq17 := hq17.1
  refine cV1 (rest := [.ref (a o)]) (ws1 := ((bAs G a o (b q) (as_set_trial w q17.2)) ++ (bWh G b q nw))) (st1 := [.int q17.1, .ref (a o)]) C0 hW hl.1 (c_X4_rollFar l G a (o + 1) q8 x1 _ hq17) cb_X4_rollFar mm_X0_25 [1, 2, 3, 4, 5, 6] rfl rfl rfl 0 4 rfl rfl rfl (by decide) rfl rfl (Nat.le_of_ble_eq_true rfl) ⟨Nat.zero_le _, Nat.zero_le _⟩ dX0_rutBehind_17 rfl rfl (fun H locs hW => ?_)
  refine k_put C0 hW 0 0 0 rfl (by decide) inX0 tyX0_ok nmX0 mf_X0_29 rfl rfl rfl rfl (Nat.le_of_ble_eq_true rfl) dX0_rutBehind_20 (fun H locs hW => ?_)
  have hW : Wd G A s.heap H ((bAs G a o (b q) (as_set_trial (as_set_found w q17.1) q17.2)) ++ (bWh G b q nw)) locs := hW
  refine lv_aload_n hx hb dX0_rutBehind_23 rfl (lv_at hl 0 rfl) ?_
  refine k_get C0 hW 0 2 0 (v := .ref (a (o + 1))) rfl (by decide) inX0 mf_X0_18 rfl rfl dX0_rutBehind_24 ?_
  refine k_get C0 hW 4 8 1 (v := .int (wh_rut q17.2)) rfl (by decide) inX4 mf_X0_33 rfl rfl dX0_rutBehind_27 ?_
  have e1 := Option.some.inj hf
  subst e1
  have hF : (((wh_rut q17.2), (as_set_trial (as_set_found w q17.1) q17.2)) : Int32 × As) = out := hF
  subst hF
  exact k_iret C0 hW dX0_rutBehind_30

def f_X0_rutOver (w : As) (nw : Wh) : Option (Int32 × As) :=
  Option.bind (f_X4_take (as_trial w) nw) (fun q8 => Option.bind (f_X4_rollFar q8 (60 : Int32)) (fun q17 => Option.bind (f_X4_isOver q17.2) (fun q25 => if q25 = 0 then (some ((-9 : Int32), (as_set_trial w q17.2))) else (Option.bind (f_X4_goneOnes q17.2) (fun q39 => some ((wh_rut q17.2), (as_set_trial (as_set_found w q39) q17.2)))))))
set_option maxRecDepth 100000 in
set_option maxHeartbeats 8000000 in
theorem c_X0_rutOver (l : Launch) (G : GG) (a : Nat → Nat) (o : Nat) (b : Nat → Nat) (q : Nat) (w : As) (nw : Wh) (out : Int32 × As) (hf : f_X0_rutOver w nw = some out) : Cn l G 4 yX0_rutOver cX0_rutOver 1 (some .int) [.ref (a o)] ((bAs G a o (b q) w) ++ (bWh G b q nw)) (some (.int out.1)) ((bAs G a o (b q) out.2) ++ (bWh G b q nw)) := by
  refine cn_start (by decide) (Nat.le_of_ble_eq_true rfl) ?_
  intro p e s m below meth c A ls C0 hW hl
  have hx := C0.1
  have hb := C0.2.1
  have hl : lv_has ls 1 [(0, .ref (a o))] := hl
  obtain ⟨r, hr⟩ : ∃ r, f_X0_rutOver w nw = some r ∧ r = out := ⟨out, hf, rfl⟩
  replace hf := hr.1
  have hF := hr.2
  clear hr
  unfold f_X0_rutOver at hf
  refine lv_aload_n hx hb dX0_rutOver_0 rfl (lv_at hl 0 rfl) ?_
  refine k_get C0 hW 0 2 0 (v := .ref (a (o + 1))) rfl (by decide) inX0 mf_X0_18 rfl rfl dX0_rutOver_1 ?_
  refine lv_aload_n hx hb dX0_rutOver_4 rfl (lv_at hl 0 rfl) ?_
  refine k_get C0 hW 0 1 0 (v := .ref (b q)) rfl (by decide) inX0 mf_X0_9 rfl rfl dX0_rutOver_5 ?_
  obtain ⟨q8, hq8⟩ := ob_s hf
  replace hf := hq8.2
  replace hq8 := hq8.1
  refine cV1 (rest := []) (ws1 := ((bAs G a o (b q) (as_set_trial w q8)) ++ (bWh G b q nw))) (st1 := []) C0 hW hl.1 (c_X4_take l G a (o + 1) b q (as_trial w) nw _ hq8) cb_X4_take mm_X0_21 [1, 2, 3, 4, 5, 6, 7, 8, 9, 10, 11, 12] rfl rfl rfl 0 4 rfl rfl rfl (by decide) rfl rfl (Nat.le_of_ble_eq_true rfl) ⟨Nat.zero_le _, Nat.zero_le _⟩ dX0_rutOver_8 rfl rfl (fun H locs hW => ?_)
  refine lv_aload_n hx hb dX0_rutOver_11 rfl (lv_at hl 0 rfl) ?_
  refine k_get C0 hW 0 2 0 (v := .ref (a (o + 1))) rfl (by decide) inX0 mf_X0_18 rfl rfl dX0_rutOver_12 ?_
  refine lv_bipush (v := 60) hx hb dX0_rutOver_15 (by decide) ?_
  obtain ⟨q17, hq17⟩ := ob_s hf
  replace hf := hq17.2
  replace hq17 := hq17.1
  refine cV1 (rest := []) (ws1 := ((bAs G a o (b q) (as_set_trial w q17.2)) ++ (bWh G b q nw))) (st1 := [.int q17.1]) C0 hW hl.1 (c_X4_rollFar l G a (o + 1) q8 (60 : Int32) _ hq17) cb_X4_rollFar mm_X0_25 [1, 2, 3, 4, 5, 6] rfl rfl rfl 0 4 rfl rfl rfl (by decide) rfl rfl (Nat.le_of_ble_eq_true rfl) ⟨Nat.zero_le _, Nat.zero_le _⟩ dX0_rutOver_17 rfl rfl (fun H locs hW => ?_)
  refine lv_pop hx hb dX0_rutOver_20 rfl ?_
  refine lv_aload_n hx hb dX0_rutOver_21 rfl (lv_at hl 0 rfl) ?_
  refine k_get C0 hW 0 2 0 (v := .ref (a (o + 1))) rfl (by decide) inX0 mf_X0_18 rfl rfl dX0_rutOver_22 ?_
  obtain ⟨q25, hq25⟩ := ob_s hf
  replace hf := hq25.2
  replace hq25 := hq25.1
  refine cV0 (rest := []) (st1 := [.int q25]) C0 hW hl.1 (c_X4_isOver l G a (o + 1) q17.2 _ hq25) cb_X4_isOver mm_X0_36 [1, 2, 3, 4, 5, 6] rfl rfl 0 4 rfl rfl rfl (by decide) rfl rfl (Nat.le_of_ble_eq_true rfl) ⟨Nat.zero_le _, Nat.zero_le _⟩ dX0_rutOver_25 rfl (fun H locs hW => ?_)
  refine lv_if_ne (tgt := 34) hx hb dX0_rutOver_28 (by decide) (fun c28_1 => ?_) (fun c28_1 => ?_)
  · replace hf := if_f c28_1 hf
    refine lv_aload_n hx hb dX0_rutOver_34 rfl (lv_at hl 0 rfl) ?_
    refine lv_aload_n hx hb dX0_rutOver_35 rfl (lv_at hl 0 rfl) ?_
    refine k_get C0 hW 0 2 0 (v := .ref (a (o + 1))) rfl (by decide) inX0 mf_X0_18 rfl rfl dX0_rutOver_36 ?_
    obtain ⟨q39, hq39⟩ := ob_s hf
    replace hf := hq39.2
    replace hq39 := hq39.1
    refine cV0 (rest := [.ref (a o)]) (st1 := [.int q39, .ref (a o)]) C0 hW hl.1 (c_X4_goneOnes l G a (o + 1) q17.2 _ hq39) cb_X4_goneOnes mm_X0_40 [1, 2, 3, 4, 5, 6] rfl rfl 0 4 rfl rfl rfl (by decide) rfl rfl (Nat.le_of_ble_eq_true rfl) ⟨Nat.zero_le _, Nat.zero_le _⟩ dX0_rutOver_39 rfl (fun H locs hW => ?_)
    refine k_put C0 hW 0 0 0 rfl (by decide) inX0 tyX0_ok nmX0 mf_X0_29 rfl rfl rfl rfl (Nat.le_of_ble_eq_true rfl) dX0_rutOver_42 (fun H locs hW => ?_)
    have hW : Wd G A s.heap H ((bAs G a o (b q) (as_set_trial (as_set_found w q39) q17.2)) ++ (bWh G b q nw)) locs := hW
    refine lv_aload_n hx hb dX0_rutOver_45 rfl (lv_at hl 0 rfl) ?_
    refine k_get C0 hW 0 2 0 (v := .ref (a (o + 1))) rfl (by decide) inX0 mf_X0_18 rfl rfl dX0_rutOver_46 ?_
    refine k_get C0 hW 4 8 1 (v := .int (wh_rut q17.2)) rfl (by decide) inX4 mf_X0_33 rfl rfl dX0_rutOver_49 ?_
    have e1 := Option.some.inj hf
    subst e1
    have hF : (((wh_rut q17.2), (as_set_trial (as_set_found w q39) q17.2)) : Int32 × As) = out := hF
    subst hF
    exact k_iret C0 hW dX0_rutOver_52
  · replace hf := if_t c28_1 hf
    refine lv_bipush (v := -9) hx hb dX0_rutOver_31 (by decide) ?_
    have e1 := Option.some.inj hf
    subst e1
    have hF : (((-9 : Int32), (as_set_trial w q17.2)) : Int32 × As) = out := hF
    subst hF
    exact k_iret C0 hW dX0_rutOver_33

def f_X0_waysUpTo_J61 (w : As) (nw : Wh) (x1 : Int32) (x2 : Int32) (x3 : Int64) (x5 : Int32) : Option ((Int64 × Int32 × As) ⊕ (Int64 × As)) :=
  some (Sum.inl (x3, (x5 + (1 : Int32)), w))
def f_X0_waysUpTo_B5 (nw : Wh) (x1 : Int32) (x2 : Int32) (x3 : Int64) (x5 : Int32) (w : As) : Option ((Int64 × Int32 × As) ⊕ (Int64 × As)) :=
  if (jshl (1 : Int32) (wh_spokes nw)) ≤ x5 then (Option.map Sum.inr (some (x3, w))) else (Option.bind (f_X0_waysToLose w nw x5 x2) (fun q23 => if (lg_cmp q23 (0 : Int64)) = 0 then (f_X0_waysUpTo_J61 w nw x1 x2 x3 x5) else (Option.bind (f_X0_limpsWith w nw ((wh_there nw) &&& (x5 ^^^ (-1 : Int32))) (0 : Int32)) (fun q49 => if x1 < q49.1 then (f_X0_waysUpTo_J61 q49.2 nw x1 x2 x3 x5) else (f_X0_waysUpTo_J61 q49.2 nw x1 x2 (x3 + q23) x5)))))
def f_X0_waysUpTo_L5 (nw : Wh) (x1 : Int32) (x2 : Int32) (sg : Int64 × Int32 × As) : Option ((Int64 × Int32 × As) ⊕ (Int64 × As)) := f_X0_waysUpTo_B5 nw x1 x2 sg.1 sg.2.1 sg.2.2
def f_X0_waysUpTo (w : As) (nw : Wh) (x1 : Int32) (x2 : Int32) : Option (Int64 × As) :=
  lp (f_X0_waysUpTo_L5 nw x1 x2) fuel ((0 : Int64), (0 : Int32), w)
set_option maxRecDepth 100000 in
set_option maxHeartbeats 8000000 in
theorem c_X0_waysUpTo (l : Launch) (G : GG) (a : Nat → Nat) (o : Nat) (b : Nat → Nat) (q : Nat) (w : As) (nw : Wh) (x1 : Int32) (x2 : Int32) (out : Int64 × As) (hf : f_X0_waysUpTo w nw x1 x2 = some out) : Cn l G 5 yX0_waysUpTo cX0_waysUpTo 8 (some .long) [.ref (a o), .int x1, .int x2] ((bAs G a o (b q) w) ++ (bWh G b q nw)) (some (.long out.1)) ((bAs G a o (b q) out.2) ++ (bWh G b q nw)) := by
  refine cn_start (by decide) (Nat.le_of_ble_eq_true rfl) ?_
  intro p e s m below meth c A ls C0 hW hl
  have hx := C0.1
  have hb := C0.2.1
  have hl : lv_has ls 8 [(0, .ref (a o)), (1, .int x1), (2, .int x2)] := hl
  have L5 : ∀ (k8 : Nat) (sg : Int64 × Int32 × As) (o9 : Int64 × As), lp (f_X0_waysUpTo_L5 nw x1 x2) k8 sg = some o9 → (fun (r : Int64 × As) => r = out) o9 → (fun (sg : Int64 × Int32 × As) => ∀ (H : Heap) (locs : List Loc) (ls : Array Slot), Wd G A s.heap H ((bAs G a o (b q) sg.2.2) ++ (bWh G b q nw)) locs → lv_has ls 8 [(0, .ref (a o)), (1, .int x1), (2, .int x2), (3, .long sg.1), (5, .int sg.2.1)] → WW p l e 5 s m [.ref (a o), .int x1, .int x2] below meth c G A (some (.long out.1)) (((bAs G a o (b q) out.2) ++ (bWh G b q nw))) H locs 5 ls []) sg := by
    have J61 : ∀ (x3 : Int64) (x5 : Int32) (w : As) (r : (Int64 × Int32 × As) ⊕ (Int64 × As)), f_X0_waysUpTo_J61 w nw x1 x2 x3 x5 = some r → (Sum.elim (fun (sg : Int64 × Int32 × As) => ∀ (H : Heap) (locs : List Loc) (ls : Array Slot), Wd G A s.heap H ((bAs G a o (b q) sg.2.2) ++ (bWh G b q nw)) locs → lv_has ls 8 [(0, .ref (a o)), (1, .int x1), (2, .int x2), (3, .long sg.1), (5, .int sg.2.1)] → WW p l e 5 s m [.ref (a o), .int x1, .int x2] below meth c G A (some (.long out.1)) (((bAs G a o (b q) out.2) ++ (bWh G b q nw))) H locs 5 ls []) (fun (r : Int64 × As) => r = out)) r → ∀ (H : Heap) (locs : List Loc) (ls : Array Slot), Wd G A s.heap H ((bAs G a o (b q) w) ++ (bWh G b q nw)) locs → lv_has ls 8 [(0, .ref (a o)), (1, .int x1), (2, .int x2), (3, .long x3), (5, .int x5)] → WW p l e 5 s m [.ref (a o), .int x1, .int x2] below meth c G A (some (.long out.1)) (((bAs G a o (b q) out.2) ++ (bWh G b q nw))) H locs 61 ls [] := by
      intro x3 x5 w r hf hF H locs ls hW hl
      unfold f_X0_waysUpTo_J61 at hf
      refine lv_iinc (v := (x5 + (1 : Int32))) (lv' := [(5, .int (x5 + (1 : Int32))), (0, .ref (a o)), (1, .int x1), (2, .int x2), (3, .long x3)]) hx hb dX0_waysUpTo_61 hl (k := 4) rfl rfl (by decide) rfl (fun ls hl => ?_)
      refine lv_goto (tgt := 5) hx hb dX0_waysUpTo_64 (by decide) ?_
      have e1 := Option.some.inj hf
      subst e1
      exact (elim_l hF) _ _ _ hW (lv_sub hl [1, 2, 3, 4, 0] rfl)
    have B5 : ∀ (x3 : Int64) (x5 : Int32) (w : As) (r : (Int64 × Int32 × As) ⊕ (Int64 × As)), f_X0_waysUpTo_B5 nw x1 x2 x3 x5 w = some r → (Sum.elim (fun (sg : Int64 × Int32 × As) => ∀ (H : Heap) (locs : List Loc) (ls : Array Slot), Wd G A s.heap H ((bAs G a o (b q) sg.2.2) ++ (bWh G b q nw)) locs → lv_has ls 8 [(0, .ref (a o)), (1, .int x1), (2, .int x2), (3, .long sg.1), (5, .int sg.2.1)] → WW p l e 5 s m [.ref (a o), .int x1, .int x2] below meth c G A (some (.long out.1)) (((bAs G a o (b q) out.2) ++ (bWh G b q nw))) H locs 5 ls []) (fun (r : Int64 × As) => r = out)) r → ∀ (H : Heap) (locs : List Loc) (ls : Array Slot), Wd G A s.heap H ((bAs G a o (b q) w) ++ (bWh G b q nw)) locs → lv_has ls 8 [(0, .ref (a o)), (1, .int x1), (2, .int x2), (3, .long x3), (5, .int x5)] → WW p l e 5 s m [.ref (a o), .int x1, .int x2] below meth c G A (some (.long out.1)) (((bAs G a o (b q) out.2) ++ (bWh G b q nw))) H locs 5 ls [] := by
      intro x3 x5 w r hf hF H locs ls hW hl
      unfold f_X0_waysUpTo_B5 at hf
      refine lv_iload hx hb dX0_waysUpTo_5 (lv_at hl 4 rfl) ?_
      refine lv_iconst (v := 1) hx hb dX0_waysUpTo_7 (by decide) ?_
      refine lv_aload_n hx hb dX0_waysUpTo_8 rfl (lv_at hl 0 rfl) ?_
      refine k_get C0 hW 0 1 0 (v := .ref (b q)) rfl (by decide) inX0 mf_X0_9 rfl rfl dX0_waysUpTo_9 ?_
      refine k_get C0 hW 4 5 7 (v := .int (wh_spokes nw)) rfl (by decide) inX4 mf_X0_47 rfl rfl dX0_waysUpTo_12 ?_
      refine lv_ishl hx hb dX0_waysUpTo_15 ?_
      refine lv_icmp_ge (tgt := 67) hx hb dX0_waysUpTo_16 (by decide) (fun c16_1 => ?_) (fun c16_1 => ?_)
      · replace hf := if_t c16_1 hf
        obtain ⟨r2, e2⟩ := om_s hf
        replace hf := e2.1
        replace e2 := e2.2
        subst e2
        replace hF := elim_r hF
        refine lv_lload_n hx hb dX0_waysUpTo_67 rfl (lv_at hl 3 rfl) ?_
        have e1 := Option.some.inj hf
        subst e1
        have hF : ((x3, w) : Int64 × As) = out := hF
        subst hF
        exact k_lret C0 hW dX0_waysUpTo_68
      · replace hf := if_f c16_1 hf
        refine lv_aload_n hx hb dX0_waysUpTo_19 rfl (lv_at hl 0 rfl) ?_
        refine lv_iload hx hb dX0_waysUpTo_20 (lv_at hl 4 rfl) ?_
        refine lv_iload_n hx hb dX0_waysUpTo_22 rfl (lv_at hl 2 rfl) ?_
        obtain ⟨q23, hq23⟩ := ob_s hf
        replace hf := hq23.2
        replace hq23 := hq23.1
        refine cW1 (rest := []) (ws1 := ((bAs G a o (b q) w) ++ (bWh G b q nw))) (st1 := [.long q23]) C0 hW hl.1 (c_X0_waysToLose l G a o b q w nw x5 x2 _ hq23) cb_X0_waysToLose mm_X0_120 rfl 0 0 rfl rfl rfl (by decide) rfl rfl (Nat.le_of_ble_eq_true rfl) ⟨Nat.zero_le _, Nat.zero_le _⟩ dX0_waysUpTo_23 rfl (fun H locs hW => ?_)
        refine lv_lstore (lv' := [(6, .long q23), (0, .ref (a o)), (1, .int x1), (2, .int x2), (3, .long x3), (5, .int x5)]) hx hb dX0_waysUpTo_26 hl (by decide) rfl (fun ls hl => ?_)
        refine lv_lload hx hb dX0_waysUpTo_28 (lv_at hl 0 rfl) ?_
        refine lv_lconst (v := 0) hx hb dX0_waysUpTo_30 (by decide) ?_
        refine W.lcmp hx hb dX0_waysUpTo_31 ?_
        refine lv_if_eq (tgt := 61) hx hb dX0_waysUpTo_32 (by decide) (fun c32_2 => ?_) (fun c32_2 => ?_)
        · replace hf := if_t c32_2 hf
          exact J61 _ _ _ _ hf hF _ _ _ hW (lv_sub hl [1, 2, 3, 4, 5] rfl)
        · replace hf := if_f c32_2 hf
          refine lv_aload_n hx hb dX0_waysUpTo_35 rfl (lv_at hl 1 rfl) ?_
          refine lv_aload_n hx hb dX0_waysUpTo_36 rfl (lv_at hl 1 rfl) ?_
          refine k_get C0 hW 0 1 0 (v := .ref (b q)) rfl (by decide) inX0 mf_X0_9 rfl rfl dX0_waysUpTo_37 ?_
          refine k_get C0 hW 4 9 7 (v := .int (wh_there nw)) rfl (by decide) inX4 mf_X0_76 rfl rfl dX0_waysUpTo_40 ?_
          refine lv_iload hx hb dX0_waysUpTo_43 (lv_at hl 5 rfl) ?_
          refine lv_iconst (v := -1) hx hb dX0_waysUpTo_45 (by decide) ?_
          refine lv_ixor hx hb dX0_waysUpTo_46 ?_
          refine lv_iand hx hb dX0_waysUpTo_47 ?_
          refine lv_iconst (v := 0) hx hb dX0_waysUpTo_48 (by decide) ?_
          obtain ⟨q49, hq49⟩ := ob_s hf
          replace hf := hq49.2
          replace hq49 := hq49.1
          refine cW1 (rest := []) (ws1 := ((bAs G a o (b q) q49.2) ++ (bWh G b q nw))) (st1 := [.int q49.1]) C0 hW hl.1 (c_X0_limpsWith l G a o b q w nw ((wh_there nw) &&& (x5 ^^^ (-1 : Int32))) (0 : Int32) _ hq49) cb_X0_limpsWith mm_X0_110 rfl 0 0 rfl rfl rfl (by decide) rfl rfl (Nat.le_of_ble_eq_true rfl) ⟨Nat.zero_le _, Nat.zero_le _⟩ dX0_waysUpTo_49 rfl (fun H locs hW => ?_)
          refine lv_iload_n hx hb dX0_waysUpTo_52 rfl (lv_at hl 2 rfl) ?_
          refine lv_icmp_gt (tgt := 61) hx hb dX0_waysUpTo_53 (by decide) (fun c53_3 => ?_) (fun c53_3 => ?_)
          · replace hf := if_t c53_3 hf
            exact J61 _ _ _ _ hf hF _ _ _ hW (lv_sub hl [1, 2, 3, 4, 5] rfl)
          · replace hf := if_f c53_3 hf
            refine lv_lload_n hx hb dX0_waysUpTo_56 rfl (lv_at hl 4 rfl) ?_
            refine lv_lload hx hb dX0_waysUpTo_57 (lv_at hl 0 rfl) ?_
            refine lv_ladd hx hb dX0_waysUpTo_59 ?_
            refine lv_lstore_n (lv' := [(3, .long (x3 + q23)), (6, .long q23), (0, .ref (a o)), (1, .int x1), (2, .int x2), (5, .int x5)]) hx hb dX0_waysUpTo_60 rfl hl (by decide) rfl (fun ls hl => ?_)
            exact J61 _ _ _ _ hf hF _ _ _ hW (lv_sub hl [2, 3, 4, 0, 5] rfl)
    exact lp_sound (fun sg r hb hz => B5 sg.1 sg.2.1 sg.2.2 r hb hz)
  obtain ⟨r, hr⟩ : ∃ r, f_X0_waysUpTo w nw x1 x2 = some r ∧ r = out := ⟨out, hf, rfl⟩
  replace hf := hr.1
  have hF := hr.2
  clear hr
  unfold f_X0_waysUpTo at hf
  refine lv_lconst (v := 0) hx hb dX0_waysUpTo_0 (by decide) ?_
  refine lv_lstore_n (lv' := [(3, .long (0 : Int64)), (0, .ref (a o)), (1, .int x1), (2, .int x2)]) hx hb dX0_waysUpTo_1 rfl hl (by decide) rfl (fun ls hl => ?_)
  refine lv_iconst (v := 0) hx hb dX0_waysUpTo_2 (by decide) ?_
  refine lv_istore (lv' := [(5, .int (0 : Int32)), (3, .long (0 : Int64)), (0, .ref (a o)), (1, .int x1), (2, .int x2)]) hx hb dX0_waysUpTo_3 hl (by decide) rfl (fun ls hl => ?_)
  exact L5  fuel ((0 : Int64), (0 : Int32), w) _ hf hF _ _ _ hW (lv_sub hl [2, 3, 4, 1, 0] rfl)

def f_X0_writeLimps_J50 (k : Nat) (w : As) (nw : Wh) (f : Ar) (x2 : Int32) (x3 : Int32) (x4 : Int32) (t1 : Int32) (t2 : Int32) : Option ((Int32 × Int32 × As × Ar) ⊕ (Int32 × As × Ar)) :=
  gd (inb t1 k) (gd (inb x4 k) (nm (x3 + ((upd f (ix t1) t2) (ix x4))) (fun v57 => some (Sum.inl (v57, (x4 + (1 : Int32)), w, (upd f (ix t1) t2))))))
def f_X0_writeLimps_J49 (k : Nat) (w : As) (nw : Wh) (f : Ar) (x2 : Int32) (x3 : Int32) (x4 : Int32) (t1 : Int32) : Option ((Int32 × Int32 × As × Ar) ⊕ (Int32 × As × Ar)) :=
  f_X0_writeLimps_J50 k w nw f x2 x3 x4 t1 (0 : Int32)
def f_X0_writeLimps_B16 (k : Nat) (nw : Wh) (x2 : Int32) (x3 : Int32) (x4 : Int32) (w : As) (f : Ar) : Option ((Int32 × Int32 × As × Ar) ⊕ (Int32 × As × Ar)) :=
  if x2 ≤ x4 then (Option.map Sum.inr (some (x3, w, f))) else (Option.bind (f_X4_isOver (as_trial w)) (fun q29 => if q29 = 0 then (Option.bind (f_X4_roll (as_trial w)) (fun q39 => if q39.1 = 0 then (f_X0_writeLimps_J49 k (as_set_trial w q39.2) nw f x2 x3 x4 x4) else (f_X0_writeLimps_J50 k (as_set_trial w q39.2) nw f x2 x3 x4 x4 (1 : Int32)))) else (f_X0_writeLimps_J49 k w nw f x2 x3 x4 x4)))
def f_X0_writeLimps_L16 (k : Nat) (nw : Wh) (x2 : Int32) (sg : Int32 × Int32 × As × Ar) : Option ((Int32 × Int32 × As × Ar) ⊕ (Int32 × As × Ar)) := f_X0_writeLimps_B16 k nw x2 sg.1 sg.2.1 sg.2.2.1 sg.2.2.2
def f_X0_writeLimps (k : Nat) (w : As) (nw : Wh) (f : Ar) (x2 : Int32) : Option (Int32 × As × Ar) :=
  Option.bind (f_X4_take (as_trial w) nw) (fun q8 => lp (f_X0_writeLimps_L16 k nw x2) fuel ((0 : Int32), (0 : Int32), (as_set_trial w q8), f))
set_option maxRecDepth 100000 in
set_option maxHeartbeats 8000000 in
theorem c_X0_writeLimps (l : Launch) (G : GG) (a : Nat → Nat) (o : Nat) (b : Nat → Nat) (q : Nat) (aa : Nat) (k : Nat) (w : As) (nw : Wh) (f : Ar) (x2 : Int32) (out : Int32 × As × Ar) (hf : f_X0_writeLimps k w nw f x2 = some out) : Cn l G 3 yX0_writeLimps cX0_writeLimps 5 (some .int) [.ref (a o), .ref (aa), .int x2] ((bAs G a o (b q) w) ++ (bWh G b q nw) ++ ([(aa, eI G k f)])) (some (.int out.1)) ((bAs G a o (b q) out.2.1) ++ (bWh G b q nw) ++ ([(aa, eI G k out.2.2)])) := by
  refine cn_start (by decide) (Nat.le_of_ble_eq_true rfl) ?_
  intro p e s m below meth c A ls C0 hW hl
  have hx := C0.1
  have hb := C0.2.1
  have hl : lv_has ls 5 [(0, .ref (a o)), (1, .ref (aa)), (2, .int x2)] := hl
  have L16 : ∀ (k8 : Nat) (sg : Int32 × Int32 × As × Ar) (o9 : Int32 × As × Ar), lp (f_X0_writeLimps_L16 k nw x2) k8 sg = some o9 → (fun (r : Int32 × As × Ar) => r = out) o9 → (fun (sg : Int32 × Int32 × As × Ar) => ∀ (H : Heap) (locs : List Loc) (ls : Array Slot), Wd G A s.heap H ((bAs G a o (b q) sg.2.2.1) ++ (bWh G b q nw) ++ ([(aa, eI G k sg.2.2.2)])) locs → lv_has ls 5 [(0, .ref (a o)), (1, .ref (aa)), (2, .int x2), (3, .int sg.1), (4, .int sg.2.1)] → WW p l e 3 s m [.ref (a o), .ref (aa), .int x2] below meth c G A (some (.int out.1)) (((bAs G a o (b q) out.2.1) ++ (bWh G b q nw) ++ ([(aa, eI G k out.2.2)]))) H locs 16 ls []) sg := by
    have J50 : ∀ (x3 : Int32) (x4 : Int32) (t1 : Int32) (t2 : Int32) (w : As) (f : Ar) (r : (Int32 × Int32 × As × Ar) ⊕ (Int32 × As × Ar)), f_X0_writeLimps_J50 k w nw f x2 x3 x4 t1 t2 = some r → (Sum.elim (fun (sg : Int32 × Int32 × As × Ar) => ∀ (H : Heap) (locs : List Loc) (ls : Array Slot), Wd G A s.heap H ((bAs G a o (b q) sg.2.2.1) ++ (bWh G b q nw) ++ ([(aa, eI G k sg.2.2.2)])) locs → lv_has ls 5 [(0, .ref (a o)), (1, .ref (aa)), (2, .int x2), (3, .int sg.1), (4, .int sg.2.1)] → WW p l e 3 s m [.ref (a o), .ref (aa), .int x2] below meth c G A (some (.int out.1)) (((bAs G a o (b q) out.2.1) ++ (bWh G b q nw) ++ ([(aa, eI G k out.2.2)]))) H locs 16 ls []) (fun (r : Int32 × As × Ar) => r = out)) r → ∀ (H : Heap) (locs : List Loc) (ls : Array Slot), Wd G A s.heap H ((bAs G a o (b q) w) ++ (bWh G b q nw) ++ ([(aa, eI G k f)])) locs → lv_has ls 5 [(0, .ref (a o)), (1, .ref (aa)), (2, .int x2), (3, .int x3), (4, .int x4)] → WW p l e 3 s m [.ref (a o), .ref (aa), .int x2] below meth c G A (some (.int out.1)) (((bAs G a o (b q) out.2.1) ++ (bWh G b q nw) ++ ([(aa, eI G k out.2.2)]))) H locs 50 ls [.int t2, .int t1, .ref (aa)] := by
      intro x3 x4 t1 t2 w f r hf hF H locs ls hW hl
      unfold f_X0_writeLimps_J50 at hf
      have g50_3 := (gd_some hf).1; replace hf := (gd_some hf).2
      refine k_iast C0 hW 13 (ix t1) rfl (inb_in g50_3) rfl dX0_writeLimps_50 (fun H locs hW => ?_)
      have hW : Wd G A s.heap H ((bAs G a o (b q) w) ++ (bWh G b q nw) ++ ([(aa, eI G k (upd f (ix t1) t2))])) locs := hW
      refine lv_iload_n hx hb dX0_writeLimps_51 rfl (lv_at hl 3 rfl) ?_
      refine lv_aload_n hx hb dX0_writeLimps_52 rfl (lv_at hl 1 rfl) ?_
      refine lv_iload hx hb dX0_writeLimps_53 (lv_at hl 4 rfl) ?_
      have g55_4 := (gd_some hf).1; replace hf := (gd_some hf).2
      refine k_iald C0 hW 13 (ix x4) rfl (inb_in g55_4) rfl dX0_writeLimps_55 ?_
      refine lv_iadd hx hb dX0_writeLimps_56 ?_
      refine lv_topi (fun v57 ev57 => ?_)
      replace hf := nm_s ev57 hf
      refine lv_istore_n (lv' := [(3, .int v57), (0, .ref (a o)), (1, .ref (aa)), (2, .int x2), (4, .int x4)]) hx hb dX0_writeLimps_57 rfl hl (by decide) rfl (fun ls hl => ?_)
      refine lv_iinc (v := (x4 + (1 : Int32))) (lv' := [(4, .int (x4 + (1 : Int32))), (3, .int v57), (0, .ref (a o)), (1, .ref (aa)), (2, .int x2)]) hx hb dX0_writeLimps_58 hl (k := 4) rfl rfl (by decide) rfl (fun ls hl => ?_)
      refine lv_goto (tgt := 16) hx hb dX0_writeLimps_61 (by decide) ?_
      have e1 := Option.some.inj hf
      subst e1
      exact (elim_l hF) _ _ _ hW (lv_sub hl [2, 3, 4, 1, 0] rfl)
    have J49 : ∀ (x3 : Int32) (x4 : Int32) (t1 : Int32) (w : As) (f : Ar) (r : (Int32 × Int32 × As × Ar) ⊕ (Int32 × As × Ar)), f_X0_writeLimps_J49 k w nw f x2 x3 x4 t1 = some r → (Sum.elim (fun (sg : Int32 × Int32 × As × Ar) => ∀ (H : Heap) (locs : List Loc) (ls : Array Slot), Wd G A s.heap H ((bAs G a o (b q) sg.2.2.1) ++ (bWh G b q nw) ++ ([(aa, eI G k sg.2.2.2)])) locs → lv_has ls 5 [(0, .ref (a o)), (1, .ref (aa)), (2, .int x2), (3, .int sg.1), (4, .int sg.2.1)] → WW p l e 3 s m [.ref (a o), .ref (aa), .int x2] below meth c G A (some (.int out.1)) (((bAs G a o (b q) out.2.1) ++ (bWh G b q nw) ++ ([(aa, eI G k out.2.2)]))) H locs 16 ls []) (fun (r : Int32 × As × Ar) => r = out)) r → ∀ (H : Heap) (locs : List Loc) (ls : Array Slot), Wd G A s.heap H ((bAs G a o (b q) w) ++ (bWh G b q nw) ++ ([(aa, eI G k f)])) locs → lv_has ls 5 [(0, .ref (a o)), (1, .ref (aa)), (2, .int x2), (3, .int x3), (4, .int x4)] → WW p l e 3 s m [.ref (a o), .ref (aa), .int x2] below meth c G A (some (.int out.1)) (((bAs G a o (b q) out.2.1) ++ (bWh G b q nw) ++ ([(aa, eI G k out.2.2)]))) H locs 49 ls [.int t1, .ref (aa)] := by
      intro x3 x4 t1 w f r hf hF H locs ls hW hl
      unfold f_X0_writeLimps_J49 at hf
      refine lv_iconst (v := 0) hx hb dX0_writeLimps_49 (by decide) ?_
      exact J50 _ _ _ _ _ _ _ hf hF _ _ _ hW (lv_sub hl [0, 1, 2, 3, 4] rfl)
    have B16 : ∀ (x3 : Int32) (x4 : Int32) (w : As) (f : Ar) (r : (Int32 × Int32 × As × Ar) ⊕ (Int32 × As × Ar)), f_X0_writeLimps_B16 k nw x2 x3 x4 w f = some r → (Sum.elim (fun (sg : Int32 × Int32 × As × Ar) => ∀ (H : Heap) (locs : List Loc) (ls : Array Slot), Wd G A s.heap H ((bAs G a o (b q) sg.2.2.1) ++ (bWh G b q nw) ++ ([(aa, eI G k sg.2.2.2)])) locs → lv_has ls 5 [(0, .ref (a o)), (1, .ref (aa)), (2, .int x2), (3, .int sg.1), (4, .int sg.2.1)] → WW p l e 3 s m [.ref (a o), .ref (aa), .int x2] below meth c G A (some (.int out.1)) (((bAs G a o (b q) out.2.1) ++ (bWh G b q nw) ++ ([(aa, eI G k out.2.2)]))) H locs 16 ls []) (fun (r : Int32 × As × Ar) => r = out)) r → ∀ (H : Heap) (locs : List Loc) (ls : Array Slot), Wd G A s.heap H ((bAs G a o (b q) w) ++ (bWh G b q nw) ++ ([(aa, eI G k f)])) locs → lv_has ls 5 [(0, .ref (a o)), (1, .ref (aa)), (2, .int x2), (3, .int x3), (4, .int x4)] → WW p l e 3 s m [.ref (a o), .ref (aa), .int x2] below meth c G A (some (.int out.1)) (((bAs G a o (b q) out.2.1) ++ (bWh G b q nw) ++ ([(aa, eI G k out.2.2)]))) H locs 16 ls [] := by
      intro x3 x4 w f r hf hF H locs ls hW hl
      unfold f_X0_writeLimps_B16 at hf
      refine lv_iload hx hb dX0_writeLimps_16 (lv_at hl 4 rfl) ?_
      refine lv_iload_n hx hb dX0_writeLimps_18 rfl (lv_at hl 2 rfl) ?_
      refine lv_icmp_ge (tgt := 64) hx hb dX0_writeLimps_19 (by decide) (fun c19_1 => ?_) (fun c19_1 => ?_)
      · replace hf := if_t c19_1 hf
        obtain ⟨r2, e2⟩ := om_s hf
        replace hf := e2.1
        replace e2 := e2.2
        subst e2
        replace hF := elim_r hF
        refine lv_iload_n hx hb dX0_writeLimps_64 rfl (lv_at hl 3 rfl) ?_
        have e1 := Option.some.inj hf
        subst e1
        have hF : ((x3, w, f) : Int32 × As × Ar) = out := hF
        subst hF
        exact k_iret C0 hW dX0_writeLimps_65
      · replace hf := if_f c19_1 hf
        refine lv_aload_n hx hb dX0_writeLimps_22 rfl (lv_at hl 1 rfl) ?_
        refine lv_iload hx hb dX0_writeLimps_23 (lv_at hl 4 rfl) ?_
        refine lv_aload_n hx hb dX0_writeLimps_25 rfl (lv_at hl 0 rfl) ?_
        refine k_get C0 hW 0 2 0 (v := .ref (a (o + 1))) rfl (by decide) inX0 mf_X0_18 rfl rfl dX0_writeLimps_26 ?_
        obtain ⟨q29, hq29⟩ := ob_s hf
        replace hf := hq29.2
        replace hq29 := hq29.1
        refine cV0 (rest := [.int x4, .ref (aa)]) (st1 := [.int q29, .int x4, .ref (aa)]) C0 hW hl.1 (c_X4_isOver l G a (o + 1) (as_trial w) _ hq29) cb_X4_isOver mm_X0_36 [1, 2, 3, 4, 5, 6] rfl rfl 0 4 rfl rfl rfl (by decide) rfl rfl (Nat.le_of_ble_eq_true rfl) ⟨Nat.zero_le _, Nat.zero_le _⟩ dX0_writeLimps_29 rfl (fun H locs hW => ?_)
        refine lv_if_ne (tgt := 49) hx hb dX0_writeLimps_32 (by decide) (fun c32_2 => ?_) (fun c32_2 => ?_)
        · replace hf := if_f c32_2 hf
          exact J49 _ _ _ _ _ _ hf hF _ _ _ hW (lv_sub hl [0, 1, 2, 3, 4] rfl)
        · replace hf := if_t c32_2 hf
          refine lv_aload_n hx hb dX0_writeLimps_35 rfl (lv_at hl 0 rfl) ?_
          refine k_get C0 hW 0 2 0 (v := .ref (a (o + 1))) rfl (by decide) inX0 mf_X0_18 rfl rfl dX0_writeLimps_36 ?_
          obtain ⟨q39, hq39⟩ := ob_s hf
          replace hf := hq39.2
          replace hq39 := hq39.1
          refine cV1 (rest := [.int x4, .ref (aa)]) (ws1 := ((bAs G a o (b q) (as_set_trial w q39.2)) ++ (bWh G b q nw) ++ ([(aa, eI G k f)]))) (st1 := [.int q39.1, .int x4, .ref (aa)]) C0 hW hl.1 (c_X4_roll l G a (o + 1) (as_trial w) _ hq39) cb_X4_roll mm_X0_44 [1, 2, 3, 4, 5, 6] rfl rfl rfl 0 4 rfl rfl rfl (by decide) rfl rfl (Nat.le_of_ble_eq_true rfl) ⟨Nat.zero_le _, Nat.zero_le _⟩ dX0_writeLimps_39 rfl rfl (fun H locs hW => ?_)
          refine lv_if_eq (tgt := 49) hx hb dX0_writeLimps_42 (by decide) (fun c42_6 => ?_) (fun c42_6 => ?_)
          · replace hf := if_t c42_6 hf
            exact J49 _ _ _ _ _ _ hf hF _ _ _ hW (lv_sub hl [0, 1, 2, 3, 4] rfl)
          · replace hf := if_f c42_6 hf
            refine lv_iconst (v := 1) hx hb dX0_writeLimps_45 (by decide) ?_
            refine lv_goto (tgt := 50) hx hb dX0_writeLimps_46 (by decide) ?_
            exact J50 _ _ _ _ _ _ _ hf hF _ _ _ hW (lv_sub hl [0, 1, 2, 3, 4] rfl)
    exact lp_sound (fun sg r hb hz => B16 sg.1 sg.2.1 sg.2.2.1 sg.2.2.2 r hb hz)
  obtain ⟨r, hr⟩ : ∃ r, f_X0_writeLimps k w nw f x2 = some r ∧ r = out := ⟨out, hf, rfl⟩
  replace hf := hr.1
  have hF := hr.2
  clear hr
  unfold f_X0_writeLimps at hf
  refine lv_aload_n hx hb dX0_writeLimps_0 rfl (lv_at hl 0 rfl) ?_
  refine k_get C0 hW 0 2 0 (v := .ref (a (o + 1))) rfl (by decide) inX0 mf_X0_18 rfl rfl dX0_writeLimps_1 ?_
  refine lv_aload_n hx hb dX0_writeLimps_4 rfl (lv_at hl 0 rfl) ?_
  refine k_get C0 hW 0 1 0 (v := .ref (b q)) rfl (by decide) inX0 mf_X0_9 rfl rfl dX0_writeLimps_5 ?_
  obtain ⟨q8, hq8⟩ := ob_s hf
  replace hf := hq8.2
  replace hq8 := hq8.1
  refine cV1 (rest := []) (ws1 := ((bAs G a o (b q) (as_set_trial w q8)) ++ (bWh G b q nw) ++ ([(aa, eI G k f)]))) (st1 := []) C0 hW hl.1 (c_X4_take l G a (o + 1) b q (as_trial w) nw _ hq8) cb_X4_take mm_X0_21 [1, 2, 3, 4, 5, 6, 7, 8, 9, 10, 11, 12] rfl rfl rfl 0 4 rfl rfl rfl (by decide) rfl rfl (Nat.le_of_ble_eq_true rfl) ⟨Nat.zero_le _, Nat.zero_le _⟩ dX0_writeLimps_8 rfl rfl (fun H locs hW => ?_)
  refine lv_iconst (v := 0) hx hb dX0_writeLimps_11 (by decide) ?_
  refine lv_istore_n (lv' := [(3, .int (0 : Int32)), (0, .ref (a o)), (1, .ref (aa)), (2, .int x2)]) hx hb dX0_writeLimps_12 rfl hl (by decide) rfl (fun ls hl => ?_)
  refine lv_iconst (v := 0) hx hb dX0_writeLimps_13 (by decide) ?_
  refine lv_istore (lv' := [(4, .int (0 : Int32)), (3, .int (0 : Int32)), (0, .ref (a o)), (1, .ref (aa)), (2, .int x2)]) hx hb dX0_writeLimps_14 hl (by decide) rfl (fun ls hl => ?_)
  exact L16  fuel ((0 : Int32), (0 : Int32), (as_set_trial w q8), f) _ hf hF _ _ _ hW (lv_sub hl [2, 3, 4, 1, 0] rfl)

def f_X4_soakAll_B4 (x1 : Int32) (x2 : Int32) (w : Wh) : Option ((Int32 × Int32 × Wh) ⊕ (Int32 × Wh)) :=
  if (wh_spokes w) ≤ x2 then (Option.map Sum.inr (some (x1, w))) else (gd (inb x2 8) (gd (inb x2 8) (gd (inb x2 8) (nm (x1 + ((upd (wh_wear w) (ix x2) (((wh_wear w) (ix x2)) / (2 : Int32))) (ix x2))) (fun v30 => some (Sum.inl (v30, (x2 + (1 : Int32)), (wh_set_wear w (upd (wh_wear w) (ix x2) (((wh_wear w) (ix x2)) / (2 : Int32)))))))))))
def f_X4_soakAll_L4 (sg : Int32 × Int32 × Wh) : Option ((Int32 × Int32 × Wh) ⊕ (Int32 × Wh)) := f_X4_soakAll_B4 sg.1 sg.2.1 sg.2.2
def f_X4_soakAll (w : Wh) : Option (Int32 × Wh) :=
  lp (f_X4_soakAll_L4) fuel ((0 : Int32), (0 : Int32), w)
set_option maxRecDepth 100000 in
set_option maxHeartbeats 8000000 in
theorem c_X4_soakAll (l : Launch) (G : GG) (a : Nat → Nat) (o : Nat) (w : Wh) (out : Int32 × Wh) (hf : f_X4_soakAll w = some out) : Cn l G 0 yX4_soakAll cX4_soakAll 3 (some .int) [.ref (a o)] (bWh G a o w) (some (.int out.1)) (bWh G a o out.2) := by
  refine cn_start (by decide) (Nat.le_of_ble_eq_true rfl) ?_
  intro p e s m below meth c A ls C0 hW hl
  have hx := C0.1
  have hb := C0.2.1
  have hl : lv_has ls 3 [(0, .ref (a o))] := hl
  have L4 : ∀ (k8 : Nat) (sg : Int32 × Int32 × Wh) (o9 : Int32 × Wh), lp (f_X4_soakAll_L4) k8 sg = some o9 → (fun (r : Int32 × Wh) => r = out) o9 → (fun (sg : Int32 × Int32 × Wh) => ∀ (H : Heap) (locs : List Loc) (ls : Array Slot), Wd G A s.heap H (bWh G a o sg.2.2) locs → lv_has ls 3 [(0, .ref (a o)), (1, .int sg.1), (2, .int sg.2.1)] → WW p l e 0 s m [.ref (a o)] below meth c G A (some (.int out.1)) ((bWh G a o out.2)) H locs 4 ls []) sg := by
    have B4 : ∀ (x1 : Int32) (x2 : Int32) (w : Wh) (r : (Int32 × Int32 × Wh) ⊕ (Int32 × Wh)), f_X4_soakAll_B4 x1 x2 w = some r → (Sum.elim (fun (sg : Int32 × Int32 × Wh) => ∀ (H : Heap) (locs : List Loc) (ls : Array Slot), Wd G A s.heap H (bWh G a o sg.2.2) locs → lv_has ls 3 [(0, .ref (a o)), (1, .int sg.1), (2, .int sg.2.1)] → WW p l e 0 s m [.ref (a o)] below meth c G A (some (.int out.1)) ((bWh G a o out.2)) H locs 4 ls []) (fun (r : Int32 × Wh) => r = out)) r → ∀ (H : Heap) (locs : List Loc) (ls : Array Slot), Wd G A s.heap H (bWh G a o w) locs → lv_has ls 3 [(0, .ref (a o)), (1, .int x1), (2, .int x2)] → WW p l e 0 s m [.ref (a o)] below meth c G A (some (.int out.1)) ((bWh G a o out.2)) H locs 4 ls [] := by
      intro x1 x2 w r hf hF H locs ls hW hl
      unfold f_X4_soakAll_B4 at hf
      refine lv_iload_n hx hb dX4_soakAll_4 rfl (lv_at hl 2 rfl) ?_
      refine lv_aload_n hx hb dX4_soakAll_5 rfl (lv_at hl 0 rfl) ?_
      refine k_get C0 hW 4 5 0 (v := .int (wh_spokes w)) rfl (by decide) inX4 mf_X4_33 rfl rfl dX4_soakAll_6 ?_
      refine lv_icmp_ge (tgt := 37) hx hb dX4_soakAll_9 (by decide) (fun c9_1 => ?_) (fun c9_1 => ?_)
      · replace hf := if_t c9_1 hf
        obtain ⟨r2, e2⟩ := om_s hf
        replace hf := e2.1
        replace e2 := e2.2
        subst e2
        replace hF := elim_r hF
        refine lv_iload_n hx hb dX4_soakAll_37 rfl (lv_at hl 1 rfl) ?_
        have e1 := Option.some.inj hf
        subst e1
        have hF : ((x1, w) : Int32 × Wh) = out := hF
        subst hF
        exact k_iret C0 hW dX4_soakAll_38
      · replace hf := if_f c9_1 hf
        refine lv_aload_n hx hb dX4_soakAll_12 rfl (lv_at hl 0 rfl) ?_
        refine k_get C0 hW 4 4 0 (v := .ref (a (o + 5))) rfl (by decide) inX4 mf_X4_24 rfl rfl dX4_soakAll_13 ?_
        refine lv_iload_n hx hb dX4_soakAll_16 rfl (lv_at hl 2 rfl) ?_
        refine lv_dup2_11 hx hb dX4_soakAll_17 rfl rfl ?_
        have g18_2 := (gd_some hf).1; replace hf := (gd_some hf).2
        refine k_iald C0 hW 5 (ix x2) rfl (inb_in g18_2) rfl dX4_soakAll_18 ?_
        refine lv_iconst (v := 2) hx hb dX4_soakAll_19 (by decide) ?_
        refine lv_idiv hx hb dX4_soakAll_20 (by decide) ?_
        have g21_3 := (gd_some hf).1; replace hf := (gd_some hf).2
        refine k_iast C0 hW 5 (ix x2) rfl (inb_in g21_3) rfl dX4_soakAll_21 (fun H locs hW => ?_)
        have hW : Wd G A s.heap H (bWh G a o (wh_set_wear w (upd (wh_wear w) (ix x2) (((wh_wear w) (ix x2)) / (2 : Int32))))) locs := hW
        refine lv_iload_n hx hb dX4_soakAll_22 rfl (lv_at hl 1 rfl) ?_
        refine lv_aload_n hx hb dX4_soakAll_23 rfl (lv_at hl 0 rfl) ?_
        refine k_get C0 hW 4 4 0 (v := .ref (a (o + 5))) rfl (by decide) inX4 mf_X4_24 rfl rfl dX4_soakAll_24 ?_
        refine lv_iload_n hx hb dX4_soakAll_27 rfl (lv_at hl 2 rfl) ?_
        have g28_4 := (gd_some hf).1; replace hf := (gd_some hf).2
        refine k_iald C0 hW 5 (ix x2) rfl (inb_in g28_4) rfl dX4_soakAll_28 ?_
        refine lv_iadd hx hb dX4_soakAll_29 ?_
        refine lv_topi (fun v30 ev30 => ?_)
        replace hf := nm_s ev30 hf
        refine lv_istore_n (lv' := [(1, .int v30), (0, .ref (a o)), (2, .int x2)]) hx hb dX4_soakAll_30 rfl hl (by decide) rfl (fun ls hl => ?_)
        refine lv_iinc (v := (x2 + (1 : Int32))) (lv' := [(2, .int (x2 + (1 : Int32))), (1, .int v30), (0, .ref (a o))]) hx hb dX4_soakAll_31 hl (k := 2) rfl rfl (by decide) rfl (fun ls hl => ?_)
        refine lv_goto (tgt := 4) hx hb dX4_soakAll_34 (by decide) ?_
        have e1 := Option.some.inj hf
        subst e1
        exact (elim_l hF) _ _ _ hW (lv_sub hl [2, 1, 0] rfl)
    exact lp_sound (fun sg r hb hz => B4 sg.1 sg.2.1 sg.2.2 r hb hz)
  obtain ⟨r, hr⟩ : ∃ r, f_X4_soakAll w = some r ∧ r = out := ⟨out, hf, rfl⟩
  replace hf := hr.1
  have hF := hr.2
  clear hr
  unfold f_X4_soakAll at hf
  refine lv_iconst (v := 0) hx hb dX4_soakAll_0 (by decide) ?_
  refine lv_istore_n (lv' := [(1, .int (0 : Int32)), (0, .ref (a o))]) hx hb dX4_soakAll_1 rfl hl (by decide) rfl (fun ls hl => ?_)
  refine lv_iconst (v := 0) hx hb dX4_soakAll_2 (by decide) ?_
  refine lv_istore_n (lv' := [(2, .int (0 : Int32)), (1, .int (0 : Int32)), (0, .ref (a o))]) hx hb dX4_soakAll_3 rfl hl (by decide) rfl (fun ls hl => ?_)
  exact L4  fuel ((0 : Int32), (0 : Int32), w) _ hf hF _ _ _ hW (lv_sub hl [2, 1, 0] rfl)

def f_X4_turnWeather_J13 (w : Wh) (t1 : Int32) : Option (Int32 × Wh) :=
  gd (isB t1) (if t1 = 0 then (some ((0 : Int32), (wh_set_dry w t1))) else (some ((1 : Int32), (wh_set_dry w t1))))
def f_X4_turnWeather (w : Wh) : Option (Int32 × Wh) :=
  if (wh_dry w) = 0 then (f_X4_turnWeather_J13 w (1 : Int32)) else (f_X4_turnWeather_J13 w (0 : Int32))
set_option maxRecDepth 100000 in
set_option maxHeartbeats 8000000 in
theorem c_X4_turnWeather (l : Launch) (G : GG) (a : Nat → Nat) (o : Nat) (w : Wh) (out : Int32 × Wh) (hf : f_X4_turnWeather w = some out) : Cn l G 0 yX4_turnWeather cX4_turnWeather 1 (some .int) [.ref (a o)] (bWh G a o w) (some (.int out.1)) (bWh G a o out.2) := by
  refine cn_start (by decide) (Nat.le_of_ble_eq_true rfl) ?_
  intro p e s m below meth c A ls C0 hW hl
  have hx := C0.1
  have hb := C0.2.1
  have hl : lv_has ls 1 [(0, .ref (a o))] := hl
  have J13 : ∀ (t1 : Int32) (w : Wh) (r : Int32 × Wh), f_X4_turnWeather_J13 w t1 = some r → (fun (r : Int32 × Wh) => r = out) r → ∀ (H : Heap) (locs : List Loc) (ls : Array Slot), Wd G A s.heap H (bWh G a o w) locs → lv_has ls 1 [(0, .ref (a o))] → WW p l e 0 s m [.ref (a o)] below meth c G A (some (.int out.1)) ((bWh G a o out.2)) H locs 13 ls [.int t1, .ref (a o)] := by
    intro t1 w r hf hF H locs ls hW hl
    unfold f_X4_turnWeather_J13 at hf
    have g13_2 := (gd_some hf).1; replace hf := (gd_some hf).2
    refine k_put C0 hW 4 10 0 rfl (by decide) inX4 tyX4_ok nmX4 mf_X4_49 rfl rfl (isB_nar g13_2) (isB_fits g13_2) (Nat.le_of_ble_eq_true rfl) dX4_turnWeather_13 (fun H locs hW => ?_)
    have hW : Wd G A s.heap H (bWh G a o (wh_set_dry w t1)) locs := hW
    refine lv_aload_n hx hb dX4_turnWeather_16 rfl (lv_at hl 0 rfl) ?_
    refine k_get C0 hW 4 10 0 (v := .int t1) rfl (by decide) inX4 mf_X4_49 rfl rfl dX4_turnWeather_17 ?_
    refine lv_if_eq (tgt := 27) hx hb dX4_turnWeather_20 (by decide) (fun c20_3 => ?_) (fun c20_3 => ?_)
    · replace hf := if_t c20_3 hf
      refine lv_iconst (v := 0) hx hb dX4_turnWeather_27 (by decide) ?_
      have e1 := Option.some.inj hf
      subst e1
      have hF : (((0 : Int32), (wh_set_dry w t1)) : Int32 × Wh) = out := hF
      subst hF
      exact k_iret C0 hW dX4_turnWeather_28
    · replace hf := if_f c20_3 hf
      refine lv_iconst (v := 1) hx hb dX4_turnWeather_23 (by decide) ?_
      refine lv_goto (tgt := 28) hx hb dX4_turnWeather_24 (by decide) ?_
      have e1 := Option.some.inj hf
      subst e1
      have hF : (((1 : Int32), (wh_set_dry w t1)) : Int32 × Wh) = out := hF
      subst hF
      exact k_iret C0 hW dX4_turnWeather_28
  obtain ⟨r, hr⟩ : ∃ r, f_X4_turnWeather w = some r ∧ r = out := ⟨out, hf, rfl⟩
  replace hf := hr.1
  have hF := hr.2
  clear hr
  unfold f_X4_turnWeather at hf
  refine lv_aload_n hx hb dX4_turnWeather_0 rfl (lv_at hl 0 rfl) ?_
  refine lv_aload_n hx hb dX4_turnWeather_1 rfl (lv_at hl 0 rfl) ?_
  refine k_get C0 hW 4 10 0 (v := .int (wh_dry w)) rfl (by decide) inX4 mf_X4_49 rfl rfl dX4_turnWeather_2 ?_
  refine lv_if_ne (tgt := 12) hx hb dX4_turnWeather_5 (by decide) (fun c5_1 => ?_) (fun c5_1 => ?_)
  · replace hf := if_f c5_1 hf
    refine lv_iconst (v := 0) hx hb dX4_turnWeather_12 (by decide) ?_
    exact J13 _ _ _ hf hF _ _ _ hW (lv_sub hl [0] rfl)
  · replace hf := if_t c5_1 hf
    refine lv_iconst (v := 1) hx hb dX4_turnWeather_8 (by decide) ?_
    refine lv_goto (tgt := 13) hx hb dX4_turnWeather_9 (by decide) ?_
    exact J13 _ _ _ hf hF _ _ _ hW (lv_sub hl [0] rfl)

def f_X4_knockOut (w : Wh) (x1 : Int32) : Option (Int32 × Wh) :=
  gd (inb x1 8) (some (((wh_wear w) (ix x1)), (wh_set_there w ((wh_there w) &&& ((jshl (1 : Int32) x1) ^^^ (-1 : Int32))))))
set_option maxRecDepth 100000 in
set_option maxHeartbeats 8000000 in
theorem c_X4_knockOut (l : Launch) (G : GG) (a : Nat → Nat) (o : Nat) (w : Wh) (x1 : Int32) (out : Int32 × Wh) (hf : f_X4_knockOut w x1 = some out) : Cn l G 0 yX4_knockOut cX4_knockOut 2 (some .int) [.ref (a o), .int x1] (bWh G a o w) (some (.int out.1)) (bWh G a o out.2) := by
  refine cn_start (by decide) (Nat.le_of_ble_eq_true rfl) ?_
  intro p e s m below meth c A ls C0 hW hl
  have hx := C0.1
  have hb := C0.2.1
  have hl : lv_has ls 2 [(0, .ref (a o)), (1, .int x1)] := hl
  obtain ⟨r, hr⟩ : ∃ r, f_X4_knockOut w x1 = some r ∧ r = out := ⟨out, hf, rfl⟩
  replace hf := hr.1
  have hF := hr.2
  clear hr
  unfold f_X4_knockOut at hf
  refine lv_aload_n hx hb dX4_knockOut_0 rfl (lv_at hl 0 rfl) ?_
  refine lv_dup hx hb dX4_knockOut_1 rfl ?_
  refine k_get C0 hW 4 9 0 (v := .int (wh_there w)) rfl (by decide) inX4 mf_X4_46 rfl rfl dX4_knockOut_2 ?_
  refine lv_iconst (v := 1) hx hb dX4_knockOut_5 (by decide) ?_
  refine lv_iload_n hx hb dX4_knockOut_6 rfl (lv_at hl 1 rfl) ?_
  refine lv_ishl hx hb dX4_knockOut_7 ?_
  refine lv_iconst (v := -1) hx hb dX4_knockOut_8 (by decide) ?_
  refine lv_ixor hx hb dX4_knockOut_9 ?_
  refine lv_iand hx hb dX4_knockOut_10 ?_
  refine k_put C0 hW 4 9 0 rfl (by decide) inX4 tyX4_ok nmX4 mf_X4_46 rfl rfl rfl rfl (Nat.le_of_ble_eq_true rfl) dX4_knockOut_11 (fun H locs hW => ?_)
  have hW : Wd G A s.heap H (bWh G a o (wh_set_there w ((wh_there w) &&& ((jshl (1 : Int32) x1) ^^^ (-1 : Int32))))) locs := hW
  refine lv_aload_n hx hb dX4_knockOut_14 rfl (lv_at hl 0 rfl) ?_
  refine k_get C0 hW 4 4 0 (v := .ref (a (o + 5))) rfl (by decide) inX4 mf_X4_24 rfl rfl dX4_knockOut_15 ?_
  refine lv_iload_n hx hb dX4_knockOut_18 rfl (lv_at hl 1 rfl) ?_
  have g19_1 := (gd_some hf).1; replace hf := (gd_some hf).2
  refine k_iald C0 hW 5 (ix x1) rfl (inb_in g19_1) rfl dX4_knockOut_19 ?_
  have e1 := Option.some.inj hf
  subst e1
  have hF : ((((wh_wear w) (ix x1)), (wh_set_there w ((wh_there w) &&& ((jshl (1 : Int32) x1) ^^^ (-1 : Int32))))) : Int32 × Wh) = out := hF
  subst hF
  exact k_iret C0 hW dX4_knockOut_20

def f_X4_act (w : Wh) (x1 : Int32) (x2 : Int32) : Option (Int32 × Wh) :=
  if x1 = 0 then (Option.bind (f_X4_roll w) (fun q33 => if q33.1 = 0 then (some ((0 : Int32), q33.2)) else (some ((1 : Int32), q33.2)))) else if x1 = 1 then (Option.bind (f_X4_soakAll w) (fun q46 => some (q46.1, q46.2))) else if x1 = 2 then (Option.bind (f_X4_turnWeather w) (fun q51 => some (q51.1, q51.2))) else if x1 = 3 then (Option.bind (f_X4_knockOut w x2) (fun q57 => some (q57.1, q57.2))) else Option.bind (f_X4_putIn w x2) (fun q63 => some (q63.1, q63.2))
set_option maxRecDepth 100000 in
set_option maxHeartbeats 8000000 in
theorem c_X4_act (l : Launch) (G : GG) (a : Nat → Nat) (o : Nat) (w : Wh) (x1 : Int32) (x2 : Int32) (out : Int32 × Wh) (hf : f_X4_act w x1 x2 = some out) : Cn l G 3 yX4_act cX4_act 3 (some .int) [.ref (a o), .int x1, .int x2] (bWh G a o w) (some (.int out.1)) (bWh G a o out.2) := by
  refine cn_start (by decide) (Nat.le_of_ble_eq_true rfl) ?_
  intro p e s m below meth c A ls C0 hW hl
  have hx := C0.1
  have hb := C0.2.1
  have hl : lv_has ls 3 [(0, .ref (a o)), (1, .int x1), (2, .int x2)] := hl
  obtain ⟨r, hr⟩ : ∃ r, f_X4_act w x1 x2 = some r ∧ r = out := ⟨out, hf, rfl⟩
  replace hf := hr.1
  have hF := hr.2
  clear hr
  unfold f_X4_act at hf
  refine lv_iload_n hx hb dX4_act_0 rfl (lv_at hl 1 rfl) ?_
  by_cases c1_1 : x1 = 0
  · replace hf := if_t c1_1 hf
    refine lv_tableIn (off := 31) (tgt := 32) hx hb dX4_act_1 (by rw [c1_1]; decide) (by rw [c1_1]; decide) (by rw [c1_1]; rfl) (by decide) ?_
    refine lv_aload_n hx hb dX4_act_32 rfl (lv_at hl 0 rfl) ?_
    obtain ⟨q33, hq33⟩ := ob_s hf
    replace hf := hq33.2
    replace hq33 := hq33.1
    refine cW1 (rest := []) (ws1 := (bWh G a o q33.2)) (st1 := [.int q33.1]) C0 hW hl.1 (c_X4_roll l G a o w _ hq33) cb_X4_roll mm_X4_82 rfl 0 4 rfl rfl rfl (by decide) rfl rfl (Nat.le_of_ble_eq_true rfl) ⟨Nat.zero_le _, Nat.zero_le _⟩ dX4_act_33 rfl (fun H locs hW => ?_)
    refine lv_if_eq (tgt := 43) hx hb dX4_act_36 (by decide) (fun c36_2 => ?_) (fun c36_2 => ?_)
    · replace hf := if_t c36_2 hf
      refine lv_iconst (v := 0) hx hb dX4_act_43 (by decide) ?_
      have e1 := Option.some.inj hf
      subst e1
      have hF : (((0 : Int32), q33.2) : Int32 × Wh) = out := hF
      subst hF
      exact k_iret C0 hW dX4_act_44
    · replace hf := if_f c36_2 hf
      refine lv_iconst (v := 1) hx hb dX4_act_39 (by decide) ?_
      refine lv_goto (tgt := 44) hx hb dX4_act_40 (by decide) ?_
      have e1 := Option.some.inj hf
      subst e1
      have hF : (((1 : Int32), q33.2) : Int32 × Wh) = out := hF
      subst hF
      exact k_iret C0 hW dX4_act_44
  replace hf := if_f c1_1 hf
  by_cases c1_3 : x1 = 1
  · replace hf := if_t c1_3 hf
    refine lv_tableIn (off := 44) (tgt := 45) hx hb dX4_act_1 (by rw [c1_3]; decide) (by rw [c1_3]; decide) (by rw [c1_3]; rfl) (by decide) ?_
    refine lv_aload_n hx hb dX4_act_45 rfl (lv_at hl 0 rfl) ?_
    obtain ⟨q46, hq46⟩ := ob_s hf
    replace hf := hq46.2
    replace hq46 := hq46.1
    refine cW1 (rest := []) (ws1 := (bWh G a o q46.2)) (st1 := [.int q46.1]) C0 hW hl.1 (c_X4_soakAll l G a o w _ hq46) cb_X4_soakAll mm_X4_86 rfl 0 4 rfl rfl rfl (by decide) rfl rfl (Nat.le_of_ble_eq_true rfl) ⟨Nat.zero_le _, Nat.zero_le _⟩ dX4_act_46 rfl (fun H locs hW => ?_)
    have e1 := Option.some.inj hf
    subst e1
    have hF : ((q46.1, q46.2) : Int32 × Wh) = out := hF
    subst hF
    exact k_iret C0 hW dX4_act_49
  replace hf := if_f c1_3 hf
  by_cases c1_4 : x1 = 2
  · replace hf := if_t c1_4 hf
    refine lv_tableIn (off := 49) (tgt := 50) hx hb dX4_act_1 (by rw [c1_4]; decide) (by rw [c1_4]; decide) (by rw [c1_4]; rfl) (by decide) ?_
    refine lv_aload_n hx hb dX4_act_50 rfl (lv_at hl 0 rfl) ?_
    obtain ⟨q51, hq51⟩ := ob_s hf
    replace hf := hq51.2
    replace hq51 := hq51.1
    refine cW1 (rest := []) (ws1 := (bWh G a o q51.2)) (st1 := [.int q51.1]) C0 hW hl.1 (c_X4_turnWeather l G a o w _ hq51) cb_X4_turnWeather mm_X4_89 rfl 0 4 rfl rfl rfl (by decide) rfl rfl (Nat.le_of_ble_eq_true rfl) ⟨Nat.zero_le _, Nat.zero_le _⟩ dX4_act_51 rfl (fun H locs hW => ?_)
    have e1 := Option.some.inj hf
    subst e1
    have hF : ((q51.1, q51.2) : Int32 × Wh) = out := hF
    subst hF
    exact k_iret C0 hW dX4_act_54
  replace hf := if_f c1_4 hf
  by_cases c1_5 : x1 = 3
  · replace hf := if_t c1_5 hf
    refine lv_tableIn (off := 54) (tgt := 55) hx hb dX4_act_1 (by rw [c1_5]; decide) (by rw [c1_5]; decide) (by rw [c1_5]; rfl) (by decide) ?_
    refine lv_aload_n hx hb dX4_act_55 rfl (lv_at hl 0 rfl) ?_
    refine lv_iload_n hx hb dX4_act_56 rfl (lv_at hl 2 rfl) ?_
    obtain ⟨q57, hq57⟩ := ob_s hf
    replace hf := hq57.2
    replace hq57 := hq57.1
    refine cW1 (rest := []) (ws1 := (bWh G a o q57.2)) (st1 := [.int q57.1]) C0 hW hl.1 (c_X4_knockOut l G a o w x2 _ hq57) cb_X4_knockOut mm_X4_92 rfl 0 4 rfl rfl rfl (by decide) rfl rfl (Nat.le_of_ble_eq_true rfl) ⟨Nat.zero_le _, Nat.zero_le _⟩ dX4_act_57 rfl (fun H locs hW => ?_)
    have e1 := Option.some.inj hf
    subst e1
    have hF : ((q57.1, q57.2) : Int32 × Wh) = out := hF
    subst hF
    exact k_iret C0 hW dX4_act_60
  replace hf := if_f c1_5 hf
  refine lv_tableOut (tgt := 61) hx hb dX4_act_1 (by have := lv_neT c1_1 (show (0 : Int32).toInt = 0 from rfl); have := lv_neT c1_3 (show (1 : Int32).toInt = 1 from rfl); have := lv_neT c1_4 (show (2 : Int32).toInt = 2 from rfl); have := lv_neT c1_5 (show (3 : Int32).toInt = 3 from rfl); omega) (by decide) ?_
  refine lv_aload_n hx hb dX4_act_61 rfl (lv_at hl 0 rfl) ?_
  refine lv_iload_n hx hb dX4_act_62 rfl (lv_at hl 2 rfl) ?_
  obtain ⟨q63, hq63⟩ := ob_s hf
  replace hf := hq63.2
  replace hq63 := hq63.1
  refine cW1 (rest := []) (ws1 := (bWh G a o q63.2)) (st1 := [.int q63.1]) C0 hW hl.1 (c_X4_putIn l G a o w x2 _ hq63) cb_X4_putIn mm_X4_96 rfl 0 4 rfl rfl rfl (by decide) rfl rfl (Nat.le_of_ble_eq_true rfl) ⟨Nat.zero_le _, Nat.zero_le _⟩ dX4_act_63 rfl (fun H locs hW => ?_)
  have e1 := Option.some.inj hf
  subst e1
  have hF : ((q63.1, q63.2) : Int32 × Wh) = out := hF
  subst hF
  exact k_iret C0 hW dX4_act_66

def f_X1_add (w : Ct) (x1 : Int32) (x2 : Int32) : Option (Int32 × Ct) :=
  if (ct_done w) < 0 then (some ((-2 : Int32), w)) else (if (ct_done w) < (40 : Int32) then (gd (inb (ct_done w) 40) (gd (inb (ct_done w) 40) (Option.bind (f_X4_act (ct_wheel w) x1 x2) (fun q55 => some (q55.1, (ct_set_done (ct_set_doneTo (ct_set_deeds (ct_set_wheel w q55.2) (upd (ct_deeds w) (ix (ct_done w)) x1)) (upd (ct_doneTo w) (ix (ct_done w)) x2)) ((ct_done w) + (1 : Int32)))))))) else (some ((-2 : Int32), w)))
set_option maxRecDepth 100000 in
set_option maxHeartbeats 8000000 in
theorem c_X1_add (l : Launch) (G : GG) (a : Nat → Nat) (o : Nat) (w : Ct) (x1 : Int32) (x2 : Int32) (out : Int32 × Ct) (hf : f_X1_add w x1 x2 = some out) : Cn l G 4 yX1_add cX1_add 3 (some .int) [.ref (a o), .int x1, .int x2] (bCt G a o w) (some (.int out.1)) (bCt G a o out.2) := by
  refine cn_start (by decide) (Nat.le_of_ble_eq_true rfl) ?_
  intro p e s m below meth c A ls C0 hW hl
  have hx := C0.1
  have hb := C0.2.1
  have hl : lv_has ls 3 [(0, .ref (a o)), (1, .int x1), (2, .int x2)] := hl
  obtain ⟨r, hr⟩ : ∃ r, f_X1_add w x1 x2 = some r ∧ r = out := ⟨out, hf, rfl⟩
  replace hf := hr.1
  have hF := hr.2
  clear hr
  unfold f_X1_add at hf
  refine lv_aload_n hx hb dX1_add_0 rfl (lv_at hl 0 rfl) ?_
  refine k_get C0 hW 1 3 0 (v := .int (ct_done w)) rfl (by decide) inX1 mf_X1_32 rfl rfl dX1_add_1 ?_
  refine lv_if_lt (tgt := 16) hx hb dX1_add_4 (by decide) (fun c4_1 => ?_) (fun c4_1 => ?_)
  · replace hf := if_t c4_1 hf
    refine lv_bipush (v := -2) hx hb dX1_add_16 (by decide) ?_
    have e1 := Option.some.inj hf
    subst e1
    have hF : (((-2 : Int32), w) : Int32 × Ct) = out := hF
    subst hF
    exact k_iret C0 hW dX1_add_18
  · replace hf := if_f c4_1 hf
    refine lv_aload_n hx hb dX1_add_7 rfl (lv_at hl 0 rfl) ?_
    refine k_get C0 hW 1 3 0 (v := .int (ct_done w)) rfl (by decide) inX1 mf_X1_32 rfl rfl dX1_add_8 ?_
    refine lv_bipush (v := 40) hx hb dX1_add_11 (by decide) ?_
    refine lv_icmp_lt (tgt := 19) hx hb dX1_add_13 (by decide) (fun c13_2 => ?_) (fun c13_2 => ?_)
    · replace hf := if_t c13_2 hf
      refine lv_aload_n hx hb dX1_add_19 rfl (lv_at hl 0 rfl) ?_
      refine k_get C0 hW 1 1 0 (v := .ref (a (o + 1))) rfl (by decide) inX1 mf_X1_18 rfl rfl dX1_add_20 ?_
      refine lv_aload_n hx hb dX1_add_23 rfl (lv_at hl 0 rfl) ?_
      refine k_get C0 hW 1 3 0 (v := .int (ct_done w)) rfl (by decide) inX1 mf_X1_32 rfl rfl dX1_add_24 ?_
      refine lv_iload_n hx hb dX1_add_27 rfl (lv_at hl 1 rfl) ?_
      have g28_3 := (gd_some hf).1; replace hf := (gd_some hf).2
      refine k_iast C0 hW 1 (ix (ct_done w)) rfl (inb_in g28_3) rfl dX1_add_28 (fun H locs hW => ?_)
      have hW : Wd G A s.heap H (bCt G a o (ct_set_deeds w (upd (ct_deeds w) (ix (ct_done w)) x1))) locs := hW
      refine lv_aload_n hx hb dX1_add_29 rfl (lv_at hl 0 rfl) ?_
      refine k_get C0 hW 1 2 0 (v := .ref (a (o + 2))) rfl (by decide) inX1 mf_X1_22 rfl rfl dX1_add_30 ?_
      refine lv_aload_n hx hb dX1_add_33 rfl (lv_at hl 0 rfl) ?_
      refine k_get C0 hW 1 3 0 (v := .int (ct_done w)) rfl (by decide) inX1 mf_X1_32 rfl rfl dX1_add_34 ?_
      refine lv_iload_n hx hb dX1_add_37 rfl (lv_at hl 2 rfl) ?_
      have g38_4 := (gd_some hf).1; replace hf := (gd_some hf).2
      refine k_iast C0 hW 2 (ix (ct_done w)) rfl (inb_in g38_4) rfl dX1_add_38 (fun H locs hW => ?_)
      have hW : Wd G A s.heap H (bCt G a o (ct_set_doneTo (ct_set_deeds w (upd (ct_deeds w) (ix (ct_done w)) x1)) (upd (ct_doneTo w) (ix (ct_done w)) x2))) locs := hW
      refine lv_aload_n hx hb dX1_add_39 rfl (lv_at hl 0 rfl) ?_
      refine lv_dup hx hb dX1_add_40 rfl ?_
      refine k_get C0 hW 1 3 0 (v := .int (ct_done w)) rfl (by decide) inX1 mf_X1_32 rfl rfl dX1_add_41 ?_
      refine lv_iconst (v := 1) hx hb dX1_add_44 (by decide) ?_
      refine lv_iadd hx hb dX1_add_45 ?_
      refine k_put C0 hW 1 3 0 rfl (by decide) inX1 tyX1_ok nmX1 mf_X1_32 rfl rfl rfl rfl (Nat.le_of_ble_eq_true rfl) dX1_add_46 (fun H locs hW => ?_)
      have hW : Wd G A s.heap H (bCt G a o (ct_set_done (ct_set_doneTo (ct_set_deeds w (upd (ct_deeds w) (ix (ct_done w)) x1)) (upd (ct_doneTo w) (ix (ct_done w)) x2)) ((ct_done w) + (1 : Int32)))) locs := hW
      refine lv_aload_n hx hb dX1_add_49 rfl (lv_at hl 0 rfl) ?_
      refine k_get C0 hW 1 0 0 (v := .ref (a (o + 3))) rfl (by decide) inX1 mf_X1_12 rfl rfl dX1_add_50 ?_
      refine lv_iload_n hx hb dX1_add_53 rfl (lv_at hl 1 rfl) ?_
      refine lv_iload_n hx hb dX1_add_54 rfl (lv_at hl 2 rfl) ?_
      obtain ⟨q55, hq55⟩ := ob_s hf
      replace hf := hq55.2
      replace hq55 := hq55.1
      refine cV1 (rest := []) (ws1 := (bCt G a o (ct_set_done (ct_set_doneTo (ct_set_deeds (ct_set_wheel w q55.2) (upd (ct_deeds w) (ix (ct_done w)) x1)) (upd (ct_doneTo w) (ix (ct_done w)) x2)) ((ct_done w) + (1 : Int32))))) (st1 := [.int q55.1]) C0 hW hl.1 (c_X4_act l G a (o + 3) (ct_wheel w) x1 x2 _ hq55) cb_X4_act mm_X1_42 [3, 4, 5, 6, 7, 8] rfl rfl rfl 0 4 rfl rfl rfl (by decide) rfl rfl (Nat.le_of_ble_eq_true rfl) ⟨Nat.zero_le _, Nat.zero_le _⟩ dX1_add_55 rfl rfl (fun H locs hW => ?_)
      have e1 := Option.some.inj hf
      subst e1
      have hF : ((q55.1, (ct_set_done (ct_set_doneTo (ct_set_deeds (ct_set_wheel w q55.2) (upd (ct_deeds w) (ix (ct_done w)) x1)) (upd (ct_doneTo w) (ix (ct_done w)) x2)) ((ct_done w) + (1 : Int32)))) : Int32 × Ct) = out := hF
      subst hF
      exact k_iret C0 hW dX1_add_58
    · replace hf := if_f c13_2 hf
      refine lv_bipush (v := -2) hx hb dX1_add_16 (by decide) ?_
      have e1 := Option.some.inj hf
      subst e1
      have hF : (((-2 : Int32), w) : Int32 × Ct) = out := hF
      subst hF
      exact k_iret C0 hW dX1_add_18

def f_X4_start (w : Wh) : Option (Wh) :=
  Option.bind (f_J7_fill_53178 8 (wh_wear w) (0 : Int32)) (fun q5 => some (wh_set_dry (wh_set_there (wh_set_rut (wh_set_stand (wh_set_wear w q5) (0 : Int32)) (0 : Int32)) ((jshl (1 : Int32) (wh_spokes w)) - (1 : Int32))) (0 : Int32)))
set_option maxRecDepth 100000 in
set_option maxHeartbeats 8000000 in
theorem c_X4_start (l : Launch) (G : GG) (a : Nat → Nat) (o : Nat) (w : Wh) (out : Wh) (hf : f_X4_start w = some out) : Cn l G 1 yX4_start cX4_start 1 (none) [.ref (a o)] (bWh G a o w) (none) (bWh G a o out) := by
  refine cn_start (by decide) (Nat.le_of_ble_eq_true rfl) ?_
  intro p e s m below meth c A ls C0 hW hl
  have hx := C0.1
  have hb := C0.2.1
  have hl : lv_has ls 1 [(0, .ref (a o))] := hl
  obtain ⟨r, hr⟩ : ∃ r, f_X4_start w = some r ∧ r = out := ⟨out, hf, rfl⟩
  replace hf := hr.1
  have hF := hr.2
  clear hr
  unfold f_X4_start at hf
  refine lv_aload_n hx hb dX4_start_0 rfl (lv_at hl 0 rfl) ?_
  refine k_get C0 hW 4 4 0 (v := .ref (a (o + 5))) rfl (by decide) inX4 mf_X4_24 rfl rfl dX4_start_1 ?_
  refine lv_iconst (v := 0) hx hb dX4_start_4 (by decide) ?_
  obtain ⟨q5, hq5⟩ := ob_s hf
  replace hf := hq5.2
  replace hq5 := hq5.1
  refine cS1 (rest := []) (ws1 := (bWh G a o (wh_set_wear w q5))) (st1 := []) C0 hW hl.1 (c_J7_fill_53178 l G (a (o + 5)) 8 (wh_wear w) (0 : Int32) _ hq5) cb_J7_fill_53178 mm_X4_53 [5] rfl rfl rfl (by decide) rfl rfl (Nat.le_of_ble_eq_true rfl) ⟨Nat.zero_le _, Nat.zero_le _⟩ dX4_start_5 rfl rfl (fun H locs hW => ?_)
  refine lv_aload_n hx hb dX4_start_8 rfl (lv_at hl 0 rfl) ?_
  refine lv_iconst (v := 0) hx hb dX4_start_9 (by decide) ?_
  refine k_put C0 hW 4 7 0 rfl (by decide) inX4 tyX4_ok nmX4 mf_X4_40 rfl rfl rfl rfl (Nat.le_of_ble_eq_true rfl) dX4_start_10 (fun H locs hW => ?_)
  have hW : Wd G A s.heap H (bWh G a o (wh_set_stand (wh_set_wear w q5) (0 : Int32))) locs := hW
  refine lv_aload_n hx hb dX4_start_13 rfl (lv_at hl 0 rfl) ?_
  refine lv_iconst (v := 0) hx hb dX4_start_14 (by decide) ?_
  refine k_put C0 hW 4 8 0 rfl (by decide) inX4 tyX4_ok nmX4 mf_X4_43 rfl rfl rfl rfl (Nat.le_of_ble_eq_true rfl) dX4_start_15 (fun H locs hW => ?_)
  have hW : Wd G A s.heap H (bWh G a o (wh_set_rut (wh_set_stand (wh_set_wear w q5) (0 : Int32)) (0 : Int32))) locs := hW
  refine lv_aload_n hx hb dX4_start_18 rfl (lv_at hl 0 rfl) ?_
  refine lv_iconst (v := 1) hx hb dX4_start_19 (by decide) ?_
  refine lv_aload_n hx hb dX4_start_20 rfl (lv_at hl 0 rfl) ?_
  refine k_get C0 hW 4 5 0 (v := .int (wh_spokes w)) rfl (by decide) inX4 mf_X4_33 rfl rfl dX4_start_21 ?_
  refine lv_ishl hx hb dX4_start_24 ?_
  refine lv_iconst (v := 1) hx hb dX4_start_25 (by decide) ?_
  refine lv_isub hx hb dX4_start_26 ?_
  refine k_put C0 hW 4 9 0 rfl (by decide) inX4 tyX4_ok nmX4 mf_X4_46 rfl rfl rfl rfl (Nat.le_of_ble_eq_true rfl) dX4_start_27 (fun H locs hW => ?_)
  have hW : Wd G A s.heap H (bWh G a o (wh_set_there (wh_set_rut (wh_set_stand (wh_set_wear w q5) (0 : Int32)) (0 : Int32)) ((jshl (1 : Int32) (wh_spokes w)) - (1 : Int32)))) locs := hW
  refine lv_aload_n hx hb dX4_start_30 rfl (lv_at hl 0 rfl) ?_
  refine lv_iconst (v := 0) hx hb dX4_start_31 (by decide) ?_
  refine k_put C0 hW 4 10 0 rfl (by decide) inX4 tyX4_ok nmX4 mf_X4_49 rfl rfl (isB_nar (show isB (0 : Int32) = true from rfl)) (isB_fits (show isB (0 : Int32) = true from rfl)) (Nat.le_of_ble_eq_true rfl) dX4_start_32 (fun H locs hW => ?_)
  have hW : Wd G A s.heap H (bWh G a o (wh_set_dry (wh_set_there (wh_set_rut (wh_set_stand (wh_set_wear w q5) (0 : Int32)) (0 : Int32)) ((jshl (1 : Int32) (wh_spokes w)) - (1 : Int32))) (0 : Int32))) locs := hW
  have e1 := Option.some.inj hf
  subst e1
  have hF : ((wh_set_dry (wh_set_there (wh_set_rut (wh_set_stand (wh_set_wear w q5) (0 : Int32)) (0 : Int32)) ((jshl (1 : Int32) (wh_spokes w)) - (1 : Int32))) (0 : Int32)) : Wh) = out := hF
  subst hF
  exact k_vret C0 hW dX4_start_35

def f_X1_begin (w : Ct) (w2 : Wh) : Option (Ct) :=
  Option.bind (f_X4_take (ct_wheel w) w2) (fun q5 => Option.bind (f_X4_start q5) (fun q12 => some (ct_set_done (ct_set_wheel w q12) (0 : Int32))))
set_option maxRecDepth 100000 in
set_option maxHeartbeats 8000000 in
theorem c_X1_begin (l : Launch) (G : GG) (a : Nat → Nat) (o : Nat) (b : Nat → Nat) (q : Nat) (w : Ct) (w2 : Wh) (out : Ct) (hf : f_X1_begin w w2 = some out) : Cn l G 2 yX1_begin cX1_begin 2 (none) [.ref (a o), .ref (b q)] ((bCt G a o w) ++ (bWh G b q w2)) (none) ((bCt G a o out) ++ (bWh G b q w2)) := by
  refine cn_start (by decide) (Nat.le_of_ble_eq_true rfl) ?_
  intro p e s m below meth c A ls C0 hW hl
  have hx := C0.1
  have hb := C0.2.1
  have hl : lv_has ls 2 [(0, .ref (a o)), (1, .ref (b q))] := hl
  obtain ⟨r, hr⟩ : ∃ r, f_X1_begin w w2 = some r ∧ r = out := ⟨out, hf, rfl⟩
  replace hf := hr.1
  have hF := hr.2
  clear hr
  unfold f_X1_begin at hf
  refine lv_aload_n hx hb dX1_begin_0 rfl (lv_at hl 0 rfl) ?_
  refine k_get C0 hW 1 0 0 (v := .ref (a (o + 3))) rfl (by decide) inX1 mf_X1_12 rfl rfl dX1_begin_1 ?_
  refine lv_aload_n hx hb dX1_begin_4 rfl (lv_at hl 1 rfl) ?_
  obtain ⟨q5, hq5⟩ := ob_s hf
  replace hf := hq5.2
  replace hq5 := hq5.1
  refine cV1 (rest := []) (ws1 := ((bCt G a o (ct_set_wheel w q5)) ++ (bWh G b q w2))) (st1 := []) C0 hW hl.1 (c_X4_take l G a (o + 3) b q (ct_wheel w) w2 _ hq5) cb_X4_take mm_X1_25 [3, 4, 5, 6, 7, 8, 9, 10, 11, 12, 13, 14] rfl rfl rfl 0 4 rfl rfl rfl (by decide) rfl rfl (Nat.le_of_ble_eq_true rfl) ⟨Nat.zero_le _, Nat.zero_le _⟩ dX1_begin_5 rfl rfl (fun H locs hW => ?_)
  refine lv_aload_n hx hb dX1_begin_8 rfl (lv_at hl 0 rfl) ?_
  refine k_get C0 hW 1 0 0 (v := .ref (a (o + 3))) rfl (by decide) inX1 mf_X1_12 rfl rfl dX1_begin_9 ?_
  obtain ⟨q12, hq12⟩ := ob_s hf
  replace hf := hq12.2
  replace hq12 := hq12.1
  refine cV1 (rest := []) (ws1 := ((bCt G a o (ct_set_wheel w q12)) ++ (bWh G b q w2))) (st1 := []) C0 hW hl.1 (c_X4_start l G a (o + 3) q5 _ hq12) cb_X4_start mm_X1_29 [3, 4, 5, 6, 7, 8] rfl rfl rfl 0 4 rfl rfl rfl (by decide) rfl rfl (Nat.le_of_ble_eq_true rfl) ⟨Nat.zero_le _, Nat.zero_le _⟩ dX1_begin_12 rfl rfl (fun H locs hW => ?_)
  refine lv_aload_n hx hb dX1_begin_15 rfl (lv_at hl 0 rfl) ?_
  refine lv_iconst (v := 0) hx hb dX1_begin_16 (by decide) ?_
  refine k_put C0 hW 1 3 0 rfl (by decide) inX1 tyX1_ok nmX1 mf_X1_32 rfl rfl rfl rfl (Nat.le_of_ble_eq_true rfl) dX1_begin_17 (fun H locs hW => ?_)
  have hW : Wd G A s.heap H ((bCt G a o (ct_set_done (ct_set_wheel w q12) (0 : Int32))) ++ (bWh G b q w2)) locs := hW
  have e1 := Option.some.inj hf
  subst e1
  have hF : ((ct_set_done (ct_set_wheel w q12) (0 : Int32)) : Ct) = out := hF
  subst hF
  exact k_vret C0 hW dX1_begin_20

def f_X1_goBack_J46 (w : Ct) (x1 : Int32) : Option (Ct) :=
  some (ct_set_done w x1)
def f_X1_goBack_B9 (x1 : Int32) (x2 : Int32) (w : Ct) : Option ((Int32 × Ct) ⊕ (Ct)) :=
  if x1 ≤ x2 then (Option.map Sum.inr (f_X1_goBack_J46 w x1)) else (if (40 : Int32) ≤ x2 then (Option.map Sum.inr (f_X1_goBack_J46 w x1)) else (gd (inb x2 40) (gd (inb x2 40) (Option.bind (f_X4_act (ct_wheel w) ((ct_deeds w) (ix x2)) ((ct_doneTo w) (ix x2))) (fun q36 => some (Sum.inl ((x2 + (1 : Int32)), (ct_set_wheel w q36.2))))))))
def f_X1_goBack_L9 (x1 : Int32) (sg : Int32 × Ct) : Option ((Int32 × Ct) ⊕ (Ct)) := f_X1_goBack_B9 x1 sg.1 sg.2
def f_X1_goBack (w : Ct) (x1 : Int32) : Option (Ct) :=
  Option.bind (f_X4_start (ct_wheel w)) (fun q4 => lp (f_X1_goBack_L9 x1) fuel ((0 : Int32), (ct_set_wheel w q4)))
set_option maxRecDepth 100000 in
set_option maxHeartbeats 8000000 in
theorem c_X1_goBack (l : Launch) (G : GG) (a : Nat → Nat) (o : Nat) (w : Ct) (x1 : Int32) (out : Ct) (hf : f_X1_goBack w x1 = some out) : Cn l G 4 yX1_goBack cX1_goBack 3 (none) [.ref (a o), .int x1] (bCt G a o w) (none) (bCt G a o out) := by
  refine cn_start (by decide) (Nat.le_of_ble_eq_true rfl) ?_
  intro p e s m below meth c A ls C0 hW hl
  have hx := C0.1
  have hb := C0.2.1
  have hl : lv_has ls 3 [(0, .ref (a o)), (1, .int x1)] := hl
  have J46 : ∀ (w : Ct) (r : Ct), f_X1_goBack_J46 w x1 = some r → (fun (r : Ct) => r = out) r → ∀ (H : Heap) (locs : List Loc) (ls : Array Slot), Wd G A s.heap H (bCt G a o w) locs → lv_has ls 3 [(0, .ref (a o)), (1, .int x1)] → WW p l e 4 s m [.ref (a o), .int x1] below meth c G A (none) ((bCt G a o out)) H locs 46 ls [] := by
    intro w r hf hF H locs ls hW hl
    unfold f_X1_goBack_J46 at hf
    refine lv_aload_n hx hb dX1_goBack_46 rfl (lv_at hl 0 rfl) ?_
    refine lv_iload_n hx hb dX1_goBack_47 rfl (lv_at hl 1 rfl) ?_
    refine k_put C0 hW 1 3 0 rfl (by decide) inX1 tyX1_ok nmX1 mf_X1_32 rfl rfl rfl rfl (Nat.le_of_ble_eq_true rfl) dX1_goBack_48 (fun H locs hW => ?_)
    have hW : Wd G A s.heap H (bCt G a o (ct_set_done w x1)) locs := hW
    have e1 := Option.some.inj hf
    subst e1
    have hF : ((ct_set_done w x1) : Ct) = out := hF
    subst hF
    exact k_vret C0 hW dX1_goBack_51
  have L9 : ∀ (k8 : Nat) (sg : Int32 × Ct) (o9 : Ct), lp (f_X1_goBack_L9 x1) k8 sg = some o9 → (fun (r : Ct) => r = out) o9 → (fun (sg : Int32 × Ct) => ∀ (H : Heap) (locs : List Loc) (ls : Array Slot), Wd G A s.heap H (bCt G a o sg.2) locs → lv_has ls 3 [(0, .ref (a o)), (1, .int x1), (2, .int sg.1)] → WW p l e 4 s m [.ref (a o), .int x1] below meth c G A (none) ((bCt G a o out)) H locs 9 ls []) sg := by
    have B9 : ∀ (x2 : Int32) (w : Ct) (r : (Int32 × Ct) ⊕ (Ct)), f_X1_goBack_B9 x1 x2 w = some r → (Sum.elim (fun (sg : Int32 × Ct) => ∀ (H : Heap) (locs : List Loc) (ls : Array Slot), Wd G A s.heap H (bCt G a o sg.2) locs → lv_has ls 3 [(0, .ref (a o)), (1, .int x1), (2, .int sg.1)] → WW p l e 4 s m [.ref (a o), .int x1] below meth c G A (none) ((bCt G a o out)) H locs 9 ls []) (fun (r : Ct) => r = out)) r → ∀ (H : Heap) (locs : List Loc) (ls : Array Slot), Wd G A s.heap H (bCt G a o w) locs → lv_has ls 3 [(0, .ref (a o)), (1, .int x1), (2, .int x2)] → WW p l e 4 s m [.ref (a o), .int x1] below meth c G A (none) ((bCt G a o out)) H locs 9 ls [] := by
      intro x2 w r hf hF H locs ls hW hl
      unfold f_X1_goBack_B9 at hf
      refine lv_iload_n hx hb dX1_goBack_9 rfl (lv_at hl 2 rfl) ?_
      refine lv_iload_n hx hb dX1_goBack_10 rfl (lv_at hl 1 rfl) ?_
      refine lv_icmp_ge (tgt := 46) hx hb dX1_goBack_11 (by decide) (fun c11_1 => ?_) (fun c11_1 => ?_)
      · replace hf := if_t c11_1 hf
        obtain ⟨r2, e2⟩ := om_s hf
        replace hf := e2.1
        replace e2 := e2.2
        subst e2
        replace hF := elim_r hF
        exact J46 _ _ hf hF _ _ _ hW (lv_sub hl [0, 1] rfl)
      · replace hf := if_f c11_1 hf
        refine lv_iload_n hx hb dX1_goBack_14 rfl (lv_at hl 2 rfl) ?_
        refine lv_bipush (v := 40) hx hb dX1_goBack_15 (by decide) ?_
        refine lv_icmp_ge (tgt := 46) hx hb dX1_goBack_17 (by decide) (fun c17_2 => ?_) (fun c17_2 => ?_)
        · replace hf := if_t c17_2 hf
          obtain ⟨r2, e2⟩ := om_s hf
          replace hf := e2.1
          replace e2 := e2.2
          subst e2
          replace hF := elim_r hF
          exact J46 _ _ hf hF _ _ _ hW (lv_sub hl [0, 1] rfl)
        · replace hf := if_f c17_2 hf
          refine lv_aload_n hx hb dX1_goBack_20 rfl (lv_at hl 0 rfl) ?_
          refine k_get C0 hW 1 0 0 (v := .ref (a (o + 3))) rfl (by decide) inX1 mf_X1_12 rfl rfl dX1_goBack_21 ?_
          refine lv_aload_n hx hb dX1_goBack_24 rfl (lv_at hl 0 rfl) ?_
          refine k_get C0 hW 1 1 0 (v := .ref (a (o + 1))) rfl (by decide) inX1 mf_X1_18 rfl rfl dX1_goBack_25 ?_
          refine lv_iload_n hx hb dX1_goBack_28 rfl (lv_at hl 2 rfl) ?_
          have g29_3 := (gd_some hf).1; replace hf := (gd_some hf).2
          refine k_iald C0 hW 1 (ix x2) rfl (inb_in g29_3) rfl dX1_goBack_29 ?_
          refine lv_aload_n hx hb dX1_goBack_30 rfl (lv_at hl 0 rfl) ?_
          refine k_get C0 hW 1 2 0 (v := .ref (a (o + 2))) rfl (by decide) inX1 mf_X1_22 rfl rfl dX1_goBack_31 ?_
          refine lv_iload_n hx hb dX1_goBack_34 rfl (lv_at hl 2 rfl) ?_
          have g35_4 := (gd_some hf).1; replace hf := (gd_some hf).2
          refine k_iald C0 hW 2 (ix x2) rfl (inb_in g35_4) rfl dX1_goBack_35 ?_
          obtain ⟨q36, hq36⟩ := ob_s hf
          replace hf := hq36.2
          replace hq36 := hq36.1
          refine cV1 (rest := []) (ws1 := (bCt G a o (ct_set_wheel w q36.2))) (st1 := [.int q36.1]) C0 hW hl.1 (c_X4_act l G a (o + 3) (ct_wheel w) ((ct_deeds w) (ix x2)) ((ct_doneTo w) (ix x2)) _ hq36) cb_X4_act mm_X1_42 [3, 4, 5, 6, 7, 8] rfl rfl rfl 0 4 rfl rfl rfl (by decide) rfl rfl (Nat.le_of_ble_eq_true rfl) ⟨Nat.zero_le _, Nat.zero_le _⟩ dX1_goBack_36 rfl rfl (fun H locs hW => ?_)
          refine lv_pop hx hb dX1_goBack_39 rfl ?_
          refine lv_iinc (v := (x2 + (1 : Int32))) (lv' := [(2, .int (x2 + (1 : Int32))), (0, .ref (a o)), (1, .int x1)]) hx hb dX1_goBack_40 hl (k := 2) rfl rfl (by decide) rfl (fun ls hl => ?_)
          refine lv_goto (tgt := 9) hx hb dX1_goBack_43 (by decide) ?_
          have e1 := Option.some.inj hf
          subst e1
          exact (elim_l hF) _ _ _ hW (lv_sub hl [1, 2, 0] rfl)
    exact lp_sound (fun sg r hb hz => B9 sg.1 sg.2 r hb hz)
  obtain ⟨r, hr⟩ : ∃ r, f_X1_goBack w x1 = some r ∧ r = out := ⟨out, hf, rfl⟩
  replace hf := hr.1
  have hF := hr.2
  clear hr
  unfold f_X1_goBack at hf
  refine lv_aload_n hx hb dX1_goBack_0 rfl (lv_at hl 0 rfl) ?_
  refine k_get C0 hW 1 0 0 (v := .ref (a (o + 3))) rfl (by decide) inX1 mf_X1_12 rfl rfl dX1_goBack_1 ?_
  obtain ⟨q4, hq4⟩ := ob_s hf
  replace hf := hq4.2
  replace hq4 := hq4.1
  refine cV1 (rest := []) (ws1 := (bCt G a o (ct_set_wheel w q4))) (st1 := []) C0 hW hl.1 (c_X4_start l G a (o + 3) (ct_wheel w) _ hq4) cb_X4_start mm_X1_29 [3, 4, 5, 6, 7, 8] rfl rfl rfl 0 4 rfl rfl rfl (by decide) rfl rfl (Nat.le_of_ble_eq_true rfl) ⟨Nat.zero_le _, Nat.zero_le _⟩ dX1_goBack_4 rfl rfl (fun H locs hW => ?_)
  refine lv_iconst (v := 0) hx hb dX1_goBack_7 (by decide) ?_
  refine lv_istore_n (lv' := [(2, .int (0 : Int32)), (0, .ref (a o)), (1, .int x1)]) hx hb dX1_goBack_8 rfl hl (by decide) rfl (fun ls hl => ?_)
  exact L9  fuel ((0 : Int32), (ct_set_wheel w q4)) _ hf hF _ _ _ hW (lv_sub hl [1, 2, 0] rfl)

def f_X1_take (w : Ct) (w2 : Ct) : Option (Ct) :=
  Option.bind (f_X4_take (ct_wheel w) (ct_wheel w2)) (fun q8 => some (ct_set_done (ct_set_doneTo (ct_set_deeds (ct_set_wheel w q8) (acpy (ct_deeds w2) (ct_deeds w) (0 : Int32) (0 : Int32) (40 : Int32))) (acpy (ct_doneTo w2) (ct_doneTo w) (0 : Int32) (0 : Int32) (40 : Int32))) (ct_done w2)))
set_option maxRecDepth 100000 in
set_option maxHeartbeats 8000000 in
theorem c_X1_take (l : Launch) (G : GG) (a : Nat → Nat) (o : Nat) (b : Nat → Nat) (q : Nat) (w : Ct) (w2 : Ct) (out : Ct) (hf : f_X1_take w w2 = some out) : Cn l G 2 yX1_take cX1_take 2 (none) [.ref (a o), .ref (b q)] ((bCt G a o w) ++ (bCt G b q w2)) (none) ((bCt G a o out) ++ (bCt G b q w2)) := by
  refine cn_start (by decide) (Nat.le_of_ble_eq_true rfl) ?_
  intro p e s m below meth c A ls C0 hW hl
  have hx := C0.1
  have hb := C0.2.1
  have hl : lv_has ls 2 [(0, .ref (a o)), (1, .ref (b q))] := hl
  obtain ⟨r, hr⟩ : ∃ r, f_X1_take w w2 = some r ∧ r = out := ⟨out, hf, rfl⟩
  replace hf := hr.1
  have hF := hr.2
  clear hr
  unfold f_X1_take at hf
  refine lv_aload_n hx hb dX1_take_0 rfl (lv_at hl 0 rfl) ?_
  refine k_get C0 hW 1 0 0 (v := .ref (a (o + 3))) rfl (by decide) inX1 mf_X1_12 rfl rfl dX1_take_1 ?_
  refine lv_aload_n hx hb dX1_take_4 rfl (lv_at hl 1 rfl) ?_
  refine k_get C0 hW 1 0 9 (v := .ref (b (q + 3))) rfl (by decide) inX1 mf_X1_12 rfl rfl dX1_take_5 ?_
  obtain ⟨q8, hq8⟩ := ob_s hf
  replace hf := hq8.2
  replace hq8 := hq8.1
  refine cV1 (rest := []) (ws1 := ((bCt G a o (ct_set_wheel w q8)) ++ (bCt G b q w2))) (st1 := []) C0 hW hl.1 (c_X4_take l G a (o + 3) b (q + 3) (ct_wheel w) (ct_wheel w2) _ hq8) cb_X4_take mm_X1_25 [3, 4, 5, 6, 7, 8, 12, 13, 14, 15, 16, 17] rfl rfl rfl 0 4 rfl rfl rfl (by decide) rfl rfl (Nat.le_of_ble_eq_true rfl) ⟨Nat.zero_le _, Nat.zero_le _⟩ dX1_take_8 rfl rfl (fun H locs hW => ?_)
  refine lv_aload_n hx hb dX1_take_11 rfl (lv_at hl 1 rfl) ?_
  refine k_get C0 hW 1 1 9 (v := .ref (b (q + 1))) rfl (by decide) inX1 mf_X1_18 rfl rfl dX1_take_12 ?_
  refine lv_iconst (v := 0) hx hb dX1_take_15 (by decide) ?_
  refine lv_aload_n hx hb dX1_take_16 rfl (lv_at hl 0 rfl) ?_
  refine k_get C0 hW 1 1 0 (v := .ref (a (o + 1))) rfl (by decide) inX1 mf_X1_18 rfl rfl dX1_take_17 ?_
  refine lv_iconst (v := 0) hx hb dX1_take_20 (by decide) ?_
  refine lv_bipush (v := 40) hx hb dX1_take_21 (by decide) ?_
  refine k_copy C0 hW hl.1 mm_X1_36 (by decide) (Nat.le_of_ble_eq_true rfl) 10 1 rfl rfl (by decide) dX1_take_23 (fun H locs hW => ?_)
  have hW : Wd G A s.heap H ((bCt G a o (ct_set_deeds (ct_set_wheel w q8) (acpy (ct_deeds w2) (ct_deeds w) (0 : Int32) (0 : Int32) (40 : Int32)))) ++ (bCt G b q w2)) locs := hW
  refine lv_aload_n hx hb dX1_take_26 rfl (lv_at hl 1 rfl) ?_
  refine k_get C0 hW 1 2 9 (v := .ref (b (q + 2))) rfl (by decide) inX1 mf_X1_22 rfl rfl dX1_take_27 ?_
  refine lv_iconst (v := 0) hx hb dX1_take_30 (by decide) ?_
  refine lv_aload_n hx hb dX1_take_31 rfl (lv_at hl 0 rfl) ?_
  refine k_get C0 hW 1 2 0 (v := .ref (a (o + 2))) rfl (by decide) inX1 mf_X1_22 rfl rfl dX1_take_32 ?_
  refine lv_iconst (v := 0) hx hb dX1_take_35 (by decide) ?_
  refine lv_bipush (v := 40) hx hb dX1_take_36 (by decide) ?_
  refine k_copy C0 hW hl.1 mm_X1_36 (by decide) (Nat.le_of_ble_eq_true rfl) 11 2 rfl rfl (by decide) dX1_take_38 (fun H locs hW => ?_)
  have hW : Wd G A s.heap H ((bCt G a o (ct_set_doneTo (ct_set_deeds (ct_set_wheel w q8) (acpy (ct_deeds w2) (ct_deeds w) (0 : Int32) (0 : Int32) (40 : Int32))) (acpy (ct_doneTo w2) (ct_doneTo w) (0 : Int32) (0 : Int32) (40 : Int32)))) ++ (bCt G b q w2)) locs := hW
  refine lv_aload_n hx hb dX1_take_41 rfl (lv_at hl 0 rfl) ?_
  refine lv_aload_n hx hb dX1_take_42 rfl (lv_at hl 1 rfl) ?_
  refine k_get C0 hW 1 3 9 (v := .int (ct_done w2)) rfl (by decide) inX1 mf_X1_32 rfl rfl dX1_take_43 ?_
  refine k_put C0 hW 1 3 0 rfl (by decide) inX1 tyX1_ok nmX1 mf_X1_32 rfl rfl rfl rfl (Nat.le_of_ble_eq_true rfl) dX1_take_46 (fun H locs hW => ?_)
  have hW : Wd G A s.heap H ((bCt G a o (ct_set_done (ct_set_doneTo (ct_set_deeds (ct_set_wheel w q8) (acpy (ct_deeds w2) (ct_deeds w) (0 : Int32) (0 : Int32) (40 : Int32))) (acpy (ct_doneTo w2) (ct_doneTo w) (0 : Int32) (0 : Int32) (40 : Int32))) (ct_done w2))) ++ (bCt G b q w2)) locs := hW
  have e1 := Option.some.inj hf
  subst e1
  have hF : ((ct_set_done (ct_set_doneTo (ct_set_deeds (ct_set_wheel w q8) (acpy (ct_deeds w2) (ct_deeds w) (0 : Int32) (0 : Int32) (40 : Int32))) (acpy (ct_doneTo w2) (ct_doneTo w) (0 : Int32) (0 : Int32) (40 : Int32))) (ct_done w2)) : Ct) = out := hF
  subst hF
  exact k_vret C0 hW dX1_take_49

def f_X2_kindOf_B2 (x0 : Int32) (x1 : Int32) : Option ((Int32) ⊕ (Int32)) :=
  if (6 : Int32) ≤ x1 then (Option.map Sum.inr (some (-1 : Int32))) else (gd (inb x1 6) (if (lettersA (ix x1)) = x0 then (some (Sum.inr x1)) else (some (Sum.inl (x1 + (1 : Int32))))))
def f_X2_kindOf_L2 (x0 : Int32) (sg : Int32) : Option ((Int32) ⊕ (Int32)) := f_X2_kindOf_B2 x0 sg
def f_X2_kindOf (x0 : Int32) : Option (Int32) :=
  lp (f_X2_kindOf_L2 x0) fuel (0 : Int32)
set_option maxRecDepth 100000 in
set_option maxHeartbeats 8000000 in
theorem c_X2_kindOf (l : Launch) (G : GG) (x0 : Int32) (out : Int32) (hf : f_X2_kindOf x0 = some out) : Cn l G 0 yX2_kindOf cX2_kindOf 2 (some .int) [.int x0] ([] : va_W) (some (.int out)) ([] : va_W) := by
  refine cn_start (by decide) (Nat.le_of_ble_eq_true rfl) ?_
  intro p e s m below meth c A ls C0 hW hl
  have hx := C0.1
  have hb := C0.2.1
  have hl : lv_has ls 2 [(0, .int x0)] := hl
  have L2 : ∀ (k8 : Nat) (sg : Int32) (o9 : Int32), lp (f_X2_kindOf_L2 x0) k8 sg = some o9 → (fun (r : Int32) => r = out) o9 → (fun (sg : Int32) => ∀ (H : Heap) (locs : List Loc) (ls : Array Slot), Wd G A s.heap H ([] : va_W) locs → lv_has ls 2 [(0, .int x0), (1, .int sg)] → WW p l e 0 s m [.int x0] below meth c G A (some (.int out)) (([] : va_W)) H locs 2 ls []) sg := by
    have B2 : ∀ (x1 : Int32) (r : (Int32) ⊕ (Int32)), f_X2_kindOf_B2 x0 x1 = some r → (Sum.elim (fun (sg : Int32) => ∀ (H : Heap) (locs : List Loc) (ls : Array Slot), Wd G A s.heap H ([] : va_W) locs → lv_has ls 2 [(0, .int x0), (1, .int sg)] → WW p l e 0 s m [.int x0] below meth c G A (some (.int out)) (([] : va_W)) H locs 2 ls []) (fun (r : Int32) => r = out)) r → ∀ (H : Heap) (locs : List Loc) (ls : Array Slot), Wd G A s.heap H ([] : va_W) locs → lv_has ls 2 [(0, .int x0), (1, .int x1)] → WW p l e 0 s m [.int x0] below meth c G A (some (.int out)) (([] : va_W)) H locs 2 ls [] := by
      intro x1 r hf hF H locs ls hW hl
      unfold f_X2_kindOf_B2 at hf
      refine lv_iload_n hx hb dX2_kindOf_2 rfl (lv_at hl 1 rfl) ?_
      refine lv_bipush (v := 6) hx hb dX2_kindOf_3 (by decide) ?_
      refine lv_icmp_ge (tgt := 25) hx hb dX2_kindOf_5 (by decide) (fun c5_1 => ?_) (fun c5_1 => ?_)
      · replace hf := if_t c5_1 hf
        obtain ⟨r2, e2⟩ := om_s hf
        replace hf := e2.1
        replace e2 := e2.2
        subst e2
        replace hF := elim_r hF
        refine lv_iconst (v := -1) hx hb dX2_kindOf_25 (by decide) ?_
        have e1 := Option.some.inj hf
        subst e1
        have hF : ((-1 : Int32) : Int32) = out := hF
        subst hF
        exact k_iret C0 hW dX2_kindOf_26
      · replace hf := if_f c5_1 hf
        refine k_sletters C0 hW mn_X2_73 dX2_kindOf_8 ?_
        refine lv_iload_n hx hb dX2_kindOf_11 rfl (lv_at hl 1 rfl) ?_
        have g12_2 := (gd_some hf).1; replace hf := (gd_some hf).2
        refine k_aletters C0 hW (inb_in g12_2) dX2_kindOf_12 ?_
        refine lv_iload_n hx hb dX2_kindOf_13 rfl (lv_at hl 0 rfl) ?_
        refine lv_icmp_ne (tgt := 19) hx hb dX2_kindOf_14 (by decide) (fun c14_3 => ?_) (fun c14_3 => ?_)
        · replace hf := if_f c14_3 hf
          refine lv_iinc (v := (x1 + (1 : Int32))) (lv' := [(1, .int (x1 + (1 : Int32))), (0, .int x0)]) hx hb dX2_kindOf_19 hl (k := 1) rfl rfl (by decide) rfl (fun ls hl => ?_)
          refine lv_goto (tgt := 2) hx hb dX2_kindOf_22 (by decide) ?_
          have e1 := Option.some.inj hf
          subst e1
          exact (elim_l hF) _ _ _ hW (lv_sub hl [1, 0] rfl)
        · replace hf := if_t c14_3 hf
          refine lv_iload_n hx hb dX2_kindOf_17 rfl (lv_at hl 1 rfl) ?_
          have e1 := Option.some.inj hf
          subst e1
          have hF : (x1 : Int32) = out := hF
          subst hF
          exact k_iret C0 hW dX2_kindOf_18
    exact lp_sound (fun sg r hb hz => B2 sg r hb hz)
  obtain ⟨r, hr⟩ : ∃ r, f_X2_kindOf x0 = some r ∧ r = out := ⟨out, hf, rfl⟩
  replace hf := hr.1
  have hF := hr.2
  clear hr
  unfold f_X2_kindOf at hf
  refine lv_iconst (v := 0) hx hb dX2_kindOf_0 (by decide) ?_
  refine lv_istore_n (lv' := [(1, .int (0 : Int32)), (0, .int x0)]) hx hb dX2_kindOf_1 rfl hl (by decide) rfl (fun ls hl => ?_)
  exact L2  fuel (0 : Int32) _ hf hF _ _ _ hW (lv_sub hl [1, 0] rfl)

def f_X2_skipBlanks_B0 (w : Rd) : Option ((Rd) ⊕ (Rd)) :=
  if (rd_size w) ≤ (rd_place w) then (Option.map Sum.inr (some w)) else (gd (inb (rd_place w) 60) (if ((rd_signs w) (ix (rd_place w))) = (32 : Int32) then (some (Sum.inl (rd_set_place w ((rd_place w) + (1 : Int32))))) else (Option.map Sum.inr (some w))))
def f_X2_skipBlanks_L0 (sg : Rd) : Option ((Rd) ⊕ (Rd)) := f_X2_skipBlanks_B0 sg
def f_X2_skipBlanks (w : Rd) : Option (Rd) :=
  lp (f_X2_skipBlanks_L0) fuel w
set_option maxRecDepth 100000 in
set_option maxHeartbeats 8000000 in
theorem c_X2_skipBlanks (l : Launch) (G : GG) (a : Nat → Nat) (o : Nat) (w : Rd) (out : Rd) (hf : f_X2_skipBlanks w = some out) : Cn l G 0 yX2_skipBlanks cX2_skipBlanks 1 (none) [.ref (a o)] (bRd G a o w) (none) (bRd G a o out) := by
  refine cn_start (by decide) (Nat.le_of_ble_eq_true rfl) ?_
  intro p e s m below meth c A ls C0 hW hl
  have hx := C0.1
  have hb := C0.2.1
  have hl : lv_has ls 1 [(0, .ref (a o))] := hl
  have L0 : ∀ (k8 : Nat) (sg : Rd) (o9 : Rd), lp (f_X2_skipBlanks_L0) k8 sg = some o9 → (fun (r : Rd) => r = out) o9 → (fun (sg : Rd) => ∀ (H : Heap) (locs : List Loc) (ls : Array Slot), Wd G A s.heap H (bRd G a o sg) locs → lv_has ls 1 [(0, .ref (a o))] → WW p l e 0 s m [.ref (a o)] below meth c G A (none) ((bRd G a o out)) H locs 0 ls []) sg := by
    have B0 : ∀ (w : Rd) (r : (Rd) ⊕ (Rd)), f_X2_skipBlanks_B0 w = some r → (Sum.elim (fun (sg : Rd) => ∀ (H : Heap) (locs : List Loc) (ls : Array Slot), Wd G A s.heap H (bRd G a o sg) locs → lv_has ls 1 [(0, .ref (a o))] → WW p l e 0 s m [.ref (a o)] below meth c G A (none) ((bRd G a o out)) H locs 0 ls []) (fun (r : Rd) => r = out)) r → ∀ (H : Heap) (locs : List Loc) (ls : Array Slot), Wd G A s.heap H (bRd G a o w) locs → lv_has ls 1 [(0, .ref (a o))] → WW p l e 0 s m [.ref (a o)] below meth c G A (none) ((bRd G a o out)) H locs 0 ls [] := by
      intro w r hf hF H locs ls hW hl
      unfold f_X2_skipBlanks_B0 at hf
      refine lv_aload_n hx hb dX2_skipBlanks_0 rfl (lv_at hl 0 rfl) ?_
      refine k_get C0 hW 2 3 0 (v := .int (rd_place w)) rfl (by decide) inX2 mf_X2_32 rfl rfl dX2_skipBlanks_1 ?_
      refine lv_aload_n hx hb dX2_skipBlanks_4 rfl (lv_at hl 0 rfl) ?_
      refine k_get C0 hW 2 2 0 (v := .int (rd_size w)) rfl (by decide) inX2 mf_X2_28 rfl rfl dX2_skipBlanks_5 ?_
      refine lv_icmp_ge (tgt := 38) hx hb dX2_skipBlanks_8 (by decide) (fun c8_1 => ?_) (fun c8_1 => ?_)
      · replace hf := if_t c8_1 hf
        obtain ⟨r2, e2⟩ := om_s hf
        replace hf := e2.1
        replace e2 := e2.2
        subst e2
        replace hF := elim_r hF
        have e1 := Option.some.inj hf
        subst e1
        have hF : (w : Rd) = out := hF
        subst hF
        exact k_vret C0 hW dX2_skipBlanks_38
      · replace hf := if_f c8_1 hf
        refine lv_aload_n hx hb dX2_skipBlanks_11 rfl (lv_at hl 0 rfl) ?_
        refine k_get C0 hW 2 1 0 (v := .ref (a (o + 1))) rfl (by decide) inX2 mf_X2_18 rfl rfl dX2_skipBlanks_12 ?_
        refine lv_aload_n hx hb dX2_skipBlanks_15 rfl (lv_at hl 0 rfl) ?_
        refine k_get C0 hW 2 3 0 (v := .int (rd_place w)) rfl (by decide) inX2 mf_X2_32 rfl rfl dX2_skipBlanks_16 ?_
        have g19_2 := (gd_some hf).1; replace hf := (gd_some hf).2
        refine k_iald C0 hW 1 (ix (rd_place w)) rfl (inb_in g19_2) rfl dX2_skipBlanks_19 ?_
        refine lv_bipush (v := 32) hx hb dX2_skipBlanks_20 (by decide) ?_
        refine lv_icmp_ne (tgt := 38) hx hb dX2_skipBlanks_22 (by decide) (fun c22_3 => ?_) (fun c22_3 => ?_)
        · replace hf := if_f c22_3 hf
          obtain ⟨r2, e2⟩ := om_s hf
          replace hf := e2.1
          replace e2 := e2.2
          subst e2
          replace hF := elim_r hF
          have e1 := Option.some.inj hf
          subst e1
          have hF : (w : Rd) = out := hF
          subst hF
          exact k_vret C0 hW dX2_skipBlanks_38
        · replace hf := if_t c22_3 hf
          refine lv_aload_n hx hb dX2_skipBlanks_25 rfl (lv_at hl 0 rfl) ?_
          refine lv_dup hx hb dX2_skipBlanks_26 rfl ?_
          refine k_get C0 hW 2 3 0 (v := .int (rd_place w)) rfl (by decide) inX2 mf_X2_32 rfl rfl dX2_skipBlanks_27 ?_
          refine lv_iconst (v := 1) hx hb dX2_skipBlanks_30 (by decide) ?_
          refine lv_iadd hx hb dX2_skipBlanks_31 ?_
          refine k_put C0 hW 2 3 0 rfl (by decide) inX2 tyX2_ok nmX2 mf_X2_32 rfl rfl rfl rfl (Nat.le_of_ble_eq_true rfl) dX2_skipBlanks_32 (fun H locs hW => ?_)
          have hW : Wd G A s.heap H (bRd G a o (rd_set_place w ((rd_place w) + (1 : Int32)))) locs := hW
          refine lv_goto (tgt := 0) hx hb dX2_skipBlanks_35 (by decide) ?_
          have e1 := Option.some.inj hf
          subst e1
          exact (elim_l hF) _ _ _ hW (lv_sub hl [0] rfl)
    exact lp_sound (fun sg r hb hz => B0 sg r hb hz)
  obtain ⟨r, hr⟩ : ∃ r, f_X2_skipBlanks w = some r ∧ r = out := ⟨out, hf, rfl⟩
  replace hf := hr.1
  have hF := hr.2
  clear hr
  unfold f_X2_skipBlanks at hf
  exact L0  fuel w _ hf hF _ _ _ hW (lv_sub hl [0] rfl)

def f_X2_readFigure (w : Rd) (x1 : Int32) : Option (Int32 × Rd) :=
  if (rd_place w) < (rd_size w) then (gd (inb (rd_place w) 60) (nm (((rd_signs w) (ix (rd_place w))) - (48 : Int32)) (fun v25 => if v25 < x1 then (some ((-1 : Int32), w)) else (if v25 ≤ (9 : Int32) then (some (v25, (rd_set_place w ((rd_place w) + (1 : Int32))))) else (some ((-1 : Int32), w)))))) else (some ((-1 : Int32), w))
set_option maxRecDepth 100000 in
set_option maxHeartbeats 8000000 in
theorem c_X2_readFigure (l : Launch) (G : GG) (a : Nat → Nat) (o : Nat) (w : Rd) (x1 : Int32) (out : Int32 × Rd) (hf : f_X2_readFigure w x1 = some out) : Cn l G 0 yX2_readFigure cX2_readFigure 3 (some .int) [.ref (a o), .int x1] (bRd G a o w) (some (.int out.1)) (bRd G a o out.2) := by
  refine cn_start (by decide) (Nat.le_of_ble_eq_true rfl) ?_
  intro p e s m below meth c A ls C0 hW hl
  have hx := C0.1
  have hb := C0.2.1
  have hl : lv_has ls 3 [(0, .ref (a o)), (1, .int x1)] := hl
  obtain ⟨r, hr⟩ : ∃ r, f_X2_readFigure w x1 = some r ∧ r = out := ⟨out, hf, rfl⟩
  replace hf := hr.1
  have hF := hr.2
  clear hr
  unfold f_X2_readFigure at hf
  refine lv_aload_n hx hb dX2_readFigure_0 rfl (lv_at hl 0 rfl) ?_
  refine k_get C0 hW 2 3 0 (v := .int (rd_place w)) rfl (by decide) inX2 mf_X2_32 rfl rfl dX2_readFigure_1 ?_
  refine lv_aload_n hx hb dX2_readFigure_4 rfl (lv_at hl 0 rfl) ?_
  refine k_get C0 hW 2 2 0 (v := .int (rd_size w)) rfl (by decide) inX2 mf_X2_28 rfl rfl dX2_readFigure_5 ?_
  refine lv_icmp_lt (tgt := 13) hx hb dX2_readFigure_8 (by decide) (fun c8_1 => ?_) (fun c8_1 => ?_)
  · replace hf := if_t c8_1 hf
    refine lv_aload_n hx hb dX2_readFigure_13 rfl (lv_at hl 0 rfl) ?_
    refine k_get C0 hW 2 1 0 (v := .ref (a (o + 1))) rfl (by decide) inX2 mf_X2_18 rfl rfl dX2_readFigure_14 ?_
    refine lv_aload_n hx hb dX2_readFigure_17 rfl (lv_at hl 0 rfl) ?_
    refine k_get C0 hW 2 3 0 (v := .int (rd_place w)) rfl (by decide) inX2 mf_X2_32 rfl rfl dX2_readFigure_18 ?_
    have g21_2 := (gd_some hf).1; replace hf := (gd_some hf).2
    refine k_iald C0 hW 1 (ix (rd_place w)) rfl (inb_in g21_2) rfl dX2_readFigure_21 ?_
    refine lv_bipush (v := 48) hx hb dX2_readFigure_22 (by decide) ?_
    refine lv_isub hx hb dX2_readFigure_24 ?_
    refine lv_topi (fun v25 ev25 => ?_)
    replace hf := nm_s ev25 hf
    refine lv_istore_n (lv' := [(2, .int v25), (0, .ref (a o)), (1, .int x1)]) hx hb dX2_readFigure_25 rfl hl (by decide) rfl (fun ls hl => ?_)
    refine lv_iload_n hx hb dX2_readFigure_26 rfl (lv_at hl 0 rfl) ?_
    refine lv_iload_n hx hb dX2_readFigure_27 rfl (lv_at hl 2 rfl) ?_
    refine lv_icmp_lt (tgt := 37) hx hb dX2_readFigure_28 (by decide) (fun c28_4 => ?_) (fun c28_4 => ?_)
    · replace hf := if_t c28_4 hf
      refine lv_iconst (v := -1) hx hb dX2_readFigure_37 (by decide) ?_
      have e1 := Option.some.inj hf
      subst e1
      have hF : (((-1 : Int32), w) : Int32 × Rd) = out := hF
      subst hF
      exact k_iret C0 hW dX2_readFigure_38
    · replace hf := if_f c28_4 hf
      refine lv_iload_n hx hb dX2_readFigure_31 rfl (lv_at hl 0 rfl) ?_
      refine lv_bipush (v := 9) hx hb dX2_readFigure_32 (by decide) ?_
      refine lv_icmp_le (tgt := 39) hx hb dX2_readFigure_34 (by decide) (fun c34_5 => ?_) (fun c34_5 => ?_)
      · replace hf := if_t c34_5 hf
        refine lv_aload_n hx hb dX2_readFigure_39 rfl (lv_at hl 1 rfl) ?_
        refine lv_dup hx hb dX2_readFigure_40 rfl ?_
        refine k_get C0 hW 2 3 0 (v := .int (rd_place w)) rfl (by decide) inX2 mf_X2_32 rfl rfl dX2_readFigure_41 ?_
        refine lv_iconst (v := 1) hx hb dX2_readFigure_44 (by decide) ?_
        refine lv_iadd hx hb dX2_readFigure_45 ?_
        refine k_put C0 hW 2 3 0 rfl (by decide) inX2 tyX2_ok nmX2 mf_X2_32 rfl rfl rfl rfl (Nat.le_of_ble_eq_true rfl) dX2_readFigure_46 (fun H locs hW => ?_)
        have hW : Wd G A s.heap H (bRd G a o (rd_set_place w ((rd_place w) + (1 : Int32)))) locs := hW
        refine lv_iload_n hx hb dX2_readFigure_49 rfl (lv_at hl 0 rfl) ?_
        have e1 := Option.some.inj hf
        subst e1
        have hF : ((v25, (rd_set_place w ((rd_place w) + (1 : Int32)))) : Int32 × Rd) = out := hF
        subst hF
        exact k_iret C0 hW dX2_readFigure_50
      · replace hf := if_f c34_5 hf
        refine lv_iconst (v := -1) hx hb dX2_readFigure_37 (by decide) ?_
        have e1 := Option.some.inj hf
        subst e1
        have hF : (((-1 : Int32), w) : Int32 × Rd) = out := hF
        subst hF
        exact k_iret C0 hW dX2_readFigure_38
  · replace hf := if_f c8_1 hf
    refine lv_iconst (v := -1) hx hb dX2_readFigure_11 (by decide) ?_
    have e1 := Option.some.inj hf
    subst e1
    have hF : (((-1 : Int32), w) : Int32 × Rd) = out := hF
    subst hF
    exact k_iret C0 hW dX2_readFigure_12

def f_X2_readGate_J24 (w : Rd) (x1 : Int32) (x2 : Int32) (t0 : Int32) : Option (Int32 × Rd) :=
  if 0 ≤ t0 then (if (((10 : Int32) * x2) + t0) ≤ (60 : Int32) then (some ((1 : Int32), (rd_set_draft w (wh_set_gateRut (rd_draft w) (((10 : Int32) * x2) + t0))))) else (some ((0 : Int32), (rd_set_place (rd_set_draft w (wh_set_gateRut (rd_draft w) (((10 : Int32) * x2) + t0))) x1)))) else (some ((0 : Int32), w))
def f_X2_readGate (w : Rd) : Option (Int32 × Rd) :=
  Option.bind (f_X2_readFigure w (0 : Int32)) (fun q7 => if 0 ≤ q7.1 then (Option.bind (f_X2_readFigure q7.2 (0 : Int32)) (fun q21 => f_X2_readGate_J24 q21.2 (rd_place w) q7.1 q21.1)) else (f_X2_readGate_J24 q7.2 (rd_place w) q7.1 q7.1))
set_option maxRecDepth 100000 in
set_option maxHeartbeats 8000000 in
theorem c_X2_readGate (l : Launch) (G : GG) (a : Nat → Nat) (o : Nat) (w : Rd) (out : Int32 × Rd) (hf : f_X2_readGate w = some out) : Cn l G 1 yX2_readGate cX2_readGate 4 (some .boolean) [.ref (a o)] (bRd G a o w) (some (.int out.1)) (bRd G a o out.2) := by
  refine cn_start (by decide) (Nat.le_of_ble_eq_true rfl) ?_
  intro p e s m below meth c A ls C0 hW hl
  have hx := C0.1
  have hb := C0.2.1
  have hl : lv_has ls 4 [(0, .ref (a o))] := hl
  have J24 : ∀ (x1 : Int32) (x2 : Int32) (t0 : Int32) (w : Rd) (r : Int32 × Rd), f_X2_readGate_J24 w x1 x2 t0 = some r → (fun (r : Int32 × Rd) => r = out) r → ∀ (H : Heap) (locs : List Loc) (ls : Array Slot), Wd G A s.heap H (bRd G a o w) locs → lv_has ls 4 [(0, .ref (a o)), (1, .int x1), (2, .int x2)] → WW p l e 1 s m [.ref (a o)] below meth c G A (some (.int out.1)) ((bRd G a o out.2)) H locs 24 ls [.int t0] := by
    intro x1 x2 t0 w r hf hF H locs ls hW hl
    unfold f_X2_readGate_J24 at hf
    refine lv_istore_n (lv' := [(3, .int t0), (0, .ref (a o)), (1, .int x1), (2, .int x2)]) hx hb dX2_readGate_24 rfl hl (by decide) rfl (fun ls hl => ?_)
    refine lv_iload_n hx hb dX2_readGate_25 rfl (lv_at hl 0 rfl) ?_
    refine lv_if_ge (tgt := 31) hx hb dX2_readGate_26 (by decide) (fun c26_2 => ?_) (fun c26_2 => ?_)
    · replace hf := if_t c26_2 hf
      refine lv_aload_n hx hb dX2_readGate_31 rfl (lv_at hl 1 rfl) ?_
      refine k_get C0 hW 2 0 0 (v := .ref (a (o + 2))) rfl (by decide) inX2 mf_X2_12 rfl rfl dX2_readGate_32 ?_
      refine lv_bipush (v := 10) hx hb dX2_readGate_35 (by decide) ?_
      refine lv_iload_n hx hb dX2_readGate_37 rfl (lv_at hl 3 rfl) ?_
      refine lv_imul hx hb dX2_readGate_38 ?_
      refine lv_iload_n hx hb dX2_readGate_39 rfl (lv_at hl 0 rfl) ?_
      refine lv_iadd hx hb dX2_readGate_40 ?_
      refine k_put C0 hW 4 6 2 rfl (by decide) inX4 tyX4_ok nmX4 mf_X2_58 rfl rfl rfl rfl (Nat.le_of_ble_eq_true rfl) dX2_readGate_41 (fun H locs hW => ?_)
      have hW : Wd G A s.heap H (bRd G a o (rd_set_draft w (wh_set_gateRut (rd_draft w) (((10 : Int32) * x2) + t0)))) locs := hW
      refine lv_aload_n hx hb dX2_readGate_44 rfl (lv_at hl 1 rfl) ?_
      refine k_get C0 hW 2 0 0 (v := .ref (a (o + 2))) rfl (by decide) inX2 mf_X2_12 rfl rfl dX2_readGate_45 ?_
      refine k_get C0 hW 4 6 2 (v := .int (((10 : Int32) * x2) + t0)) rfl (by decide) inX4 mf_X2_58 rfl rfl dX2_readGate_48 ?_
      refine lv_bipush (v := 60) hx hb dX2_readGate_51 (by decide) ?_
      refine lv_icmp_le (tgt := 63) hx hb dX2_readGate_53 (by decide) (fun c53_3 => ?_) (fun c53_3 => ?_)
      · replace hf := if_t c53_3 hf
        refine lv_iconst (v := 1) hx hb dX2_readGate_63 (by decide) ?_
        have e1 := Option.some.inj hf
        subst e1
        have hF : (((1 : Int32), (rd_set_draft w (wh_set_gateRut (rd_draft w) (((10 : Int32) * x2) + t0)))) : Int32 × Rd) = out := hF
        subst hF
        exact k_zret C0 hW rfl dX2_readGate_64
      · replace hf := if_f c53_3 hf
        refine lv_aload_n hx hb dX2_readGate_56 rfl (lv_at hl 1 rfl) ?_
        refine lv_iload_n hx hb dX2_readGate_57 rfl (lv_at hl 2 rfl) ?_
        refine k_put C0 hW 2 3 0 rfl (by decide) inX2 tyX2_ok nmX2 mf_X2_32 rfl rfl rfl rfl (Nat.le_of_ble_eq_true rfl) dX2_readGate_58 (fun H locs hW => ?_)
        have hW : Wd G A s.heap H (bRd G a o (rd_set_place (rd_set_draft w (wh_set_gateRut (rd_draft w) (((10 : Int32) * x2) + t0))) x1)) locs := hW
        refine lv_iconst (v := 0) hx hb dX2_readGate_61 (by decide) ?_
        have e1 := Option.some.inj hf
        subst e1
        have hF : (((0 : Int32), (rd_set_place (rd_set_draft w (wh_set_gateRut (rd_draft w) (((10 : Int32) * x2) + t0))) x1)) : Int32 × Rd) = out := hF
        subst hF
        exact k_zret C0 hW rfl dX2_readGate_62
    · replace hf := if_f c26_2 hf
      refine lv_iconst (v := 0) hx hb dX2_readGate_29 (by decide) ?_
      have e1 := Option.some.inj hf
      subst e1
      have hF : (((0 : Int32), w) : Int32 × Rd) = out := hF
      subst hF
      exact k_zret C0 hW rfl dX2_readGate_30
  obtain ⟨r, hr⟩ : ∃ r, f_X2_readGate w = some r ∧ r = out := ⟨out, hf, rfl⟩
  replace hf := hr.1
  have hF := hr.2
  clear hr
  unfold f_X2_readGate at hf
  refine lv_aload_n hx hb dX2_readGate_0 rfl (lv_at hl 0 rfl) ?_
  refine k_get C0 hW 2 3 0 (v := .int (rd_place w)) rfl (by decide) inX2 mf_X2_32 rfl rfl dX2_readGate_1 ?_
  refine lv_istore_n (lv' := [(1, .int (rd_place w)), (0, .ref (a o))]) hx hb dX2_readGate_4 rfl hl (by decide) rfl (fun ls hl => ?_)
  refine lv_aload_n hx hb dX2_readGate_5 rfl (lv_at hl 1 rfl) ?_
  refine lv_iconst (v := 0) hx hb dX2_readGate_6 (by decide) ?_
  obtain ⟨q7, hq7⟩ := ob_s hf
  replace hf := hq7.2
  replace hq7 := hq7.1
  refine cW1 (rest := []) (ws1 := (bRd G a o q7.2)) (st1 := [.int q7.1]) C0 hW hl.1 (c_X2_readFigure l G a o w (0 : Int32) _ hq7) cb_X2_readFigure mm_X2_48 rfl 0 2 rfl rfl rfl (by decide) rfl rfl (Nat.le_of_ble_eq_true rfl) ⟨Nat.zero_le _, Nat.zero_le _⟩ dX2_readGate_7 rfl (fun H locs hW => ?_)
  refine lv_istore_n (lv' := [(2, .int q7.1), (1, .int (rd_place w)), (0, .ref (a o))]) hx hb dX2_readGate_10 rfl hl (by decide) rfl (fun ls hl => ?_)
  refine lv_iload_n hx hb dX2_readGate_11 rfl (lv_at hl 0 rfl) ?_
  refine lv_if_ge (tgt := 19) hx hb dX2_readGate_12 (by decide) (fun c12_1 => ?_) (fun c12_1 => ?_)
  · replace hf := if_t c12_1 hf
    refine lv_aload_n hx hb dX2_readGate_19 rfl (lv_at hl 2 rfl) ?_
    refine lv_iconst (v := 0) hx hb dX2_readGate_20 (by decide) ?_
    obtain ⟨q21, hq21⟩ := ob_s hf
    replace hf := hq21.2
    replace hq21 := hq21.1
    refine cW1 (rest := []) (ws1 := (bRd G a o q21.2)) (st1 := [.int q21.1]) C0 hW hl.1 (c_X2_readFigure l G a o q7.2 (0 : Int32) _ hq21) cb_X2_readFigure mm_X2_48 rfl 0 2 rfl rfl rfl (by decide) rfl rfl (Nat.le_of_ble_eq_true rfl) ⟨Nat.zero_le _, Nat.zero_le _⟩ dX2_readGate_21 rfl (fun H locs hW => ?_)
    exact J24 _ _ _ _ _ hf hF _ _ _ hW (lv_sub hl [2, 1, 0] rfl)
  · replace hf := if_f c12_1 hf
    refine lv_iload_n hx hb dX2_readGate_15 rfl (lv_at hl 0 rfl) ?_
    refine lv_goto (tgt := 24) hx hb dX2_readGate_16 (by decide) ?_
    exact J24 _ _ _ _ _ hf hF _ _ _ hW (lv_sub hl [2, 1, 0] rfl)

def f_X2_readRoad_J73 (w : Rd) : Option (Int32 × Rd) :=
  Option.bind (f_X2_readGate w) (fun q74 => gd (isB q74.1) (some (q74.1, q74.2)))
def f_X2_readRoad_B39 (x1 : Int32) (w : Rd) : Option ((Int32 × Rd) ⊕ (Int32 × Rd)) :=
  if (8 : Int32) ≤ x1 then (Option.map Sum.inr (f_X2_readRoad_J73 w)) else (Option.bind (f_X2_readFigure w (0 : Int32)) (fun q47 => if 0 ≤ q47.1 then (gd (inb x1 8) (some (Sum.inl ((x1 + (1 : Int32)), (rd_set_draft q47.2 (wh_set_depths (rd_draft q47.2) (upd (wh_depths (rd_draft q47.2)) (ix x1) q47.1))))))) else (some (Sum.inr ((0 : Int32), q47.2)))))
def f_X2_readRoad_L39 (sg : Int32 × Rd) : Option ((Int32 × Rd) ⊕ (Int32 × Rd)) := f_X2_readRoad_B39 sg.1 sg.2
def f_X2_readRoad (w : Rd) : Option (Int32 × Rd) :=
  if (rd_size w) ≤ (rd_place w) then (some ((0 : Int32), w)) else (gd (inb (rd_place w) 60) (if ((rd_signs w) (ix (rd_place w))) = (114 : Int32) then (lp (f_X2_readRoad_L39) fuel ((0 : Int32), (rd_set_place w ((rd_place w) + (1 : Int32))))) else (some ((0 : Int32), w))))
set_option maxRecDepth 100000 in
set_option maxHeartbeats 8000000 in
theorem c_X2_readRoad (l : Launch) (G : GG) (a : Nat → Nat) (o : Nat) (w : Rd) (out : Int32 × Rd) (hf : f_X2_readRoad w = some out) : Cn l G 2 yX2_readRoad cX2_readRoad 3 (some .boolean) [.ref (a o)] (bRd G a o w) (some (.int out.1)) (bRd G a o out.2) := by
  refine cn_start (by decide) (Nat.le_of_ble_eq_true rfl) ?_
  intro p e s m below meth c A ls C0 hW hl
  have hx := C0.1
  have hb := C0.2.1
  have hl : lv_has ls 3 [(0, .ref (a o))] := hl
  have J73 : ∀ (w : Rd) (r : Int32 × Rd), f_X2_readRoad_J73 w = some r → (fun (r : Int32 × Rd) => r = out) r → ∀ (H : Heap) (locs : List Loc) (ls : Array Slot), Wd G A s.heap H (bRd G a o w) locs → lv_has ls 3 [(0, .ref (a o))] → WW p l e 2 s m [.ref (a o)] below meth c G A (some (.int out.1)) ((bRd G a o out.2)) H locs 73 ls [] := by
    intro w r hf hF H locs ls hW hl
    unfold f_X2_readRoad_J73 at hf
    refine lv_aload_n hx hb dX2_readRoad_73 rfl (lv_at hl 0 rfl) ?_
    obtain ⟨q74, hq74⟩ := ob_s hf
    replace hf := hq74.2
    replace hq74 := hq74.1
    refine cW1 (rest := []) (ws1 := (bRd G a o q74.2)) (st1 := [.int q74.1]) C0 hW hl.1 (c_X2_readGate l G a o w _ hq74) cb_X2_readGate mm_X2_55 rfl 0 2 rfl rfl rfl (by decide) rfl rfl (Nat.le_of_ble_eq_true rfl) ⟨Nat.zero_le _, Nat.zero_le _⟩ dX2_readRoad_74 rfl (fun H locs hW => ?_)
    have g77_5 := (gd_some hf).1; replace hf := (gd_some hf).2
    have e1 := Option.some.inj hf
    subst e1
    have hF : ((q74.1, q74.2) : Int32 × Rd) = out := hF
    subst hF
    exact k_zret C0 hW g77_5 dX2_readRoad_77
  have L39 : ∀ (k8 : Nat) (sg : Int32 × Rd) (o9 : Int32 × Rd), lp (f_X2_readRoad_L39) k8 sg = some o9 → (fun (r : Int32 × Rd) => r = out) o9 → (fun (sg : Int32 × Rd) => ∀ (H : Heap) (locs : List Loc) (ls : Array Slot), Wd G A s.heap H (bRd G a o sg.2) locs → lv_has ls 3 [(0, .ref (a o)), (1, .int sg.1)] → WW p l e 2 s m [.ref (a o)] below meth c G A (some (.int out.1)) ((bRd G a o out.2)) H locs 39 ls []) sg := by
    have B39 : ∀ (x1 : Int32) (w : Rd) (r : (Int32 × Rd) ⊕ (Int32 × Rd)), f_X2_readRoad_B39 x1 w = some r → (Sum.elim (fun (sg : Int32 × Rd) => ∀ (H : Heap) (locs : List Loc) (ls : Array Slot), Wd G A s.heap H (bRd G a o sg.2) locs → lv_has ls 3 [(0, .ref (a o)), (1, .int sg.1)] → WW p l e 2 s m [.ref (a o)] below meth c G A (some (.int out.1)) ((bRd G a o out.2)) H locs 39 ls []) (fun (r : Int32 × Rd) => r = out)) r → ∀ (H : Heap) (locs : List Loc) (ls : Array Slot), Wd G A s.heap H (bRd G a o w) locs → lv_has ls 3 [(0, .ref (a o)), (1, .int x1)] → WW p l e 2 s m [.ref (a o)] below meth c G A (some (.int out.1)) ((bRd G a o out.2)) H locs 39 ls [] := by
      intro x1 w r hf hF H locs ls hW hl
      unfold f_X2_readRoad_B39 at hf
      refine lv_iload_n hx hb dX2_readRoad_39 rfl (lv_at hl 1 rfl) ?_
      refine lv_bipush (v := 8) hx hb dX2_readRoad_40 (by decide) ?_
      refine lv_icmp_ge (tgt := 73) hx hb dX2_readRoad_42 (by decide) (fun c42_4 => ?_) (fun c42_4 => ?_)
      · replace hf := if_t c42_4 hf
        obtain ⟨r2, e2⟩ := om_s hf
        replace hf := e2.1
        replace e2 := e2.2
        subst e2
        replace hF := elim_r hF
        exact J73 _ _ hf hF _ _ _ hW (lv_sub hl [0] rfl)
      · replace hf := if_f c42_4 hf
        refine lv_aload_n hx hb dX2_readRoad_45 rfl (lv_at hl 0 rfl) ?_
        refine lv_iconst (v := 0) hx hb dX2_readRoad_46 (by decide) ?_
        obtain ⟨q47, hq47⟩ := ob_s hf
        replace hf := hq47.2
        replace hq47 := hq47.1
        refine cW1 (rest := []) (ws1 := (bRd G a o q47.2)) (st1 := [.int q47.1]) C0 hW hl.1 (c_X2_readFigure l G a o w (0 : Int32) _ hq47) cb_X2_readFigure mm_X2_48 rfl 0 2 rfl rfl rfl (by decide) rfl rfl (Nat.le_of_ble_eq_true rfl) ⟨Nat.zero_le _, Nat.zero_le _⟩ dX2_readRoad_47 rfl (fun H locs hW => ?_)
        refine lv_istore_n (lv' := [(2, .int q47.1), (0, .ref (a o)), (1, .int x1)]) hx hb dX2_readRoad_50 rfl hl (by decide) rfl (fun ls hl => ?_)
        refine lv_iload_n hx hb dX2_readRoad_51 rfl (lv_at hl 0 rfl) ?_
        refine lv_if_ge (tgt := 57) hx hb dX2_readRoad_52 (by decide) (fun c52_6 => ?_) (fun c52_6 => ?_)
        · replace hf := if_t c52_6 hf
          refine lv_aload_n hx hb dX2_readRoad_57 rfl (lv_at hl 1 rfl) ?_
          refine k_get C0 hW 2 0 0 (v := .ref (a (o + 2))) rfl (by decide) inX2 mf_X2_12 rfl rfl dX2_readRoad_58 ?_
          refine k_get C0 hW 4 0 2 (v := .ref (a (o + 3))) rfl (by decide) inX4 mf_X2_52 rfl rfl dX2_readRoad_61 ?_
          refine lv_iload_n hx hb dX2_readRoad_64 rfl (lv_at hl 2 rfl) ?_
          refine lv_iload_n hx hb dX2_readRoad_65 rfl (lv_at hl 0 rfl) ?_
          have g66_7 := (gd_some hf).1; replace hf := (gd_some hf).2
          refine k_iast C0 hW 3 (ix x1) rfl (inb_in g66_7) rfl dX2_readRoad_66 (fun H locs hW => ?_)
          have hW : Wd G A s.heap H (bRd G a o (rd_set_draft q47.2 (wh_set_depths (rd_draft q47.2) (upd (wh_depths (rd_draft q47.2)) (ix x1) q47.1)))) locs := hW
          refine lv_iinc (v := (x1 + (1 : Int32))) (lv' := [(1, .int (x1 + (1 : Int32))), (2, .int q47.1), (0, .ref (a o))]) hx hb dX2_readRoad_67 hl (k := 2) rfl rfl (by decide) rfl (fun ls hl => ?_)
          refine lv_goto (tgt := 39) hx hb dX2_readRoad_70 (by decide) ?_
          have e1 := Option.some.inj hf
          subst e1
          exact (elim_l hF) _ _ _ hW (lv_sub hl [2, 0] rfl)
        · replace hf := if_f c52_6 hf
          refine lv_iconst (v := 0) hx hb dX2_readRoad_55 (by decide) ?_
          have e1 := Option.some.inj hf
          subst e1
          have hF : (((0 : Int32), q47.2) : Int32 × Rd) = out := hF
          subst hF
          exact k_zret C0 hW rfl dX2_readRoad_56
    exact lp_sound (fun sg r hb hz => B39 sg.1 sg.2 r hb hz)
  obtain ⟨r, hr⟩ : ∃ r, f_X2_readRoad w = some r ∧ r = out := ⟨out, hf, rfl⟩
  replace hf := hr.1
  have hF := hr.2
  clear hr
  unfold f_X2_readRoad at hf
  refine lv_aload_n hx hb dX2_readRoad_0 rfl (lv_at hl 0 rfl) ?_
  refine k_get C0 hW 2 3 0 (v := .int (rd_place w)) rfl (by decide) inX2 mf_X2_32 rfl rfl dX2_readRoad_1 ?_
  refine lv_aload_n hx hb dX2_readRoad_4 rfl (lv_at hl 0 rfl) ?_
  refine k_get C0 hW 2 2 0 (v := .int (rd_size w)) rfl (by decide) inX2 mf_X2_28 rfl rfl dX2_readRoad_5 ?_
  refine lv_icmp_ge (tgt := 25) hx hb dX2_readRoad_8 (by decide) (fun c8_1 => ?_) (fun c8_1 => ?_)
  · replace hf := if_t c8_1 hf
    refine lv_iconst (v := 0) hx hb dX2_readRoad_25 (by decide) ?_
    have e1 := Option.some.inj hf
    subst e1
    have hF : (((0 : Int32), w) : Int32 × Rd) = out := hF
    subst hF
    exact k_zret C0 hW rfl dX2_readRoad_26
  · replace hf := if_f c8_1 hf
    refine lv_aload_n hx hb dX2_readRoad_11 rfl (lv_at hl 0 rfl) ?_
    refine k_get C0 hW 2 1 0 (v := .ref (a (o + 1))) rfl (by decide) inX2 mf_X2_18 rfl rfl dX2_readRoad_12 ?_
    refine lv_aload_n hx hb dX2_readRoad_15 rfl (lv_at hl 0 rfl) ?_
    refine k_get C0 hW 2 3 0 (v := .int (rd_place w)) rfl (by decide) inX2 mf_X2_32 rfl rfl dX2_readRoad_16 ?_
    have g19_2 := (gd_some hf).1; replace hf := (gd_some hf).2
    refine k_iald C0 hW 1 (ix (rd_place w)) rfl (inb_in g19_2) rfl dX2_readRoad_19 ?_
    refine lv_bipush (v := 114) hx hb dX2_readRoad_20 (by decide) ?_
    refine lv_icmp_eq (tgt := 27) hx hb dX2_readRoad_22 (by decide) (fun c22_3 => ?_) (fun c22_3 => ?_)
    · replace hf := if_t c22_3 hf
      refine lv_aload_n hx hb dX2_readRoad_27 rfl (lv_at hl 0 rfl) ?_
      refine lv_dup hx hb dX2_readRoad_28 rfl ?_
      refine k_get C0 hW 2 3 0 (v := .int (rd_place w)) rfl (by decide) inX2 mf_X2_32 rfl rfl dX2_readRoad_29 ?_
      refine lv_iconst (v := 1) hx hb dX2_readRoad_32 (by decide) ?_
      refine lv_iadd hx hb dX2_readRoad_33 ?_
      refine k_put C0 hW 2 3 0 rfl (by decide) inX2 tyX2_ok nmX2 mf_X2_32 rfl rfl rfl rfl (Nat.le_of_ble_eq_true rfl) dX2_readRoad_34 (fun H locs hW => ?_)
      have hW : Wd G A s.heap H (bRd G a o (rd_set_place w ((rd_place w) + (1 : Int32)))) locs := hW
      refine lv_iconst (v := 0) hx hb dX2_readRoad_37 (by decide) ?_
      refine lv_istore_n (lv' := [(1, .int (0 : Int32)), (0, .ref (a o))]) hx hb dX2_readRoad_38 rfl hl (by decide) rfl (fun ls hl => ?_)
      exact L39  fuel ((0 : Int32), (rd_set_place w ((rd_place w) + (1 : Int32)))) _ hf hF _ _ _ hW (lv_sub hl [1, 0] rfl)
    · replace hf := if_f c22_3 hf
      refine lv_iconst (v := 0) hx hb dX2_readRoad_25 (by decide) ?_
      have e1 := Option.some.inj hf
      subst e1
      have hF : (((0 : Int32), w) : Int32 × Rd) = out := hF
      subst hF
      exact k_zret C0 hW rfl dX2_readRoad_26

def f_X2_readSpoke_J62 (w : Rd) (x1 : Int32) (x2 : Int32) (x3 : Int32) (t0 : Int32) : Option (Int32 × Rd) :=
  if 0 ≤ t0 then (gd (inb x1 8) (gd (inb x1 8) (gd (inb x1 8) (some ((1 : Int32), (rd_set_draft w (wh_set_spokes (wh_set_strong (wh_set_length (wh_set_kind (rd_draft w) (upd (wh_kind (rd_draft w)) (ix x1) x2)) (upd (wh_length (rd_draft w)) (ix x1) x3)) (upd (wh_strong (rd_draft w)) (ix x1) t0)) (x1 + (1 : Int32))))))))) else (some ((0 : Int32), w))
def f_X2_readSpoke (w : Rd) : Option (Int32 × Rd) :=
  gd (inb (rd_place w) 60) (Option.bind (f_X2_kindOf ((rd_signs w) (ix (rd_place w)))) (fun q17 => if (8 : Int32) ≤ (wh_spokes (rd_draft w)) then (some ((0 : Int32), w)) else (if 0 ≤ q17 then (Option.bind (f_X2_readFigure (rd_set_place w ((rd_place w) + (1 : Int32))) (1 : Int32)) (fun q45 => if 0 ≤ q45.1 then (Option.bind (f_X2_readFigure q45.2 (0 : Int32)) (fun q59 => f_X2_readSpoke_J62 q59.2 (wh_spokes (rd_draft w)) q17 q45.1 q59.1)) else (f_X2_readSpoke_J62 q45.2 (wh_spokes (rd_draft w)) q17 q45.1 q45.1))) else (some ((0 : Int32), w)))))
set_option maxRecDepth 100000 in
set_option maxHeartbeats 8000000 in
theorem c_X2_readSpoke (l : Launch) (G : GG) (a : Nat → Nat) (o : Nat) (w : Rd) (out : Int32 × Rd) (hf : f_X2_readSpoke w = some out) : Cn l G 1 yX2_readSpoke cX2_readSpoke 5 (some .boolean) [.ref (a o)] (bRd G a o w) (some (.int out.1)) (bRd G a o out.2) := by
  refine cn_start (by decide) (Nat.le_of_ble_eq_true rfl) ?_
  intro p e s m below meth c A ls C0 hW hl
  have hx := C0.1
  have hb := C0.2.1
  have hl : lv_has ls 5 [(0, .ref (a o))] := hl
  have J62 : ∀ (x1 : Int32) (x2 : Int32) (x3 : Int32) (t0 : Int32) (w : Rd) (r : Int32 × Rd), f_X2_readSpoke_J62 w x1 x2 x3 t0 = some r → (fun (r : Int32 × Rd) => r = out) r → ∀ (H : Heap) (locs : List Loc) (ls : Array Slot), Wd G A s.heap H (bRd G a o w) locs → lv_has ls 5 [(0, .ref (a o)), (1, .int x1), (2, .int x2), (3, .int x3)] → WW p l e 1 s m [.ref (a o)] below meth c G A (some (.int out.1)) ((bRd G a o out.2)) H locs 62 ls [.int t0] := by
    intro x1 x2 x3 t0 w r hf hF H locs ls hW hl
    unfold f_X2_readSpoke_J62 at hf
    refine lv_istore (lv' := [(4, .int t0), (0, .ref (a o)), (1, .int x1), (2, .int x2), (3, .int x3)]) hx hb dX2_readSpoke_62 hl (by decide) rfl (fun ls hl => ?_)
    refine lv_iload hx hb dX2_readSpoke_64 (lv_at hl 0 rfl) ?_
    refine lv_if_ge (tgt := 71) hx hb dX2_readSpoke_66 (by decide) (fun c66_5 => ?_) (fun c66_5 => ?_)
    · replace hf := if_t c66_5 hf
      refine lv_aload_n hx hb dX2_readSpoke_71 rfl (lv_at hl 1 rfl) ?_
      refine k_get C0 hW 2 0 0 (v := .ref (a (o + 2))) rfl (by decide) inX2 mf_X2_12 rfl rfl dX2_readSpoke_72 ?_
      refine k_get C0 hW 4 1 2 (v := .ref (a (o + 4))) rfl (by decide) inX4 mf_X2_64 rfl rfl dX2_readSpoke_75 ?_
      refine lv_iload_n hx hb dX2_readSpoke_78 rfl (lv_at hl 2 rfl) ?_
      refine lv_iload_n hx hb dX2_readSpoke_79 rfl (lv_at hl 3 rfl) ?_
      have g80_6 := (gd_some hf).1; replace hf := (gd_some hf).2
      refine k_iast C0 hW 4 (ix x1) rfl (inb_in g80_6) rfl dX2_readSpoke_80 (fun H locs hW => ?_)
      have hW : Wd G A s.heap H (bRd G a o (rd_set_draft w (wh_set_kind (rd_draft w) (upd (wh_kind (rd_draft w)) (ix x1) x2)))) locs := hW
      refine lv_aload_n hx hb dX2_readSpoke_81 rfl (lv_at hl 1 rfl) ?_
      refine k_get C0 hW 2 0 0 (v := .ref (a (o + 2))) rfl (by decide) inX2 mf_X2_12 rfl rfl dX2_readSpoke_82 ?_
      refine k_get C0 hW 4 2 2 (v := .ref (a (o + 5))) rfl (by decide) inX4 mf_X2_67 rfl rfl dX2_readSpoke_85 ?_
      refine lv_iload_n hx hb dX2_readSpoke_88 rfl (lv_at hl 2 rfl) ?_
      refine lv_iload_n hx hb dX2_readSpoke_89 rfl (lv_at hl 4 rfl) ?_
      have g90_7 := (gd_some hf).1; replace hf := (gd_some hf).2
      refine k_iast C0 hW 5 (ix x1) rfl (inb_in g90_7) rfl dX2_readSpoke_90 (fun H locs hW => ?_)
      have hW : Wd G A s.heap H (bRd G a o (rd_set_draft w (wh_set_length (wh_set_kind (rd_draft w) (upd (wh_kind (rd_draft w)) (ix x1) x2)) (upd (wh_length (rd_draft w)) (ix x1) x3)))) locs := hW
      refine lv_aload_n hx hb dX2_readSpoke_91 rfl (lv_at hl 1 rfl) ?_
      refine k_get C0 hW 2 0 0 (v := .ref (a (o + 2))) rfl (by decide) inX2 mf_X2_12 rfl rfl dX2_readSpoke_92 ?_
      refine k_get C0 hW 4 3 2 (v := .ref (a (o + 6))) rfl (by decide) inX4 mf_X2_70 rfl rfl dX2_readSpoke_95 ?_
      refine lv_iload_n hx hb dX2_readSpoke_98 rfl (lv_at hl 2 rfl) ?_
      refine lv_iload hx hb dX2_readSpoke_99 (lv_at hl 0 rfl) ?_
      have g101_8 := (gd_some hf).1; replace hf := (gd_some hf).2
      refine k_iast C0 hW 6 (ix x1) rfl (inb_in g101_8) rfl dX2_readSpoke_101 (fun H locs hW => ?_)
      have hW : Wd G A s.heap H (bRd G a o (rd_set_draft w (wh_set_strong (wh_set_length (wh_set_kind (rd_draft w) (upd (wh_kind (rd_draft w)) (ix x1) x2)) (upd (wh_length (rd_draft w)) (ix x1) x3)) (upd (wh_strong (rd_draft w)) (ix x1) t0)))) locs := hW
      refine lv_aload_n hx hb dX2_readSpoke_102 rfl (lv_at hl 1 rfl) ?_
      refine k_get C0 hW 2 0 0 (v := .ref (a (o + 2))) rfl (by decide) inX2 mf_X2_12 rfl rfl dX2_readSpoke_103 ?_
      refine lv_iload_n hx hb dX2_readSpoke_106 rfl (lv_at hl 2 rfl) ?_
      refine lv_iconst (v := 1) hx hb dX2_readSpoke_107 (by decide) ?_
      refine lv_iadd hx hb dX2_readSpoke_108 ?_
      refine k_put C0 hW 4 5 2 rfl (by decide) inX4 tyX4_ok nmX4 mf_X2_35 rfl rfl rfl rfl (Nat.le_of_ble_eq_true rfl) dX2_readSpoke_109 (fun H locs hW => ?_)
      have hW : Wd G A s.heap H (bRd G a o (rd_set_draft w (wh_set_spokes (wh_set_strong (wh_set_length (wh_set_kind (rd_draft w) (upd (wh_kind (rd_draft w)) (ix x1) x2)) (upd (wh_length (rd_draft w)) (ix x1) x3)) (upd (wh_strong (rd_draft w)) (ix x1) t0)) (x1 + (1 : Int32))))) locs := hW
      refine lv_iconst (v := 1) hx hb dX2_readSpoke_112 (by decide) ?_
      have e1 := Option.some.inj hf
      subst e1
      have hF : (((1 : Int32), (rd_set_draft w (wh_set_spokes (wh_set_strong (wh_set_length (wh_set_kind (rd_draft w) (upd (wh_kind (rd_draft w)) (ix x1) x2)) (upd (wh_length (rd_draft w)) (ix x1) x3)) (upd (wh_strong (rd_draft w)) (ix x1) t0)) (x1 + (1 : Int32))))) : Int32 × Rd) = out := hF
      subst hF
      exact k_zret C0 hW rfl dX2_readSpoke_113
    · replace hf := if_f c66_5 hf
      refine lv_iconst (v := 0) hx hb dX2_readSpoke_69 (by decide) ?_
      have e1 := Option.some.inj hf
      subst e1
      have hF : (((0 : Int32), w) : Int32 × Rd) = out := hF
      subst hF
      exact k_zret C0 hW rfl dX2_readSpoke_70
  obtain ⟨r, hr⟩ : ∃ r, f_X2_readSpoke w = some r ∧ r = out := ⟨out, hf, rfl⟩
  replace hf := hr.1
  have hF := hr.2
  clear hr
  unfold f_X2_readSpoke at hf
  refine lv_aload_n hx hb dX2_readSpoke_0 rfl (lv_at hl 0 rfl) ?_
  refine k_get C0 hW 2 0 0 (v := .ref (a (o + 2))) rfl (by decide) inX2 mf_X2_12 rfl rfl dX2_readSpoke_1 ?_
  refine k_get C0 hW 4 5 2 (v := .int (wh_spokes (rd_draft w))) rfl (by decide) inX4 mf_X2_35 rfl rfl dX2_readSpoke_4 ?_
  refine lv_istore_n (lv' := [(1, .int (wh_spokes (rd_draft w))), (0, .ref (a o))]) hx hb dX2_readSpoke_7 rfl hl (by decide) rfl (fun ls hl => ?_)
  refine lv_aload_n hx hb dX2_readSpoke_8 rfl (lv_at hl 1 rfl) ?_
  refine k_get C0 hW 2 1 0 (v := .ref (a (o + 1))) rfl (by decide) inX2 mf_X2_18 rfl rfl dX2_readSpoke_9 ?_
  refine lv_aload_n hx hb dX2_readSpoke_12 rfl (lv_at hl 1 rfl) ?_
  refine k_get C0 hW 2 3 0 (v := .int (rd_place w)) rfl (by decide) inX2 mf_X2_32 rfl rfl dX2_readSpoke_13 ?_
  have g16_1 := (gd_some hf).1; replace hf := (gd_some hf).2
  refine k_iald C0 hW 1 (ix (rd_place w)) rfl (inb_in g16_1) rfl dX2_readSpoke_16 ?_
  obtain ⟨q17, hq17⟩ := ob_s hf
  replace hf := hq17.2
  replace hq17 := hq17.1
  refine cS0 (rest := []) (st1 := [.int q17]) C0 hW hl.1 (c_X2_kindOf l G ((rd_signs w) (ix (rd_place w))) _ hq17) cb_X2_kindOf mm_X2_61 [] rfl rfl (by decide) rfl rfl (Nat.le_of_ble_eq_true rfl) ⟨Nat.zero_le _, Nat.zero_le _⟩ dX2_readSpoke_17 rfl (fun H locs hW => ?_)
  refine lv_istore_n (lv' := [(2, .int q17), (1, .int (wh_spokes (rd_draft w))), (0, .ref (a o))]) hx hb dX2_readSpoke_20 rfl hl (by decide) rfl (fun ls hl => ?_)
  refine lv_iload_n hx hb dX2_readSpoke_21 rfl (lv_at hl 1 rfl) ?_
  refine lv_bipush (v := 8) hx hb dX2_readSpoke_22 (by decide) ?_
  refine lv_icmp_ge (tgt := 31) hx hb dX2_readSpoke_24 (by decide) (fun c24_2 => ?_) (fun c24_2 => ?_)
  · replace hf := if_t c24_2 hf
    refine lv_iconst (v := 0) hx hb dX2_readSpoke_31 (by decide) ?_
    have e1 := Option.some.inj hf
    subst e1
    have hF : (((0 : Int32), w) : Int32 × Rd) = out := hF
    subst hF
    exact k_zret C0 hW rfl dX2_readSpoke_32
  · replace hf := if_f c24_2 hf
    refine lv_iload_n hx hb dX2_readSpoke_27 rfl (lv_at hl 0 rfl) ?_
    refine lv_if_ge (tgt := 33) hx hb dX2_readSpoke_28 (by decide) (fun c28_3 => ?_) (fun c28_3 => ?_)
    · replace hf := if_t c28_3 hf
      refine lv_aload_n hx hb dX2_readSpoke_33 rfl (lv_at hl 2 rfl) ?_
      refine lv_dup hx hb dX2_readSpoke_34 rfl ?_
      refine k_get C0 hW 2 3 0 (v := .int (rd_place w)) rfl (by decide) inX2 mf_X2_32 rfl rfl dX2_readSpoke_35 ?_
      refine lv_iconst (v := 1) hx hb dX2_readSpoke_38 (by decide) ?_
      refine lv_iadd hx hb dX2_readSpoke_39 ?_
      refine k_put C0 hW 2 3 0 rfl (by decide) inX2 tyX2_ok nmX2 mf_X2_32 rfl rfl rfl rfl (Nat.le_of_ble_eq_true rfl) dX2_readSpoke_40 (fun H locs hW => ?_)
      have hW : Wd G A s.heap H (bRd G a o (rd_set_place w ((rd_place w) + (1 : Int32)))) locs := hW
      refine lv_aload_n hx hb dX2_readSpoke_43 rfl (lv_at hl 2 rfl) ?_
      refine lv_iconst (v := 1) hx hb dX2_readSpoke_44 (by decide) ?_
      obtain ⟨q45, hq45⟩ := ob_s hf
      replace hf := hq45.2
      replace hq45 := hq45.1
      refine cW1 (rest := []) (ws1 := (bRd G a o q45.2)) (st1 := [.int q45.1]) C0 hW hl.1 (c_X2_readFigure l G a o (rd_set_place w ((rd_place w) + (1 : Int32))) (1 : Int32) _ hq45) cb_X2_readFigure mm_X2_48 rfl 0 2 rfl rfl rfl (by decide) rfl rfl (Nat.le_of_ble_eq_true rfl) ⟨Nat.zero_le _, Nat.zero_le _⟩ dX2_readSpoke_45 rfl (fun H locs hW => ?_)
      refine lv_istore_n (lv' := [(3, .int q45.1), (2, .int q17), (1, .int (wh_spokes (rd_draft w))), (0, .ref (a o))]) hx hb dX2_readSpoke_48 rfl hl (by decide) rfl (fun ls hl => ?_)
      refine lv_iload_n hx hb dX2_readSpoke_49 rfl (lv_at hl 0 rfl) ?_
      refine lv_if_ge (tgt := 57) hx hb dX2_readSpoke_50 (by decide) (fun c50_4 => ?_) (fun c50_4 => ?_)
      · replace hf := if_t c50_4 hf
        refine lv_aload_n hx hb dX2_readSpoke_57 rfl (lv_at hl 3 rfl) ?_
        refine lv_iconst (v := 0) hx hb dX2_readSpoke_58 (by decide) ?_
        obtain ⟨q59, hq59⟩ := ob_s hf
        replace hf := hq59.2
        replace hq59 := hq59.1
        refine cW1 (rest := []) (ws1 := (bRd G a o q59.2)) (st1 := [.int q59.1]) C0 hW hl.1 (c_X2_readFigure l G a o q45.2 (0 : Int32) _ hq59) cb_X2_readFigure mm_X2_48 rfl 0 2 rfl rfl rfl (by decide) rfl rfl (Nat.le_of_ble_eq_true rfl) ⟨Nat.zero_le _, Nat.zero_le _⟩ dX2_readSpoke_59 rfl (fun H locs hW => ?_)
        exact J62 _ _ _ _ _ _ hf hF _ _ _ hW (lv_sub hl [3, 2, 1, 0] rfl)
      · replace hf := if_f c50_4 hf
        refine lv_iload_n hx hb dX2_readSpoke_53 rfl (lv_at hl 0 rfl) ?_
        refine lv_goto (tgt := 62) hx hb dX2_readSpoke_54 (by decide) ?_
        exact J62 _ _ _ _ _ _ hf hF _ _ _ hW (lv_sub hl [3, 2, 1, 0] rfl)
    · replace hf := if_f c28_3 hf
      refine lv_iconst (v := 0) hx hb dX2_readSpoke_31 (by decide) ?_
      have e1 := Option.some.inj hf
      subst e1
      have hF : (((0 : Int32), w) : Int32 × Rd) = out := hF
      subst hF
      exact k_zret C0 hW rfl dX2_readSpoke_32

def f_X2_read_J91 (k : Nat) (w : Rd) (f : Ar) : Option (Int32 × Rd) :=
  if (3 : Int32) ≤ (wh_spokes (rd_draft w)) then (some ((-9 : Int32), w)) else (some ((rd_size w), w))
def f_X2_read_B52 (k : Nat) (f : Ar) (x3 : Int32) (w : Rd) : Option ((Int32 × Rd) ⊕ (Int32 × Rd)) :=
  if (60 : Int32) ≤ x3 then (Option.map Sum.inr (f_X2_read_J91 k w f)) else (if (rd_size w) ≤ (rd_place w) then (Option.map Sum.inr (f_X2_read_J91 k w f)) else (Option.bind (f_X2_readSpoke w) (fun q70 => if q70.1 = 0 then (some (Sum.inr ((rd_place q70.2), q70.2))) else (Option.bind (f_X2_skipBlanks q70.2) (fun q82 => some (Sum.inl ((x3 + (1 : Int32)), q82)))))))
def f_X2_read_L52 (k : Nat) (f : Ar) (sg : Int32 × Rd) : Option ((Int32 × Rd) ⊕ (Int32 × Rd)) := f_X2_read_B52 k f sg.1 sg.2
def f_X2_read (k : Nat) (w : Rd) (f : Ar) (x2 : Int32) : Option (Int32 × Rd) :=
  gd (cpyok (0 : Int32) (0 : Int32) (60 : Int32) k 60) (Option.bind (f_X2_skipBlanks (rd_set_place (rd_set_size (rd_set_signs (rd_set_draft w (wh_set_spokes (rd_draft w) (0 : Int32))) (acpy f (rd_signs w) (0 : Int32) (0 : Int32) (60 : Int32))) x2) (0 : Int32))) (fun q31 => Option.bind (f_X2_readRoad q31) (fun q35 => if q35.1 = 0 then (some ((rd_place q35.2), q35.2)) else (Option.bind (f_X2_skipBlanks q35.2) (fun q47 => lp (f_X2_read_L52 k f) fuel ((0 : Int32), q47))))))
set_option maxRecDepth 100000 in
set_option maxHeartbeats 8000000 in
theorem c_X2_read (l : Launch) (G : GG) (a : Nat → Nat) (o : Nat) (aa : Nat) (k : Nat) (w : Rd) (f : Ar) (x2 : Int32) (out : Int32 × Rd) (hf : f_X2_read k w f x2 = some out) : Cn l G 3 yX2_read cX2_read 4 (some .int) [.ref (a o), .ref (aa), .int x2] ((bRd G a o w) ++ ([(aa, eI G k f)])) (some (.int out.1)) ((bRd G a o out.2) ++ ([(aa, eI G k f)])) := by
  refine cn_start (by decide) (Nat.le_of_ble_eq_true rfl) ?_
  intro p e s m below meth c A ls C0 hW hl
  have hx := C0.1
  have hb := C0.2.1
  have hl : lv_has ls 4 [(0, .ref (a o)), (1, .ref (aa)), (2, .int x2)] := hl
  have J91 : ∀ (w : Rd) (r : Int32 × Rd), f_X2_read_J91 k w f = some r → (fun (r : Int32 × Rd) => r = out) r → ∀ (H : Heap) (locs : List Loc) (ls : Array Slot), Wd G A s.heap H ((bRd G a o w) ++ ([(aa, eI G k f)])) locs → lv_has ls 4 [(0, .ref (a o))] → WW p l e 3 s m [.ref (a o), .ref (aa), .int x2] below meth c G A (some (.int out.1)) (((bRd G a o out.2) ++ ([(aa, eI G k f)]))) H locs 91 ls [] := by
    intro w r hf hF H locs ls hW hl
    unfold f_X2_read_J91 at hf
    refine lv_aload_n hx hb dX2_read_91 rfl (lv_at hl 0 rfl) ?_
    refine k_get C0 hW 2 0 0 (v := .ref (a (o + 2))) rfl (by decide) inX2 mf_X2_12 rfl rfl dX2_read_92 ?_
    refine k_get C0 hW 4 5 2 (v := .int (wh_spokes (rd_draft w))) rfl (by decide) inX4 mf_X2_35 rfl rfl dX2_read_95 ?_
    refine lv_iconst (v := 3) hx hb dX2_read_98 (by decide) ?_
    refine lv_icmp_ge (tgt := 109) hx hb dX2_read_99 (by decide) (fun c99_4 => ?_) (fun c99_4 => ?_)
    · replace hf := if_t c99_4 hf
      refine lv_bipush (v := -9) hx hb dX2_read_109 (by decide) ?_
      have e1 := Option.some.inj hf
      subst e1
      have hF : (((-9 : Int32), w) : Int32 × Rd) = out := hF
      subst hF
      exact k_iret C0 hW dX2_read_111
    · replace hf := if_f c99_4 hf
      refine lv_aload_n hx hb dX2_read_102 rfl (lv_at hl 0 rfl) ?_
      refine k_get C0 hW 2 2 0 (v := .int (rd_size w)) rfl (by decide) inX2 mf_X2_28 rfl rfl dX2_read_103 ?_
      refine lv_goto (tgt := 111) hx hb dX2_read_106 (by decide) ?_
      have e1 := Option.some.inj hf
      subst e1
      have hF : (((rd_size w), w) : Int32 × Rd) = out := hF
      subst hF
      exact k_iret C0 hW dX2_read_111
  have L52 : ∀ (k8 : Nat) (sg : Int32 × Rd) (o9 : Int32 × Rd), lp (f_X2_read_L52 k f) k8 sg = some o9 → (fun (r : Int32 × Rd) => r = out) o9 → (fun (sg : Int32 × Rd) => ∀ (H : Heap) (locs : List Loc) (ls : Array Slot), Wd G A s.heap H ((bRd G a o sg.2) ++ ([(aa, eI G k f)])) locs → lv_has ls 4 [(0, .ref (a o)), (3, .int sg.1)] → WW p l e 3 s m [.ref (a o), .ref (aa), .int x2] below meth c G A (some (.int out.1)) (((bRd G a o out.2) ++ ([(aa, eI G k f)]))) H locs 52 ls []) sg := by
    have B52 : ∀ (x3 : Int32) (w : Rd) (r : (Int32 × Rd) ⊕ (Int32 × Rd)), f_X2_read_B52 k f x3 w = some r → (Sum.elim (fun (sg : Int32 × Rd) => ∀ (H : Heap) (locs : List Loc) (ls : Array Slot), Wd G A s.heap H ((bRd G a o sg.2) ++ ([(aa, eI G k f)])) locs → lv_has ls 4 [(0, .ref (a o)), (3, .int sg.1)] → WW p l e 3 s m [.ref (a o), .ref (aa), .int x2] below meth c G A (some (.int out.1)) (((bRd G a o out.2) ++ ([(aa, eI G k f)]))) H locs 52 ls []) (fun (r : Int32 × Rd) => r = out)) r → ∀ (H : Heap) (locs : List Loc) (ls : Array Slot), Wd G A s.heap H ((bRd G a o w) ++ ([(aa, eI G k f)])) locs → lv_has ls 4 [(0, .ref (a o)), (3, .int x3)] → WW p l e 3 s m [.ref (a o), .ref (aa), .int x2] below meth c G A (some (.int out.1)) (((bRd G a o out.2) ++ ([(aa, eI G k f)]))) H locs 52 ls [] := by
      intro x3 w r hf hF H locs ls hW hl
      unfold f_X2_read_B52 at hf
      refine lv_iload_n hx hb dX2_read_52 rfl (lv_at hl 1 rfl) ?_
      refine lv_bipush (v := 60) hx hb dX2_read_53 (by decide) ?_
      refine lv_icmp_ge (tgt := 91) hx hb dX2_read_55 (by decide) (fun c55_3 => ?_) (fun c55_3 => ?_)
      · replace hf := if_t c55_3 hf
        obtain ⟨r2, e2⟩ := om_s hf
        replace hf := e2.1
        replace e2 := e2.2
        subst e2
        replace hF := elim_r hF
        exact J91 _ _ hf hF _ _ _ hW (lv_sub hl [0] rfl)
      · replace hf := if_f c55_3 hf
        refine lv_aload_n hx hb dX2_read_58 rfl (lv_at hl 0 rfl) ?_
        refine k_get C0 hW 2 3 0 (v := .int (rd_place w)) rfl (by decide) inX2 mf_X2_32 rfl rfl dX2_read_59 ?_
        refine lv_aload_n hx hb dX2_read_62 rfl (lv_at hl 0 rfl) ?_
        refine k_get C0 hW 2 2 0 (v := .int (rd_size w)) rfl (by decide) inX2 mf_X2_28 rfl rfl dX2_read_63 ?_
        refine lv_icmp_ge (tgt := 91) hx hb dX2_read_66 (by decide) (fun c66_5 => ?_) (fun c66_5 => ?_)
        · replace hf := if_t c66_5 hf
          obtain ⟨r2, e2⟩ := om_s hf
          replace hf := e2.1
          replace e2 := e2.2
          subst e2
          replace hF := elim_r hF
          exact J91 _ _ hf hF _ _ _ hW (lv_sub hl [0] rfl)
        · replace hf := if_f c66_5 hf
          refine lv_aload_n hx hb dX2_read_69 rfl (lv_at hl 0 rfl) ?_
          obtain ⟨q70, hq70⟩ := ob_s hf
          replace hf := hq70.2
          replace hq70 := hq70.1
          refine cV1 (rest := []) (ws1 := ((bRd G a o q70.2) ++ ([(aa, eI G k f)]))) (st1 := [.int q70.1]) C0 hW hl.1 (c_X2_readSpoke l G a o w _ hq70) cb_X2_readSpoke mm_X2_45 [0, 1, 2, 3, 4, 5, 6, 7] rfl rfl rfl 0 2 rfl rfl rfl (by decide) rfl rfl (Nat.le_of_ble_eq_true rfl) ⟨Nat.zero_le _, Nat.zero_le _⟩ dX2_read_70 rfl rfl (fun H locs hW => ?_)
          refine lv_if_ne (tgt := 81) hx hb dX2_read_73 (by decide) (fun c73_6 => ?_) (fun c73_6 => ?_)
          · replace hf := if_f c73_6 hf
            refine lv_aload_n hx hb dX2_read_81 rfl (lv_at hl 0 rfl) ?_
            obtain ⟨q82, hq82⟩ := ob_s hf
            replace hf := hq82.2
            replace hq82 := hq82.1
            refine cV1 (rest := []) (ws1 := ((bRd G a o q82) ++ ([(aa, eI G k f)]))) (st1 := []) C0 hW hl.1 (c_X2_skipBlanks l G a o q70.2 _ hq82) cb_X2_skipBlanks mm_X2_38 [0, 1, 2, 3, 4, 5, 6, 7] rfl rfl rfl 0 2 rfl rfl rfl (by decide) rfl rfl (Nat.le_of_ble_eq_true rfl) ⟨Nat.zero_le _, Nat.zero_le _⟩ dX2_read_82 rfl rfl (fun H locs hW => ?_)
            refine lv_iinc (v := (x3 + (1 : Int32))) (lv' := [(3, .int (x3 + (1 : Int32))), (0, .ref (a o))]) hx hb dX2_read_85 hl (k := 1) rfl rfl (by decide) rfl (fun ls hl => ?_)
            refine lv_goto (tgt := 52) hx hb dX2_read_88 (by decide) ?_
            have e1 := Option.some.inj hf
            subst e1
            exact (elim_l hF) _ _ _ hW (lv_sub hl [1, 0] rfl)
          · replace hf := if_t c73_6 hf
            refine lv_aload_n hx hb dX2_read_76 rfl (lv_at hl 0 rfl) ?_
            refine k_get C0 hW 2 3 0 (v := .int (rd_place q70.2)) rfl (by decide) inX2 mf_X2_32 rfl rfl dX2_read_77 ?_
            have e1 := Option.some.inj hf
            subst e1
            have hF : (((rd_place q70.2), q70.2) : Int32 × Rd) = out := hF
            subst hF
            exact k_iret C0 hW dX2_read_80
    exact lp_sound (fun sg r hb hz => B52 sg.1 sg.2 r hb hz)
  obtain ⟨r, hr⟩ : ∃ r, f_X2_read k w f x2 = some r ∧ r = out := ⟨out, hf, rfl⟩
  replace hf := hr.1
  have hF := hr.2
  clear hr
  unfold f_X2_read at hf
  refine lv_aload_n hx hb dX2_read_0 rfl (lv_at hl 1 rfl) ?_
  refine lv_iconst (v := 0) hx hb dX2_read_1 (by decide) ?_
  refine lv_aload_n hx hb dX2_read_2 rfl (lv_at hl 0 rfl) ?_
  refine k_get C0 hW 2 1 0 (v := .ref (a (o + 1))) rfl (by decide) inX2 mf_X2_18 rfl rfl dX2_read_3 ?_
  refine lv_iconst (v := 0) hx hb dX2_read_6 (by decide) ?_
  refine lv_bipush (v := 60) hx hb dX2_read_7 (by decide) ?_
  have g9_1 := (gd_some hf).1; replace hf := (gd_some hf).2
  refine k_copy C0 hW hl.1 mm_X2_22 (by decide) (Nat.le_of_ble_eq_true rfl) 8 1 rfl rfl g9_1 dX2_read_9 (fun H locs hW => ?_)
  have hW : Wd G A s.heap H ((bRd G a o (rd_set_signs w (acpy f (rd_signs w) (0 : Int32) (0 : Int32) (60 : Int32)))) ++ ([(aa, eI G k f)])) locs := hW
  refine lv_aload_n hx hb dX2_read_12 rfl (lv_at hl 0 rfl) ?_
  refine lv_iload_n hx hb dX2_read_13 rfl (lv_at hl 2 rfl) ?_
  refine k_put C0 hW 2 2 0 rfl (by decide) inX2 tyX2_ok nmX2 mf_X2_28 rfl rfl rfl rfl (Nat.le_of_ble_eq_true rfl) dX2_read_14 (fun H locs hW => ?_)
  have hW : Wd G A s.heap H ((bRd G a o (rd_set_size (rd_set_signs w (acpy f (rd_signs w) (0 : Int32) (0 : Int32) (60 : Int32))) x2)) ++ ([(aa, eI G k f)])) locs := hW
  refine lv_aload_n hx hb dX2_read_17 rfl (lv_at hl 0 rfl) ?_
  refine lv_iconst (v := 0) hx hb dX2_read_18 (by decide) ?_
  refine k_put C0 hW 2 3 0 rfl (by decide) inX2 tyX2_ok nmX2 mf_X2_32 rfl rfl rfl rfl (Nat.le_of_ble_eq_true rfl) dX2_read_19 (fun H locs hW => ?_)
  have hW : Wd G A s.heap H ((bRd G a o (rd_set_place (rd_set_size (rd_set_signs w (acpy f (rd_signs w) (0 : Int32) (0 : Int32) (60 : Int32))) x2) (0 : Int32))) ++ ([(aa, eI G k f)])) locs := hW
  refine lv_aload_n hx hb dX2_read_22 rfl (lv_at hl 0 rfl) ?_
  refine k_get C0 hW 2 0 0 (v := .ref (a (o + 2))) rfl (by decide) inX2 mf_X2_12 rfl rfl dX2_read_23 ?_
  refine lv_iconst (v := 0) hx hb dX2_read_26 (by decide) ?_
  refine k_put C0 hW 4 5 2 rfl (by decide) inX4 tyX4_ok nmX4 mf_X2_35 rfl rfl rfl rfl (Nat.le_of_ble_eq_true rfl) dX2_read_27 (fun H locs hW => ?_)
  have hW : Wd G A s.heap H ((bRd G a o (rd_set_place (rd_set_size (rd_set_signs (rd_set_draft w (wh_set_spokes (rd_draft w) (0 : Int32))) (acpy f (rd_signs w) (0 : Int32) (0 : Int32) (60 : Int32))) x2) (0 : Int32))) ++ ([(aa, eI G k f)])) locs := hW
  refine lv_aload_n hx hb dX2_read_30 rfl (lv_at hl 0 rfl) ?_
  obtain ⟨q31, hq31⟩ := ob_s hf
  replace hf := hq31.2
  replace hq31 := hq31.1
  refine cV1 (rest := []) (ws1 := ((bRd G a o q31) ++ ([(aa, eI G k f)]))) (st1 := []) C0 hW hl.1 (c_X2_skipBlanks l G a o (rd_set_place (rd_set_size (rd_set_signs (rd_set_draft w (wh_set_spokes (rd_draft w) (0 : Int32))) (acpy f (rd_signs w) (0 : Int32) (0 : Int32) (60 : Int32))) x2) (0 : Int32)) _ hq31) cb_X2_skipBlanks mm_X2_38 [0, 1, 2, 3, 4, 5, 6, 7] rfl rfl rfl 0 2 rfl rfl rfl (by decide) rfl rfl (Nat.le_of_ble_eq_true rfl) ⟨Nat.zero_le _, Nat.zero_le _⟩ dX2_read_31 rfl rfl (fun H locs hW => ?_)
  refine lv_aload_n hx hb dX2_read_34 rfl (lv_at hl 0 rfl) ?_
  obtain ⟨q35, hq35⟩ := ob_s hf
  replace hf := hq35.2
  replace hq35 := hq35.1
  refine cV1 (rest := []) (ws1 := ((bRd G a o q35.2) ++ ([(aa, eI G k f)]))) (st1 := [.int q35.1]) C0 hW hl.1 (c_X2_readRoad l G a o q31 _ hq35) cb_X2_readRoad mm_X2_41 [0, 1, 2, 3, 4, 5, 6, 7] rfl rfl rfl 0 2 rfl rfl rfl (by decide) rfl rfl (Nat.le_of_ble_eq_true rfl) ⟨Nat.zero_le _, Nat.zero_le _⟩ dX2_read_35 rfl rfl (fun H locs hW => ?_)
  refine lv_if_ne (tgt := 46) hx hb dX2_read_38 (by decide) (fun c38_2 => ?_) (fun c38_2 => ?_)
  · replace hf := if_f c38_2 hf
    refine lv_aload_n hx hb dX2_read_46 rfl (lv_at hl 0 rfl) ?_
    obtain ⟨q47, hq47⟩ := ob_s hf
    replace hf := hq47.2
    replace hq47 := hq47.1
    refine cV1 (rest := []) (ws1 := ((bRd G a o q47) ++ ([(aa, eI G k f)]))) (st1 := []) C0 hW hl.1 (c_X2_skipBlanks l G a o q35.2 _ hq47) cb_X2_skipBlanks mm_X2_38 [0, 1, 2, 3, 4, 5, 6, 7] rfl rfl rfl 0 2 rfl rfl rfl (by decide) rfl rfl (Nat.le_of_ble_eq_true rfl) ⟨Nat.zero_le _, Nat.zero_le _⟩ dX2_read_47 rfl rfl (fun H locs hW => ?_)
    refine lv_iconst (v := 0) hx hb dX2_read_50 (by decide) ?_
    refine lv_istore_n (lv' := [(3, .int (0 : Int32)), (0, .ref (a o)), (1, .ref (aa)), (2, .int x2)]) hx hb dX2_read_51 rfl hl (by decide) rfl (fun ls hl => ?_)
    exact L52  fuel ((0 : Int32), q47) _ hf hF _ _ _ hW (lv_sub hl [1, 0] rfl)
  · replace hf := if_t c38_2 hf
    refine lv_aload_n hx hb dX2_read_41 rfl (lv_at hl 0 rfl) ?_
    refine k_get C0 hW 2 3 0 (v := .int (rd_place q35.2)) rfl (by decide) inX2 mf_X2_32 rfl rfl dX2_read_42 ?_
    have e1 := Option.some.inj hf
    subst e1
    have hF : (((rd_place q35.2), q35.2) : Int32 × Rd) = out := hF
    subst hF
    exact k_iret C0 hW dX2_read_45

def f_X3_drop (nr : Nat) (nc : Nat) (w : Sh) (x1 : Int32) : Option (Sh) :=
  gd (inb x1 nr) (some (sh_set_sizes w (upd (sh_sizes w) (ix x1) (-1 : Int32))))
set_option maxRecDepth 100000 in
set_option maxHeartbeats 8000000 in
theorem c_X3_drop (l : Launch) (G : GG) (a : Nat → Nat) (o : Nat) (nr : Nat) (nc : Nat) (w : Sh) (x1 : Int32) (out : Sh) (hf : f_X3_drop nr nc w x1 = some out) : Cn l G 0 yX3_drop cX3_drop 2 (none) [.ref (a o), .int x1] (bSh G nr nc a o w) (none) (bSh G nr nc a o out) := by
  refine cn_start (by decide) (Nat.le_of_ble_eq_true rfl) ?_
  intro p e s m below meth c A ls C0 hW hl
  have hx := C0.1
  have hb := C0.2.1
  have hl : lv_has ls 2 [(0, .ref (a o)), (1, .int x1)] := hl
  obtain ⟨r, hr⟩ : ∃ r, f_X3_drop nr nc w x1 = some r ∧ r = out := ⟨out, hf, rfl⟩
  replace hf := hr.1
  have hF := hr.2
  clear hr
  unfold f_X3_drop at hf
  refine lv_aload_n hx hb dX3_drop_0 rfl (lv_at hl 0 rfl) ?_
  refine k_get C0 hW 3 2 0 (v := .ref (a (o + 2))) rfl (by decide) inX3 mf_X3_20 rfl rfl dX3_drop_1 ?_
  refine lv_iload_n hx hb dX3_drop_4 rfl (lv_at hl 1 rfl) ?_
  refine lv_iconst (v := -1) hx hb dX3_drop_5 (by decide) ?_
  have g6_1 := (gd_some hf).1; replace hf := (gd_some hf).2
  refine k_iast C0 hW 2 (ix x1) rfl (inb_in g6_1) rfl dX3_drop_6 (fun H locs hW => ?_)
  have hW : Wd G A s.heap H (bSh G nr nc a o (sh_set_sizes w (upd (sh_sizes w) (ix x1) (-1 : Int32)))) locs := hW
  have e1 := Option.some.inj hf
  subst e1
  have hF : ((sh_set_sizes w (upd (sh_sizes w) (ix x1) (-1 : Int32))) : Sh) = out := hF
  subst hF
  exact k_vret C0 hW dX3_drop_7

def f_X3_get (nr : Nat) (nc : Nat) (w : Sh) (x1 : Int32) (x2 : Int32) : Option (Int32) :=
  gd (inb x1 nr) (gd (inb x2 nc) (some (((sh_places w) (ix x1)) (ix x2))))
set_option maxRecDepth 100000 in
set_option maxHeartbeats 8000000 in
theorem c_X3_get (l : Launch) (G : GG) (a : Nat → Nat) (o : Nat) (nr : Nat) (nc : Nat) (w : Sh) (x1 : Int32) (x2 : Int32) (out : Int32) (hf : f_X3_get nr nc w x1 x2 = some out) : Cn l G 0 yX3_get cX3_get 3 (some .int) [.ref (a o), .int x1, .int x2] (bSh G nr nc a o w) (some (.int out)) (bSh G nr nc a o w) := by
  refine cn_start (by decide) (Nat.le_of_ble_eq_true rfl) ?_
  intro p e s m below meth c A ls C0 hW hl
  have hx := C0.1
  have hb := C0.2.1
  have hl : lv_has ls 3 [(0, .ref (a o)), (1, .int x1), (2, .int x2)] := hl
  obtain ⟨r, hr⟩ : ∃ r, f_X3_get nr nc w x1 x2 = some r ∧ r = out := ⟨out, hf, rfl⟩
  replace hf := hr.1
  have hF := hr.2
  clear hr
  unfold f_X3_get at hf
  refine lv_aload_n hx hb dX3_get_0 rfl (lv_at hl 0 rfl) ?_
  refine k_get C0 hW 3 1 0 (v := .ref (a (o + 1))) rfl (by decide) inX3 mf_X3_17 rfl rfl dX3_get_1 ?_
  refine lv_iload_n hx hb dX3_get_4 rfl (lv_at hl 1 rfl) ?_
  have g5_1 := (gd_some hf).1; replace hf := (gd_some hf).2
  refine k_aaldI C0 hW 1 (b := a (o + 3 + ix x1)) rfl (inb_in g5_1) (if_pos (inb_lt g5_1)) dX3_get_5 ?_
  refine lv_iload_n hx hb dX3_get_6 rfl (lv_at hl 2 rfl) ?_
  have g7_2 := (gd_some hf).1; replace hf := (gd_some hf).2
  refine k_iald C0 hW (3 + (ix x1)) (ix x2) (sh_row (inb_lt g5_1)) (inb_in g7_2) rfl dX3_get_7 ?_
  have e1 := Option.some.inj hf
  subst e1
  have hF : ((((sh_places w) (ix x1)) (ix x2)) : Int32) = out := hF
  subst hF
  exact k_iret C0 hW dX3_get_8

def f_X3_hasPart (nr : Nat) (nc : Nat) (w : Sh) (x1 : Int32) (x2 : Int32) (x3 : Int32) : Option (Int32) :=
  if x2 < 0 then (some (0 : Int32)) else (gd (inb x1 nr) (if (((sh_sizes w) (ix x1)) - x3) < x2 then (some (0 : Int32)) else (some (1 : Int32))))
set_option maxRecDepth 100000 in
set_option maxHeartbeats 8000000 in
theorem c_X3_hasPart (l : Launch) (G : GG) (a : Nat → Nat) (o : Nat) (nr : Nat) (nc : Nat) (w : Sh) (x1 : Int32) (x2 : Int32) (x3 : Int32) (out : Int32) (hf : f_X3_hasPart nr nc w x1 x2 x3 = some out) : Cn l G 0 yX3_hasPart cX3_hasPart 4 (some .boolean) [.ref (a o), .int x1, .int x2, .int x3] (bSh G nr nc a o w) (some (.int out)) (bSh G nr nc a o w) := by
  refine cn_start (by decide) (Nat.le_of_ble_eq_true rfl) ?_
  intro p e s m below meth c A ls C0 hW hl
  have hx := C0.1
  have hb := C0.2.1
  have hl : lv_has ls 4 [(0, .ref (a o)), (1, .int x1), (2, .int x2), (3, .int x3)] := hl
  obtain ⟨r, hr⟩ : ∃ r, f_X3_hasPart nr nc w x1 x2 x3 = some r ∧ r = out := ⟨out, hf, rfl⟩
  replace hf := hr.1
  have hF := hr.2
  clear hr
  unfold f_X3_hasPart at hf
  refine lv_iload_n hx hb dX3_hasPart_0 rfl (lv_at hl 2 rfl) ?_
  refine lv_if_lt (tgt := 20) hx hb dX3_hasPart_1 (by decide) (fun c1_1 => ?_) (fun c1_1 => ?_)
  · replace hf := if_t c1_1 hf
    refine lv_iconst (v := 0) hx hb dX3_hasPart_20 (by decide) ?_
    have e1 := Option.some.inj hf
    subst e1
    have hF : ((0 : Int32) : Int32) = out := hF
    subst hF
    exact k_zret C0 hW rfl dX3_hasPart_21
  · replace hf := if_f c1_1 hf
    refine lv_iload_n hx hb dX3_hasPart_4 rfl (lv_at hl 2 rfl) ?_
    refine lv_aload_n hx hb dX3_hasPart_5 rfl (lv_at hl 0 rfl) ?_
    refine k_get C0 hW 3 2 0 (v := .ref (a (o + 2))) rfl (by decide) inX3 mf_X3_20 rfl rfl dX3_hasPart_6 ?_
    refine lv_iload_n hx hb dX3_hasPart_9 rfl (lv_at hl 1 rfl) ?_
    have g10_2 := (gd_some hf).1; replace hf := (gd_some hf).2
    refine k_iald C0 hW 2 (ix x1) rfl (inb_in g10_2) rfl dX3_hasPart_10 ?_
    refine lv_iload_n hx hb dX3_hasPart_11 rfl (lv_at hl 3 rfl) ?_
    refine lv_isub hx hb dX3_hasPart_12 ?_
    refine lv_icmp_gt (tgt := 20) hx hb dX3_hasPart_13 (by decide) (fun c13_3 => ?_) (fun c13_3 => ?_)
    · replace hf := if_t c13_3 hf
      refine lv_iconst (v := 0) hx hb dX3_hasPart_20 (by decide) ?_
      have e1 := Option.some.inj hf
      subst e1
      have hF : ((0 : Int32) : Int32) = out := hF
      subst hF
      exact k_zret C0 hW rfl dX3_hasPart_21
    · replace hf := if_f c13_3 hf
      refine lv_iconst (v := 1) hx hb dX3_hasPart_16 (by decide) ?_
      refine lv_goto (tgt := 21) hx hb dX3_hasPart_17 (by decide) ?_
      have e1 := Option.some.inj hf
      subst e1
      have hF : ((1 : Int32) : Int32) = out := hF
      subst hF
      exact k_zret C0 hW rfl dX3_hasPart_21

def f_X3_holdsBits_J37 (nr : Nat) (nc : Nat) (w : Sh) (x1 : Int32) (x2 : Int32) : Option ((Int32) ⊕ (Int32)) :=
  some (Sum.inl (x2 + (1 : Int32)))
def f_X3_holdsBits_B2 (nr : Nat) (nc : Nat) (w : Sh) (x1 : Int32) (x2 : Int32) : Option ((Int32) ⊕ (Int32)) :=
  gd (inb x1 nr) (if ((sh_sizes w) (ix x1)) ≤ x2 then (Option.map Sum.inr (some (1 : Int32))) else (gd (inb x1 nr) (gd (inb x2 nc) (if (((sh_places w) (ix x1)) (ix x2)) = 0 then (f_X3_holdsBits_J37 nr nc w x1 x2) else (gd (inb x1 nr) (gd (inb x2 nc) (if (((sh_places w) (ix x1)) (ix x2)) = (1 : Int32) then (f_X3_holdsBits_J37 nr nc w x1 x2) else (some (Sum.inr (0 : Int32))))))))))
def f_X3_holdsBits_L2 (nr : Nat) (nc : Nat) (w : Sh) (x1 : Int32) (sg : Int32) : Option ((Int32) ⊕ (Int32)) := f_X3_holdsBits_B2 nr nc w x1 sg
def f_X3_holdsBits (nr : Nat) (nc : Nat) (w : Sh) (x1 : Int32) : Option (Int32) :=
  lp (f_X3_holdsBits_L2 nr nc w x1) fuel (0 : Int32)
set_option maxRecDepth 100000 in
set_option maxHeartbeats 8000000 in
theorem c_X3_holdsBits (l : Launch) (G : GG) (a : Nat → Nat) (o : Nat) (nr : Nat) (nc : Nat) (w : Sh) (x1 : Int32) (out : Int32) (hf : f_X3_holdsBits nr nc w x1 = some out) : Cn l G 0 yX3_holdsBits cX3_holdsBits 3 (some .boolean) [.ref (a o), .int x1] (bSh G nr nc a o w) (some (.int out)) (bSh G nr nc a o w) := by
  refine cn_start (by decide) (Nat.le_of_ble_eq_true rfl) ?_
  intro p e s m below meth c A ls C0 hW hl
  have hx := C0.1
  have hb := C0.2.1
  have hl : lv_has ls 3 [(0, .ref (a o)), (1, .int x1)] := hl
  have L2 : ∀ (k8 : Nat) (sg : Int32) (o9 : Int32), lp (f_X3_holdsBits_L2 nr nc w x1) k8 sg = some o9 → (fun (r : Int32) => r = out) o9 → (fun (sg : Int32) => ∀ (H : Heap) (locs : List Loc) (ls : Array Slot), Wd G A s.heap H (bSh G nr nc a o w) locs → lv_has ls 3 [(0, .ref (a o)), (1, .int x1), (2, .int sg)] → WW p l e 0 s m [.ref (a o), .int x1] below meth c G A (some (.int out)) ((bSh G nr nc a o w)) H locs 2 ls []) sg := by
    have J37 : ∀ (x2 : Int32) (r : (Int32) ⊕ (Int32)), f_X3_holdsBits_J37 nr nc w x1 x2 = some r → (Sum.elim (fun (sg : Int32) => ∀ (H : Heap) (locs : List Loc) (ls : Array Slot), Wd G A s.heap H (bSh G nr nc a o w) locs → lv_has ls 3 [(0, .ref (a o)), (1, .int x1), (2, .int sg)] → WW p l e 0 s m [.ref (a o), .int x1] below meth c G A (some (.int out)) ((bSh G nr nc a o w)) H locs 2 ls []) (fun (r : Int32) => r = out)) r → ∀ (H : Heap) (locs : List Loc) (ls : Array Slot), Wd G A s.heap H (bSh G nr nc a o w) locs → lv_has ls 3 [(0, .ref (a o)), (1, .int x1), (2, .int x2)] → WW p l e 0 s m [.ref (a o), .int x1] below meth c G A (some (.int out)) ((bSh G nr nc a o w)) H locs 37 ls [] := by
      intro x2 r hf hF H locs ls hW hl
      unfold f_X3_holdsBits_J37 at hf
      refine lv_iinc (v := (x2 + (1 : Int32))) (lv' := [(2, .int (x2 + (1 : Int32))), (0, .ref (a o)), (1, .int x1)]) hx hb dX3_holdsBits_37 hl (k := 2) rfl rfl (by decide) rfl (fun ls hl => ?_)
      refine lv_goto (tgt := 2) hx hb dX3_holdsBits_40 (by decide) ?_
      have e1 := Option.some.inj hf
      subst e1
      exact (elim_l hF) _ _ _ hW (lv_sub hl [1, 2, 0] rfl)
    have B2 : ∀ (x2 : Int32) (r : (Int32) ⊕ (Int32)), f_X3_holdsBits_B2 nr nc w x1 x2 = some r → (Sum.elim (fun (sg : Int32) => ∀ (H : Heap) (locs : List Loc) (ls : Array Slot), Wd G A s.heap H (bSh G nr nc a o w) locs → lv_has ls 3 [(0, .ref (a o)), (1, .int x1), (2, .int sg)] → WW p l e 0 s m [.ref (a o), .int x1] below meth c G A (some (.int out)) ((bSh G nr nc a o w)) H locs 2 ls []) (fun (r : Int32) => r = out)) r → ∀ (H : Heap) (locs : List Loc) (ls : Array Slot), Wd G A s.heap H (bSh G nr nc a o w) locs → lv_has ls 3 [(0, .ref (a o)), (1, .int x1), (2, .int x2)] → WW p l e 0 s m [.ref (a o), .int x1] below meth c G A (some (.int out)) ((bSh G nr nc a o w)) H locs 2 ls [] := by
      intro x2 r hf hF H locs ls hW hl
      unfold f_X3_holdsBits_B2 at hf
      refine lv_iload_n hx hb dX3_holdsBits_2 rfl (lv_at hl 2 rfl) ?_
      refine lv_aload_n hx hb dX3_holdsBits_3 rfl (lv_at hl 0 rfl) ?_
      refine k_get C0 hW 3 2 0 (v := .ref (a (o + 2))) rfl (by decide) inX3 mf_X3_20 rfl rfl dX3_holdsBits_4 ?_
      refine lv_iload_n hx hb dX3_holdsBits_7 rfl (lv_at hl 1 rfl) ?_
      have g8_1 := (gd_some hf).1; replace hf := (gd_some hf).2
      refine k_iald C0 hW 2 (ix x1) rfl (inb_in g8_1) rfl dX3_holdsBits_8 ?_
      refine lv_icmp_ge (tgt := 43) hx hb dX3_holdsBits_9 (by decide) (fun c9_2 => ?_) (fun c9_2 => ?_)
      · replace hf := if_t c9_2 hf
        obtain ⟨r2, e2⟩ := om_s hf
        replace hf := e2.1
        replace e2 := e2.2
        subst e2
        replace hF := elim_r hF
        refine lv_iconst (v := 1) hx hb dX3_holdsBits_43 (by decide) ?_
        have e1 := Option.some.inj hf
        subst e1
        have hF : ((1 : Int32) : Int32) = out := hF
        subst hF
        exact k_zret C0 hW rfl dX3_holdsBits_44
      · replace hf := if_f c9_2 hf
        refine lv_aload_n hx hb dX3_holdsBits_12 rfl (lv_at hl 0 rfl) ?_
        refine k_get C0 hW 3 1 0 (v := .ref (a (o + 1))) rfl (by decide) inX3 mf_X3_17 rfl rfl dX3_holdsBits_13 ?_
        refine lv_iload_n hx hb dX3_holdsBits_16 rfl (lv_at hl 1 rfl) ?_
        have g17_3 := (gd_some hf).1; replace hf := (gd_some hf).2
        refine k_aaldI C0 hW 1 (b := a (o + 3 + ix x1)) rfl (inb_in g17_3) (if_pos (inb_lt g17_3)) dX3_holdsBits_17 ?_
        refine lv_iload_n hx hb dX3_holdsBits_18 rfl (lv_at hl 2 rfl) ?_
        have g19_4 := (gd_some hf).1; replace hf := (gd_some hf).2
        refine k_iald C0 hW (3 + (ix x1)) (ix x2) (sh_row (inb_lt g17_3)) (inb_in g19_4) rfl dX3_holdsBits_19 ?_
        refine lv_if_eq (tgt := 37) hx hb dX3_holdsBits_20 (by decide) (fun c20_5 => ?_) (fun c20_5 => ?_)
        · replace hf := if_t c20_5 hf
          exact J37 _ _ hf hF _ _ _ hW (lv_sub hl [0, 1, 2] rfl)
        · replace hf := if_f c20_5 hf
          refine lv_aload_n hx hb dX3_holdsBits_23 rfl (lv_at hl 0 rfl) ?_
          refine k_get C0 hW 3 1 0 (v := .ref (a (o + 1))) rfl (by decide) inX3 mf_X3_17 rfl rfl dX3_holdsBits_24 ?_
          refine lv_iload_n hx hb dX3_holdsBits_27 rfl (lv_at hl 1 rfl) ?_
          have g28_6 := (gd_some hf).1; replace hf := (gd_some hf).2
          refine k_aaldI C0 hW 1 (b := a (o + 3 + ix x1)) rfl (inb_in g28_6) (if_pos (inb_lt g28_6)) dX3_holdsBits_28 ?_
          refine lv_iload_n hx hb dX3_holdsBits_29 rfl (lv_at hl 2 rfl) ?_
          have g30_7 := (gd_some hf).1; replace hf := (gd_some hf).2
          refine k_iald C0 hW (3 + (ix x1)) (ix x2) (sh_row (inb_lt g28_6)) (inb_in g30_7) rfl dX3_holdsBits_30 ?_
          refine lv_iconst (v := 1) hx hb dX3_holdsBits_31 (by decide) ?_
          refine lv_icmp_eq (tgt := 37) hx hb dX3_holdsBits_32 (by decide) (fun c32_8 => ?_) (fun c32_8 => ?_)
          · replace hf := if_t c32_8 hf
            exact J37 _ _ hf hF _ _ _ hW (lv_sub hl [0, 1, 2] rfl)
          · replace hf := if_f c32_8 hf
            refine lv_iconst (v := 0) hx hb dX3_holdsBits_35 (by decide) ?_
            have e1 := Option.some.inj hf
            subst e1
            have hF : ((0 : Int32) : Int32) = out := hF
            subst hF
            exact k_zret C0 hW rfl dX3_holdsBits_36
    exact lp_sound (fun sg r hb hz => B2 sg r hb hz)
  obtain ⟨r, hr⟩ : ∃ r, f_X3_holdsBits nr nc w x1 = some r ∧ r = out := ⟨out, hf, rfl⟩
  replace hf := hr.1
  have hF := hr.2
  clear hr
  unfold f_X3_holdsBits at hf
  refine lv_iconst (v := 0) hx hb dX3_holdsBits_0 (by decide) ?_
  refine lv_istore_n (lv' := [(2, .int (0 : Int32)), (0, .ref (a o)), (1, .int x1)]) hx hb dX3_holdsBits_1 rfl hl (by decide) rfl (fun ls hl => ?_)
  exact L2  fuel (0 : Int32) _ hf hF _ _ _ hW (lv_sub hl [1, 2, 0] rfl)

def f_X3_howMany_J26 (nr : Nat) (nc : Nat) (w : Sh) (x1 : Int32) (x2 : Int32) : Option ((Int32 × Int32) ⊕ (Int32)) :=
  some (Sum.inl (x1, (x2 + (1 : Int32))))
def f_X3_howMany_B4 (nr : Nat) (nc : Nat) (w : Sh) (x1 : Int32) (x2 : Int32) : Option ((Int32 × Int32) ⊕ (Int32)) :=
  if (Int32.ofNat nr) ≤ x2 then (Option.map Sum.inr (some x1)) else (gd (inb x2 nr) (if ((sh_sizes w) (ix x2)) = (-1 : Int32) then (f_X3_howMany_J26 nr nc w x1 x2) else (f_X3_howMany_J26 nr nc w (x1 + (1 : Int32)) x2)))
def f_X3_howMany_L4 (nr : Nat) (nc : Nat) (w : Sh) (sg : Int32 × Int32) : Option ((Int32 × Int32) ⊕ (Int32)) := f_X3_howMany_B4 nr nc w sg.1 sg.2
def f_X3_howMany (nr : Nat) (nc : Nat) (w : Sh) : Option (Int32) :=
  lp (f_X3_howMany_L4 nr nc w) fuel ((0 : Int32), (0 : Int32))
set_option maxRecDepth 100000 in
set_option maxHeartbeats 8000000 in
theorem c_X3_howMany (l : Launch) (G : GG) (a : Nat → Nat) (o : Nat) (nr : Nat) (nc : Nat) (w : Sh) (out : Int32) (hf : f_X3_howMany nr nc w = some out) : Cn l G 0 yX3_howMany cX3_howMany 3 (some .int) [.ref (a o)] (bSh G nr nc a o w) (some (.int out)) (bSh G nr nc a o w) := by
  refine cn_start (by decide) (Nat.le_of_ble_eq_true rfl) ?_
  intro p e s m below meth c A ls C0 hW hl
  have hx := C0.1
  have hb := C0.2.1
  have hl : lv_has ls 3 [(0, .ref (a o))] := hl
  have L4 : ∀ (k8 : Nat) (sg : Int32 × Int32) (o9 : Int32), lp (f_X3_howMany_L4 nr nc w) k8 sg = some o9 → (fun (r : Int32) => r = out) o9 → (fun (sg : Int32 × Int32) => ∀ (H : Heap) (locs : List Loc) (ls : Array Slot), Wd G A s.heap H (bSh G nr nc a o w) locs → lv_has ls 3 [(0, .ref (a o)), (1, .int sg.1), (2, .int sg.2)] → WW p l e 0 s m [.ref (a o)] below meth c G A (some (.int out)) ((bSh G nr nc a o w)) H locs 4 ls []) sg := by
    have J26 : ∀ (x1 : Int32) (x2 : Int32) (r : (Int32 × Int32) ⊕ (Int32)), f_X3_howMany_J26 nr nc w x1 x2 = some r → (Sum.elim (fun (sg : Int32 × Int32) => ∀ (H : Heap) (locs : List Loc) (ls : Array Slot), Wd G A s.heap H (bSh G nr nc a o w) locs → lv_has ls 3 [(0, .ref (a o)), (1, .int sg.1), (2, .int sg.2)] → WW p l e 0 s m [.ref (a o)] below meth c G A (some (.int out)) ((bSh G nr nc a o w)) H locs 4 ls []) (fun (r : Int32) => r = out)) r → ∀ (H : Heap) (locs : List Loc) (ls : Array Slot), Wd G A s.heap H (bSh G nr nc a o w) locs → lv_has ls 3 [(0, .ref (a o)), (1, .int x1), (2, .int x2)] → WW p l e 0 s m [.ref (a o)] below meth c G A (some (.int out)) ((bSh G nr nc a o w)) H locs 26 ls [] := by
      intro x1 x2 r hf hF H locs ls hW hl
      unfold f_X3_howMany_J26 at hf
      refine lv_iinc (v := (x2 + (1 : Int32))) (lv' := [(2, .int (x2 + (1 : Int32))), (0, .ref (a o)), (1, .int x1)]) hx hb dX3_howMany_26 hl (k := 2) rfl rfl (by decide) rfl (fun ls hl => ?_)
      refine lv_goto (tgt := 4) hx hb dX3_howMany_29 (by decide) ?_
      have e1 := Option.some.inj hf
      subst e1
      exact (elim_l hF) _ _ _ hW (lv_sub hl [1, 2, 0] rfl)
    have B4 : ∀ (x1 : Int32) (x2 : Int32) (r : (Int32 × Int32) ⊕ (Int32)), f_X3_howMany_B4 nr nc w x1 x2 = some r → (Sum.elim (fun (sg : Int32 × Int32) => ∀ (H : Heap) (locs : List Loc) (ls : Array Slot), Wd G A s.heap H (bSh G nr nc a o w) locs → lv_has ls 3 [(0, .ref (a o)), (1, .int sg.1), (2, .int sg.2)] → WW p l e 0 s m [.ref (a o)] below meth c G A (some (.int out)) ((bSh G nr nc a o w)) H locs 4 ls []) (fun (r : Int32) => r = out)) r → ∀ (H : Heap) (locs : List Loc) (ls : Array Slot), Wd G A s.heap H (bSh G nr nc a o w) locs → lv_has ls 3 [(0, .ref (a o)), (1, .int x1), (2, .int x2)] → WW p l e 0 s m [.ref (a o)] below meth c G A (some (.int out)) ((bSh G nr nc a o w)) H locs 4 ls [] := by
      intro x1 x2 r hf hF H locs ls hW hl
      unfold f_X3_howMany_B4 at hf
      refine lv_iload_n hx hb dX3_howMany_4 rfl (lv_at hl 2 rfl) ?_
      refine lv_aload_n hx hb dX3_howMany_5 rfl (lv_at hl 0 rfl) ?_
      refine k_get C0 hW 3 2 0 (v := .ref (a (o + 2))) rfl (by decide) inX3 mf_X3_20 rfl rfl dX3_howMany_6 ?_
      refine k_alen C0 hW 2 (v := (Int32.ofNat nr)) rfl rfl dX3_howMany_9 ?_
      refine lv_icmp_ge (tgt := 32) hx hb dX3_howMany_10 (by decide) (fun c10_1 => ?_) (fun c10_1 => ?_)
      · replace hf := if_t c10_1 hf
        obtain ⟨r2, e2⟩ := om_s hf
        replace hf := e2.1
        replace e2 := e2.2
        subst e2
        replace hF := elim_r hF
        refine lv_iload_n hx hb dX3_howMany_32 rfl (lv_at hl 1 rfl) ?_
        have e1 := Option.some.inj hf
        subst e1
        have hF : (x1 : Int32) = out := hF
        subst hF
        exact k_iret C0 hW dX3_howMany_33
      · replace hf := if_f c10_1 hf
        refine lv_aload_n hx hb dX3_howMany_13 rfl (lv_at hl 0 rfl) ?_
        refine k_get C0 hW 3 2 0 (v := .ref (a (o + 2))) rfl (by decide) inX3 mf_X3_20 rfl rfl dX3_howMany_14 ?_
        refine lv_iload_n hx hb dX3_howMany_17 rfl (lv_at hl 2 rfl) ?_
        have g18_2 := (gd_some hf).1; replace hf := (gd_some hf).2
        refine k_iald C0 hW 2 (ix x2) rfl (inb_in g18_2) rfl dX3_howMany_18 ?_
        refine lv_iconst (v := -1) hx hb dX3_howMany_19 (by decide) ?_
        refine lv_icmp_eq (tgt := 26) hx hb dX3_howMany_20 (by decide) (fun c20_3 => ?_) (fun c20_3 => ?_)
        · replace hf := if_t c20_3 hf
          exact J26 _ _ _ hf hF _ _ _ hW (lv_sub hl [0, 1, 2] rfl)
        · replace hf := if_f c20_3 hf
          refine lv_iinc (v := (x1 + (1 : Int32))) (lv' := [(1, .int (x1 + (1 : Int32))), (0, .ref (a o)), (2, .int x2)]) hx hb dX3_howMany_23 hl (k := 1) rfl rfl (by decide) rfl (fun ls hl => ?_)
          exact J26 _ _ _ hf hF _ _ _ hW (lv_sub hl [1, 0, 2] rfl)
    exact lp_sound (fun sg r hb hz => B4 sg.1 sg.2 r hb hz)
  obtain ⟨r, hr⟩ : ∃ r, f_X3_howMany nr nc w = some r ∧ r = out := ⟨out, hf, rfl⟩
  replace hf := hr.1
  have hF := hr.2
  clear hr
  unfold f_X3_howMany at hf
  refine lv_iconst (v := 0) hx hb dX3_howMany_0 (by decide) ?_
  refine lv_istore_n (lv' := [(1, .int (0 : Int32)), (0, .ref (a o))]) hx hb dX3_howMany_1 rfl hl (by decide) rfl (fun ls hl => ?_)
  refine lv_iconst (v := 0) hx hb dX3_howMany_2 (by decide) ?_
  refine lv_istore_n (lv' := [(2, .int (0 : Int32)), (1, .int (0 : Int32)), (0, .ref (a o))]) hx hb dX3_howMany_3 rfl hl (by decide) rfl (fun ls hl => ?_)
  exact L4  fuel ((0 : Int32), (0 : Int32)) _ hf hF _ _ _ hW (lv_sub hl [2, 1, 0] rfl)

def f_X3_isMissing (nr : Nat) (nc : Nat) (w : Sh) (x1 : Int32) : Option (Int32) :=
  gd (inb x1 nr) (if ((sh_sizes w) (ix x1)) = (-1 : Int32) then (some (1 : Int32)) else (some (0 : Int32)))
set_option maxRecDepth 100000 in
set_option maxHeartbeats 8000000 in
theorem c_X3_isMissing (l : Launch) (G : GG) (a : Nat → Nat) (o : Nat) (nr : Nat) (nc : Nat) (w : Sh) (x1 : Int32) (out : Int32) (hf : f_X3_isMissing nr nc w x1 = some out) : Cn l G 0 yX3_isMissing cX3_isMissing 2 (some .boolean) [.ref (a o), .int x1] (bSh G nr nc a o w) (some (.int out)) (bSh G nr nc a o w) := by
  refine cn_start (by decide) (Nat.le_of_ble_eq_true rfl) ?_
  intro p e s m below meth c A ls C0 hW hl
  have hx := C0.1
  have hb := C0.2.1
  have hl : lv_has ls 2 [(0, .ref (a o)), (1, .int x1)] := hl
  obtain ⟨r, hr⟩ : ∃ r, f_X3_isMissing nr nc w x1 = some r ∧ r = out := ⟨out, hf, rfl⟩
  replace hf := hr.1
  have hF := hr.2
  clear hr
  unfold f_X3_isMissing at hf
  refine lv_aload_n hx hb dX3_isMissing_0 rfl (lv_at hl 0 rfl) ?_
  refine k_get C0 hW 3 2 0 (v := .ref (a (o + 2))) rfl (by decide) inX3 mf_X3_20 rfl rfl dX3_isMissing_1 ?_
  refine lv_iload_n hx hb dX3_isMissing_4 rfl (lv_at hl 1 rfl) ?_
  have g5_1 := (gd_some hf).1; replace hf := (gd_some hf).2
  refine k_iald C0 hW 2 (ix x1) rfl (inb_in g5_1) rfl dX3_isMissing_5 ?_
  refine lv_iconst (v := -1) hx hb dX3_isMissing_6 (by decide) ?_
  refine lv_icmp_ne (tgt := 14) hx hb dX3_isMissing_7 (by decide) (fun c7_2 => ?_) (fun c7_2 => ?_)
  · replace hf := if_f c7_2 hf
    refine lv_iconst (v := 0) hx hb dX3_isMissing_14 (by decide) ?_
    have e1 := Option.some.inj hf
    subst e1
    have hF : ((0 : Int32) : Int32) = out := hF
    subst hF
    exact k_zret C0 hW rfl dX3_isMissing_15
  · replace hf := if_t c7_2 hf
    refine lv_iconst (v := 1) hx hb dX3_isMissing_10 (by decide) ?_
    refine lv_goto (tgt := 15) hx hb dX3_isMissing_11 (by decide) ?_
    have e1 := Option.some.inj hf
    subst e1
    have hF : ((1 : Int32) : Int32) = out := hF
    subst hF
    exact k_zret C0 hW rfl dX3_isMissing_15

def f_X3_isNumber (nr : Nat) (nc : Nat) (w : Sh) (x1 : Int32) : Option (Int32) :=
  if x1 < 0 then (some (0 : Int32)) else (if (Int32.ofNat nr) ≤ x1 then (some (0 : Int32)) else (some (1 : Int32)))
set_option maxRecDepth 100000 in
set_option maxHeartbeats 8000000 in
theorem c_X3_isNumber (l : Launch) (G : GG) (a : Nat → Nat) (o : Nat) (nr : Nat) (nc : Nat) (w : Sh) (x1 : Int32) (out : Int32) (hf : f_X3_isNumber nr nc w x1 = some out) : Cn l G 0 yX3_isNumber cX3_isNumber 2 (some .boolean) [.ref (a o), .int x1] (bSh G nr nc a o w) (some (.int out)) (bSh G nr nc a o w) := by
  refine cn_start (by decide) (Nat.le_of_ble_eq_true rfl) ?_
  intro p e s m below meth c A ls C0 hW hl
  have hx := C0.1
  have hb := C0.2.1
  have hl : lv_has ls 2 [(0, .ref (a o)), (1, .int x1)] := hl
  obtain ⟨r, hr⟩ : ∃ r, f_X3_isNumber nr nc w x1 = some r ∧ r = out := ⟨out, hf, rfl⟩
  replace hf := hr.1
  have hF := hr.2
  clear hr
  unfold f_X3_isNumber at hf
  refine lv_iload_n hx hb dX3_isNumber_0 rfl (lv_at hl 1 rfl) ?_
  refine lv_if_lt (tgt := 17) hx hb dX3_isNumber_1 (by decide) (fun c1_1 => ?_) (fun c1_1 => ?_)
  · replace hf := if_t c1_1 hf
    refine lv_iconst (v := 0) hx hb dX3_isNumber_17 (by decide) ?_
    have e1 := Option.some.inj hf
    subst e1
    have hF : ((0 : Int32) : Int32) = out := hF
    subst hF
    exact k_zret C0 hW rfl dX3_isNumber_18
  · replace hf := if_f c1_1 hf
    refine lv_iload_n hx hb dX3_isNumber_4 rfl (lv_at hl 1 rfl) ?_
    refine lv_aload_n hx hb dX3_isNumber_5 rfl (lv_at hl 0 rfl) ?_
    refine k_get C0 hW 3 2 0 (v := .ref (a (o + 2))) rfl (by decide) inX3 mf_X3_20 rfl rfl dX3_isNumber_6 ?_
    refine k_alen C0 hW 2 (v := (Int32.ofNat nr)) rfl rfl dX3_isNumber_9 ?_
    refine lv_icmp_ge (tgt := 17) hx hb dX3_isNumber_10 (by decide) (fun c10_2 => ?_) (fun c10_2 => ?_)
    · replace hf := if_t c10_2 hf
      refine lv_iconst (v := 0) hx hb dX3_isNumber_17 (by decide) ?_
      have e1 := Option.some.inj hf
      subst e1
      have hF : ((0 : Int32) : Int32) = out := hF
      subst hF
      exact k_zret C0 hW rfl dX3_isNumber_18
    · replace hf := if_f c10_2 hf
      refine lv_iconst (v := 1) hx hb dX3_isNumber_13 (by decide) ?_
      refine lv_goto (tgt := 18) hx hb dX3_isNumber_14 (by decide) ?_
      have e1 := Option.some.inj hf
      subst e1
      have hF : ((1 : Int32) : Int32) = out := hF
      subst hF
      exact k_zret C0 hW rfl dX3_isNumber_18

def f_X3_isPlace (nr : Nat) (nc : Nat) (w : Sh) (x1 : Int32) (x2 : Int32) : Option (Int32) :=
  if x2 < 0 then (some (0 : Int32)) else (gd (inb x1 nr) (if ((sh_sizes w) (ix x1)) ≤ x2 then (some (0 : Int32)) else (some (1 : Int32))))
set_option maxRecDepth 100000 in
set_option maxHeartbeats 8000000 in
theorem c_X3_isPlace (l : Launch) (G : GG) (a : Nat → Nat) (o : Nat) (nr : Nat) (nc : Nat) (w : Sh) (x1 : Int32) (x2 : Int32) (out : Int32) (hf : f_X3_isPlace nr nc w x1 x2 = some out) : Cn l G 0 yX3_isPlace cX3_isPlace 3 (some .boolean) [.ref (a o), .int x1, .int x2] (bSh G nr nc a o w) (some (.int out)) (bSh G nr nc a o w) := by
  refine cn_start (by decide) (Nat.le_of_ble_eq_true rfl) ?_
  intro p e s m below meth c A ls C0 hW hl
  have hx := C0.1
  have hb := C0.2.1
  have hl : lv_has ls 3 [(0, .ref (a o)), (1, .int x1), (2, .int x2)] := hl
  obtain ⟨r, hr⟩ : ∃ r, f_X3_isPlace nr nc w x1 x2 = some r ∧ r = out := ⟨out, hf, rfl⟩
  replace hf := hr.1
  have hF := hr.2
  clear hr
  unfold f_X3_isPlace at hf
  refine lv_iload_n hx hb dX3_isPlace_0 rfl (lv_at hl 2 rfl) ?_
  refine lv_if_lt (tgt := 18) hx hb dX3_isPlace_1 (by decide) (fun c1_1 => ?_) (fun c1_1 => ?_)
  · replace hf := if_t c1_1 hf
    refine lv_iconst (v := 0) hx hb dX3_isPlace_18 (by decide) ?_
    have e1 := Option.some.inj hf
    subst e1
    have hF : ((0 : Int32) : Int32) = out := hF
    subst hF
    exact k_zret C0 hW rfl dX3_isPlace_19
  · replace hf := if_f c1_1 hf
    refine lv_iload_n hx hb dX3_isPlace_4 rfl (lv_at hl 2 rfl) ?_
    refine lv_aload_n hx hb dX3_isPlace_5 rfl (lv_at hl 0 rfl) ?_
    refine k_get C0 hW 3 2 0 (v := .ref (a (o + 2))) rfl (by decide) inX3 mf_X3_20 rfl rfl dX3_isPlace_6 ?_
    refine lv_iload_n hx hb dX3_isPlace_9 rfl (lv_at hl 1 rfl) ?_
    have g10_2 := (gd_some hf).1; replace hf := (gd_some hf).2
    refine k_iald C0 hW 2 (ix x1) rfl (inb_in g10_2) rfl dX3_isPlace_10 ?_
    refine lv_icmp_ge (tgt := 18) hx hb dX3_isPlace_11 (by decide) (fun c11_3 => ?_) (fun c11_3 => ?_)
    · replace hf := if_t c11_3 hf
      refine lv_iconst (v := 0) hx hb dX3_isPlace_18 (by decide) ?_
      have e1 := Option.some.inj hf
      subst e1
      have hF : ((0 : Int32) : Int32) = out := hF
      subst hF
      exact k_zret C0 hW rfl dX3_isPlace_19
    · replace hf := if_f c11_3 hf
      refine lv_iconst (v := 1) hx hb dX3_isPlace_14 (by decide) ?_
      refine lv_goto (tgt := 19) hx hb dX3_isPlace_15 (by decide) ?_
      have e1 := Option.some.inj hf
      subst e1
      have hF : ((1 : Int32) : Int32) = out := hF
      subst hF
      exact k_zret C0 hW rfl dX3_isPlace_19

def f_X3_makeOne (nr : Nat) (nc : Nat) (w : Sh) (x1 : Int32) (x2 : Int32) (x3 : Int32) : Option (Sh) :=
  gd (inb x1 nr) (gd (inb x1 nr) (Option.bind (f_J7_fill_53178 nc ((sh_places w) (ix x1)) x3) (fun q14 => some (sh_set_sizes (sh_set_places w (updA (sh_places w) (ix x1) q14)) (upd (sh_sizes w) (ix x1) x2)))))
set_option maxRecDepth 100000 in
set_option maxHeartbeats 8000000 in
theorem c_X3_makeOne (l : Launch) (G : GG) (a : Nat → Nat) (o : Nat) (nr : Nat) (nc : Nat) (w : Sh) (x1 : Int32) (x2 : Int32) (x3 : Int32) (out : Sh) (hf : f_X3_makeOne nr nc w x1 x2 x3 = some out) : Cn l G 1 yX3_makeOne cX3_makeOne 4 (none) [.ref (a o), .int x1, .int x2, .int x3] (bSh G nr nc a o w) (none) (bSh G nr nc a o out) := by
  refine cn_start (by decide) (Nat.le_of_ble_eq_true rfl) ?_
  intro p e s m below meth c A ls C0 hW hl
  have hx := C0.1
  have hb := C0.2.1
  have hl : lv_has ls 4 [(0, .ref (a o)), (1, .int x1), (2, .int x2), (3, .int x3)] := hl
  obtain ⟨r, hr⟩ : ∃ r, f_X3_makeOne nr nc w x1 x2 x3 = some r ∧ r = out := ⟨out, hf, rfl⟩
  replace hf := hr.1
  have hF := hr.2
  clear hr
  unfold f_X3_makeOne at hf
  refine lv_aload_n hx hb dX3_makeOne_0 rfl (lv_at hl 0 rfl) ?_
  refine k_get C0 hW 3 2 0 (v := .ref (a (o + 2))) rfl (by decide) inX3 mf_X3_20 rfl rfl dX3_makeOne_1 ?_
  refine lv_iload_n hx hb dX3_makeOne_4 rfl (lv_at hl 1 rfl) ?_
  refine lv_iload_n hx hb dX3_makeOne_5 rfl (lv_at hl 2 rfl) ?_
  have g6_1 := (gd_some hf).1; replace hf := (gd_some hf).2
  refine k_iast C0 hW 2 (ix x1) rfl (inb_in g6_1) rfl dX3_makeOne_6 (fun H locs hW => ?_)
  have hW : Wd G A s.heap H (bSh G nr nc a o (sh_set_sizes w (upd (sh_sizes w) (ix x1) x2))) locs := hW
  refine lv_aload_n hx hb dX3_makeOne_7 rfl (lv_at hl 0 rfl) ?_
  refine k_get C0 hW 3 1 0 (v := .ref (a (o + 1))) rfl (by decide) inX3 mf_X3_17 rfl rfl dX3_makeOne_8 ?_
  refine lv_iload_n hx hb dX3_makeOne_11 rfl (lv_at hl 1 rfl) ?_
  have g12_2 := (gd_some hf).1; replace hf := (gd_some hf).2
  refine k_aaldI C0 hW 1 (b := a (o + 3 + ix x1)) rfl (inb_in g12_2) (if_pos (inb_lt g12_2)) dX3_makeOne_12 ?_
  refine lv_iload_n hx hb dX3_makeOne_13 rfl (lv_at hl 3 rfl) ?_
  obtain ⟨q14, hq14⟩ := ob_s hf
  replace hf := hq14.2
  replace hq14 := hq14.1
  refine cS1 (rest := []) (ws1 := (bSh G nr nc a o (sh_set_sizes (sh_set_places w (updA (sh_places w) (ix x1) q14)) (upd (sh_sizes w) (ix x1) x2)))) (st1 := []) C0 hW hl.1 (c_J7_fill_53178 l G (a (o + 3 + ix x1)) nc ((sh_places w) (ix x1)) x3 _ hq14) cb_J7_fill_53178 mm_X3_24 [3 + (ix x1)] rfl (congrArg (fun z => [z]) (sh_row (inb_lt g12_2))) rfl (by decide) rfl rfl (Nat.le_of_ble_eq_true rfl) ⟨Nat.zero_le _, Nat.zero_le _⟩ dX3_makeOne_14 rfl (sh_put (inb_lt g12_2) _) (fun H locs hW => ?_)
  have e1 := Option.some.inj hf
  subst e1
  have hF : ((sh_set_sizes (sh_set_places w (updA (sh_places w) (ix x1) q14)) (upd (sh_sizes w) (ix x1) x2)) : Sh) = out := hF
  subst hF
  exact k_vret C0 hW dX3_makeOne_17

def f_X3_mix_J69 (nr : Nat) (nc : Nat) (w : Sh) (x3 : Int64) (x5 : Int32) : Option ((Int64 × Int32) ⊕ (Int64)) :=
  some (Sum.inl (x3, (x5 + (1 : Int32))))
def f_X3_mix_B33 (nr : Nat) (nc : Nat) (w : Sh) (x5 : Int32) (x3 : Int64) (x6 : Int32) : Option ((Int64 × Int32) ⊕ ((Int64 × Int32) ⊕ (Int64))) :=
  gd (inb x5 nr) (if ((sh_sizes w) (ix x5)) ≤ x6 then (Option.map Sum.inr (f_X3_mix_J69 nr nc w x3 x5)) else (gd (inb x5 nr) (gd (inb x6 nc) (nm (((31 : Int64) * x3) + ((((sh_places w) (ix x5)) (ix x6)).toInt64)) (fun v62 => some (Sum.inl (v62, (x6 + (1 : Int32)))))))))
def f_X3_mix_L33 (nr : Nat) (nc : Nat) (w : Sh) (x5 : Int32) (sg : Int64 × Int32) : Option ((Int64 × Int32) ⊕ ((Int64 × Int32) ⊕ (Int64))) := f_X3_mix_B33 nr nc w x5 sg.1 sg.2
def f_X3_mix_B5 (nr : Nat) (nc : Nat) (w : Sh) (x3 : Int64) (x5 : Int32) : Option ((Int64 × Int32) ⊕ (Int64)) :=
  if (Int32.ofNat nr) ≤ x5 then (Option.map Sum.inr (some x3)) else (gd (inb x5 nr) (nm (((31 : Int64) * x3) + (((sh_sizes w) (ix x5)).toInt64)) (fun v29 => lp (f_X3_mix_L33 nr nc w x5) fuel (v29, (0 : Int32)))))
def f_X3_mix_L5 (nr : Nat) (nc : Nat) (w : Sh) (sg : Int64 × Int32) : Option ((Int64 × Int32) ⊕ (Int64)) := f_X3_mix_B5 nr nc w sg.1 sg.2
def f_X3_mix (nr : Nat) (nc : Nat) (w : Sh) (x1 : Int64) : Option (Int64) :=
  lp (f_X3_mix_L5 nr nc w) fuel (x1, (0 : Int32))
set_option maxRecDepth 100000 in
set_option maxHeartbeats 8000000 in
theorem c_X3_mix (l : Launch) (G : GG) (a : Nat → Nat) (o : Nat) (nr : Nat) (nc : Nat) (w : Sh) (x1 : Int64) (out : Int64) (hf : f_X3_mix nr nc w x1 = some out) : Cn l G 0 yX3_mix cX3_mix 7 (some .long) [.ref (a o), .long x1] (bSh G nr nc a o w) (some (.long out)) (bSh G nr nc a o w) := by
  refine cn_start (by decide) (Nat.le_of_ble_eq_true rfl) ?_
  intro p e s m below meth c A ls C0 hW hl
  have hx := C0.1
  have hb := C0.2.1
  have hl : lv_has ls 7 [(0, .ref (a o)), (1, .long x1)] := hl
  have L5 : ∀ (k8 : Nat) (sg : Int64 × Int32) (o9 : Int64), lp (f_X3_mix_L5 nr nc w) k8 sg = some o9 → (fun (r : Int64) => r = out) o9 → (fun (sg : Int64 × Int32) => ∀ (H : Heap) (locs : List Loc) (ls : Array Slot), Wd G A s.heap H (bSh G nr nc a o w) locs → lv_has ls 7 [(0, .ref (a o)), (3, .long sg.1), (5, .int sg.2)] → WW p l e 0 s m [.ref (a o), .long x1] below meth c G A (some (.long out)) ((bSh G nr nc a o w)) H locs 5 ls []) sg := by
    have J69 : ∀ (x3 : Int64) (x5 : Int32) (r : (Int64 × Int32) ⊕ (Int64)), f_X3_mix_J69 nr nc w x3 x5 = some r → (Sum.elim (fun (sg : Int64 × Int32) => ∀ (H : Heap) (locs : List Loc) (ls : Array Slot), Wd G A s.heap H (bSh G nr nc a o w) locs → lv_has ls 7 [(0, .ref (a o)), (3, .long sg.1), (5, .int sg.2)] → WW p l e 0 s m [.ref (a o), .long x1] below meth c G A (some (.long out)) ((bSh G nr nc a o w)) H locs 5 ls []) (fun (r : Int64) => r = out)) r → ∀ (H : Heap) (locs : List Loc) (ls : Array Slot), Wd G A s.heap H (bSh G nr nc a o w) locs → lv_has ls 7 [(0, .ref (a o)), (3, .long x3), (5, .int x5)] → WW p l e 0 s m [.ref (a o), .long x1] below meth c G A (some (.long out)) ((bSh G nr nc a o w)) H locs 69 ls [] := by
      intro x3 x5 r hf hF H locs ls hW hl
      unfold f_X3_mix_J69 at hf
      refine lv_iinc (v := (x5 + (1 : Int32))) (lv' := [(5, .int (x5 + (1 : Int32))), (0, .ref (a o)), (3, .long x3)]) hx hb dX3_mix_69 hl (k := 2) rfl rfl (by decide) rfl (fun ls hl => ?_)
      refine lv_goto (tgt := 5) hx hb dX3_mix_72 (by decide) ?_
      have e1 := Option.some.inj hf
      subst e1
      exact (elim_l hF) _ _ _ hW (lv_sub hl [1, 2, 0] rfl)
    have L33 : ∀ (x5 : Int32) (k8 : Nat) (sg : Int64 × Int32) (o9 : (Int64 × Int32) ⊕ (Int64)), lp (f_X3_mix_L33 nr nc w x5) k8 sg = some o9 → (Sum.elim (fun (sg : Int64 × Int32) => ∀ (H : Heap) (locs : List Loc) (ls : Array Slot), Wd G A s.heap H (bSh G nr nc a o w) locs → lv_has ls 7 [(0, .ref (a o)), (3, .long sg.1), (5, .int sg.2)] → WW p l e 0 s m [.ref (a o), .long x1] below meth c G A (some (.long out)) ((bSh G nr nc a o w)) H locs 5 ls []) (fun (r : Int64) => r = out)) o9 → (fun (sg : Int64 × Int32) => ∀ (H : Heap) (locs : List Loc) (ls : Array Slot), Wd G A s.heap H (bSh G nr nc a o w) locs → lv_has ls 7 [(0, .ref (a o)), (3, .long sg.1), (5, .int x5), (6, .int sg.2)] → WW p l e 0 s m [.ref (a o), .long x1] below meth c G A (some (.long out)) ((bSh G nr nc a o w)) H locs 33 ls []) sg := by
      intro x5
      have B33 : ∀ (x3 : Int64) (x6 : Int32) (r : (Int64 × Int32) ⊕ ((Int64 × Int32) ⊕ (Int64))), f_X3_mix_B33 nr nc w x5 x3 x6 = some r → (Sum.elim (fun (sg : Int64 × Int32) => ∀ (H : Heap) (locs : List Loc) (ls : Array Slot), Wd G A s.heap H (bSh G nr nc a o w) locs → lv_has ls 7 [(0, .ref (a o)), (3, .long sg.1), (5, .int x5), (6, .int sg.2)] → WW p l e 0 s m [.ref (a o), .long x1] below meth c G A (some (.long out)) ((bSh G nr nc a o w)) H locs 33 ls []) (Sum.elim (fun (sg : Int64 × Int32) => ∀ (H : Heap) (locs : List Loc) (ls : Array Slot), Wd G A s.heap H (bSh G nr nc a o w) locs → lv_has ls 7 [(0, .ref (a o)), (3, .long sg.1), (5, .int sg.2)] → WW p l e 0 s m [.ref (a o), .long x1] below meth c G A (some (.long out)) ((bSh G nr nc a o w)) H locs 5 ls []) (fun (r : Int64) => r = out))) r → ∀ (H : Heap) (locs : List Loc) (ls : Array Slot), Wd G A s.heap H (bSh G nr nc a o w) locs → lv_has ls 7 [(0, .ref (a o)), (3, .long x3), (5, .int x5), (6, .int x6)] → WW p l e 0 s m [.ref (a o), .long x1] below meth c G A (some (.long out)) ((bSh G nr nc a o w)) H locs 33 ls [] := by
        intro x3 x6 r hf hF H locs ls hW hl
        unfold f_X3_mix_B33 at hf
        refine lv_iload hx hb dX3_mix_33 (lv_at hl 3 rfl) ?_
        refine lv_aload_n hx hb dX3_mix_35 rfl (lv_at hl 0 rfl) ?_
        refine k_get C0 hW 3 2 0 (v := .ref (a (o + 2))) rfl (by decide) inX3 mf_X3_20 rfl rfl dX3_mix_36 ?_
        refine lv_iload hx hb dX3_mix_39 (lv_at hl 2 rfl) ?_
        have g41_4 := (gd_some hf).1; replace hf := (gd_some hf).2
        refine k_iald C0 hW 2 (ix x5) rfl (inb_in g41_4) rfl dX3_mix_41 ?_
        refine lv_icmp_ge (tgt := 69) hx hb dX3_mix_42 (by decide) (fun c42_5 => ?_) (fun c42_5 => ?_)
        · replace hf := if_t c42_5 hf
          obtain ⟨r2, e2⟩ := om_s hf
          replace hf := e2.1
          replace e2 := e2.2
          subst e2
          replace hF := elim_r hF
          exact J69 _ _ _ hf hF _ _ _ hW (lv_sub hl [0, 1, 2] rfl)
        · replace hf := if_f c42_5 hf
          refine lv_ldc2 hx hb C0.2.2.2.2.2.1 (C0.2.2.2.2.2.2.1 _ mk_X3_36) dX3_mix_45 ?_
          refine lv_lload_n hx hb dX3_mix_48 rfl (lv_at hl 1 rfl) ?_
          refine lv_lmul hx hb dX3_mix_49 ?_
          refine lv_aload_n hx hb dX3_mix_50 rfl (lv_at hl 0 rfl) ?_
          refine k_get C0 hW 3 1 0 (v := .ref (a (o + 1))) rfl (by decide) inX3 mf_X3_17 rfl rfl dX3_mix_51 ?_
          refine lv_iload hx hb dX3_mix_54 (lv_at hl 2 rfl) ?_
          have g56_6 := (gd_some hf).1; replace hf := (gd_some hf).2
          refine k_aaldI C0 hW 1 (b := a (o + 3 + ix x5)) rfl (inb_in g56_6) (if_pos (inb_lt g56_6)) dX3_mix_56 ?_
          refine lv_iload hx hb dX3_mix_57 (lv_at hl 3 rfl) ?_
          have g59_7 := (gd_some hf).1; replace hf := (gd_some hf).2
          refine k_iald C0 hW (3 + (ix x5)) (ix x6) (sh_row (inb_lt g56_6)) (inb_in g59_7) rfl dX3_mix_59 ?_
          refine lv_i2l (v := (((sh_places w) (ix x5)) (ix x6)).toInt64) hx hb dX3_mix_60 rfl ?_
          refine lv_ladd hx hb dX3_mix_61 ?_
          refine lv_topl (fun v62 ev62 => ?_)
          replace hf := nm_s ev62 hf
          refine lv_lstore_n (lv' := [(3, .long v62), (0, .ref (a o)), (5, .int x5), (6, .int x6)]) hx hb dX3_mix_62 rfl hl (by decide) rfl (fun ls hl => ?_)
          refine lv_iinc (v := (x6 + (1 : Int32))) (lv' := [(6, .int (x6 + (1 : Int32))), (3, .long v62), (0, .ref (a o)), (5, .int x5)]) hx hb dX3_mix_63 hl (k := 3) rfl rfl (by decide) rfl (fun ls hl => ?_)
          refine lv_goto (tgt := 33) hx hb dX3_mix_66 (by decide) ?_
          have e1 := Option.some.inj hf
          subst e1
          exact (elim_l hF) _ _ _ hW (lv_sub hl [2, 1, 3, 0] rfl)
      exact lp_sound (fun sg r hb hz => B33 sg.1 sg.2 r hb hz)
    have B5 : ∀ (x3 : Int64) (x5 : Int32) (r : (Int64 × Int32) ⊕ (Int64)), f_X3_mix_B5 nr nc w x3 x5 = some r → (Sum.elim (fun (sg : Int64 × Int32) => ∀ (H : Heap) (locs : List Loc) (ls : Array Slot), Wd G A s.heap H (bSh G nr nc a o w) locs → lv_has ls 7 [(0, .ref (a o)), (3, .long sg.1), (5, .int sg.2)] → WW p l e 0 s m [.ref (a o), .long x1] below meth c G A (some (.long out)) ((bSh G nr nc a o w)) H locs 5 ls []) (fun (r : Int64) => r = out)) r → ∀ (H : Heap) (locs : List Loc) (ls : Array Slot), Wd G A s.heap H (bSh G nr nc a o w) locs → lv_has ls 7 [(0, .ref (a o)), (3, .long x3), (5, .int x5)] → WW p l e 0 s m [.ref (a o), .long x1] below meth c G A (some (.long out)) ((bSh G nr nc a o w)) H locs 5 ls [] := by
      intro x3 x5 r hf hF H locs ls hW hl
      unfold f_X3_mix_B5 at hf
      refine lv_iload hx hb dX3_mix_5 (lv_at hl 2 rfl) ?_
      refine lv_aload_n hx hb dX3_mix_7 rfl (lv_at hl 0 rfl) ?_
      refine k_get C0 hW 3 2 0 (v := .ref (a (o + 2))) rfl (by decide) inX3 mf_X3_20 rfl rfl dX3_mix_8 ?_
      refine k_alen C0 hW 2 (v := (Int32.ofNat nr)) rfl rfl dX3_mix_11 ?_
      refine lv_icmp_ge (tgt := 75) hx hb dX3_mix_12 (by decide) (fun c12_1 => ?_) (fun c12_1 => ?_)
      · replace hf := if_t c12_1 hf
        obtain ⟨r2, e2⟩ := om_s hf
        replace hf := e2.1
        replace e2 := e2.2
        subst e2
        replace hF := elim_r hF
        refine lv_lload_n hx hb dX3_mix_75 rfl (lv_at hl 1 rfl) ?_
        have e1 := Option.some.inj hf
        subst e1
        have hF : (x3 : Int64) = out := hF
        subst hF
        exact k_lret C0 hW dX3_mix_76
      · replace hf := if_f c12_1 hf
        refine lv_ldc2 hx hb C0.2.2.2.2.2.1 (C0.2.2.2.2.2.2.1 _ mk_X3_36) dX3_mix_15 ?_
        refine lv_lload_n hx hb dX3_mix_18 rfl (lv_at hl 1 rfl) ?_
        refine lv_lmul hx hb dX3_mix_19 ?_
        refine lv_aload_n hx hb dX3_mix_20 rfl (lv_at hl 0 rfl) ?_
        refine k_get C0 hW 3 2 0 (v := .ref (a (o + 2))) rfl (by decide) inX3 mf_X3_20 rfl rfl dX3_mix_21 ?_
        refine lv_iload hx hb dX3_mix_24 (lv_at hl 2 rfl) ?_
        have g26_2 := (gd_some hf).1; replace hf := (gd_some hf).2
        refine k_iald C0 hW 2 (ix x5) rfl (inb_in g26_2) rfl dX3_mix_26 ?_
        refine lv_i2l (v := ((sh_sizes w) (ix x5)).toInt64) hx hb dX3_mix_27 rfl ?_
        refine lv_ladd hx hb dX3_mix_28 ?_
        refine lv_topl (fun v29 ev29 => ?_)
        replace hf := nm_s ev29 hf
        refine lv_lstore_n (lv' := [(3, .long v29), (0, .ref (a o)), (5, .int x5)]) hx hb dX3_mix_29 rfl hl (by decide) rfl (fun ls hl => ?_)
        refine lv_iconst (v := 0) hx hb dX3_mix_30 (by decide) ?_
        refine lv_istore (lv' := [(6, .int (0 : Int32)), (3, .long v29), (0, .ref (a o)), (5, .int x5)]) hx hb dX3_mix_31 hl (by decide) rfl (fun ls hl => ?_)
        exact L33 _ fuel (v29, (0 : Int32)) _ hf hF _ _ _ hW (lv_sub hl [2, 1, 3, 0] rfl)
    exact lp_sound (fun sg r hb hz => B5 sg.1 sg.2 r hb hz)
  obtain ⟨r, hr⟩ : ∃ r, f_X3_mix nr nc w x1 = some r ∧ r = out := ⟨out, hf, rfl⟩
  replace hf := hr.1
  have hF := hr.2
  clear hr
  unfold f_X3_mix at hf
  refine lv_lload_n hx hb dX3_mix_0 rfl (lv_at hl 1 rfl) ?_
  refine lv_lstore_n (lv' := [(3, .long x1), (0, .ref (a o)), (1, .long x1)]) hx hb dX3_mix_1 rfl hl (by decide) rfl (fun ls hl => ?_)
  refine lv_iconst (v := 0) hx hb dX3_mix_2 (by decide) ?_
  refine lv_istore (lv' := [(5, .int (0 : Int32)), (3, .long x1), (0, .ref (a o)), (1, .long x1)]) hx hb dX3_mix_3 hl (by decide) rfl (fun ls hl => ?_)
  exact L5  fuel (x1, (0 : Int32)) _ hf hF _ _ _ hW (lv_sub hl [2, 1, 0] rfl)

def f_X3_move (nr : Nat) (nc : Nat) (w : Sh) (x1 : Int32) (x2 : Int32) (x3 : Int32) (x4 : Int32) (x5 : Int32) : Option (Sh) :=
  gd (inb x1 nr) (gd (inb x3 nr) (gd (cpyok x2 x4 x5 nc nc) (some (sh_set_places w (updA (sh_places w) (ix x3) (acpy ((sh_places w) (ix x1)) ((sh_places w) (ix x3)) x2 x4 x5))))))
set_option maxRecDepth 100000 in
set_option maxHeartbeats 8000000 in
theorem c_X3_move (l : Launch) (G : GG) (a : Nat → Nat) (o : Nat) (nr : Nat) (nc : Nat) (w : Sh) (x1 : Int32) (x2 : Int32) (x3 : Int32) (x4 : Int32) (x5 : Int32) (out : Sh) (hf : f_X3_move nr nc w x1 x2 x3 x4 x5 = some out) : Cn l G 1 yX3_move cX3_move 6 (none) [.ref (a o), .int x1, .int x2, .int x3, .int x4, .int x5] (bSh G nr nc a o w) (none) (bSh G nr nc a o out) := by
  refine cn_start (by decide) (Nat.le_of_ble_eq_true rfl) ?_
  intro p e s m below meth c A ls C0 hW hl
  have hx := C0.1
  have hb := C0.2.1
  have hl : lv_has ls 6 [(0, .ref (a o)), (1, .int x1), (2, .int x2), (3, .int x3), (4, .int x4), (5, .int x5)] := hl
  obtain ⟨r, hr⟩ : ∃ r, f_X3_move nr nc w x1 x2 x3 x4 x5 = some r ∧ r = out := ⟨out, hf, rfl⟩
  replace hf := hr.1
  have hF := hr.2
  clear hr
  unfold f_X3_move at hf
  refine lv_aload_n hx hb dX3_move_0 rfl (lv_at hl 0 rfl) ?_
  refine k_get C0 hW 3 1 0 (v := .ref (a (o + 1))) rfl (by decide) inX3 mf_X3_17 rfl rfl dX3_move_1 ?_
  refine lv_iload_n hx hb dX3_move_4 rfl (lv_at hl 1 rfl) ?_
  have g5_1 := (gd_some hf).1; replace hf := (gd_some hf).2
  refine k_aaldI C0 hW 1 (b := a (o + 3 + ix x1)) rfl (inb_in g5_1) (if_pos (inb_lt g5_1)) dX3_move_5 ?_
  refine lv_iload_n hx hb dX3_move_6 rfl (lv_at hl 2 rfl) ?_
  refine lv_aload_n hx hb dX3_move_7 rfl (lv_at hl 0 rfl) ?_
  refine k_get C0 hW 3 1 0 (v := .ref (a (o + 1))) rfl (by decide) inX3 mf_X3_17 rfl rfl dX3_move_8 ?_
  refine lv_iload_n hx hb dX3_move_11 rfl (lv_at hl 3 rfl) ?_
  have g12_2 := (gd_some hf).1; replace hf := (gd_some hf).2
  refine k_aaldI C0 hW 1 (b := a (o + 3 + ix x3)) rfl (inb_in g12_2) (if_pos (inb_lt g12_2)) dX3_move_12 ?_
  refine lv_iload hx hb dX3_move_13 (lv_at hl 4 rfl) ?_
  refine lv_iload hx hb dX3_move_15 (lv_at hl 5 rfl) ?_
  have g17_3 := (gd_some hf).1; replace hf := (gd_some hf).2
  refine k_copy C0 hW hl.1 mm_X3_30 (by decide) (Nat.le_of_ble_eq_true rfl) (3 + (ix x1)) (3 + (ix x3)) (sh_row (inb_lt g5_1)) (sh_row (inb_lt g12_2)) g17_3 dX3_move_17 (fun H locs hW => ?_)
  replace hW := wd_eq (sh_put (inb_lt g12_2) _) hW
  have hW : Wd G A s.heap H (bSh G nr nc a o (sh_set_places w (updA (sh_places w) (ix x3) (acpy ((sh_places w) (ix x1)) ((sh_places w) (ix x3)) x2 x4 x5)))) locs := hW
  have e1 := Option.some.inj hf
  subst e1
  have hF : ((sh_set_places w (updA (sh_places w) (ix x3) (acpy ((sh_places w) (ix x1)) ((sh_places w) (ix x3)) x2 x4 x5))) : Sh) = out := hF
  subst hF
  exact k_vret C0 hW dX3_move_20

def f_X3_placesOf (nr : Nat) (nc : Nat) (w : Sh) (x1 : Int32) : Option (Nat) :=
  gd (inb x1 nr) (some (ix x1))
set_option maxRecDepth 100000 in
set_option maxHeartbeats 8000000 in
theorem c_X3_placesOf (l : Launch) (G : GG) (a : Nat → Nat) (o : Nat) (nr : Nat) (nc : Nat) (w : Sh) (x1 : Int32) (out : Nat) (hf : f_X3_placesOf nr nc w x1 = some out) : Cn l G 0 yX3_placesOf cX3_placesOf 2 (some (.array .int)) [.ref (a o), .int x1] (bSh G nr nc a o w) (some (.ref (a (o + 3 + out)))) (bSh G nr nc a o w) := by
  refine cn_start (by decide) (Nat.le_of_ble_eq_true rfl) ?_
  intro p e s m below meth c A ls C0 hW hl
  have hx := C0.1
  have hb := C0.2.1
  have hl : lv_has ls 2 [(0, .ref (a o)), (1, .int x1)] := hl
  obtain ⟨r, hr⟩ : ∃ r, f_X3_placesOf nr nc w x1 = some r ∧ r = out := ⟨out, hf, rfl⟩
  replace hf := hr.1
  have hF := hr.2
  clear hr
  unfold f_X3_placesOf at hf
  refine lv_aload_n hx hb dX3_placesOf_0 rfl (lv_at hl 0 rfl) ?_
  refine k_get C0 hW 3 1 0 (v := .ref (a (o + 1))) rfl (by decide) inX3 mf_X3_17 rfl rfl dX3_placesOf_1 ?_
  refine lv_iload_n hx hb dX3_placesOf_4 rfl (lv_at hl 1 rfl) ?_
  have g5_1 := (gd_some hf).1; replace hf := (gd_some hf).2
  refine k_aaldI C0 hW 1 (b := a (o + 3 + ix x1)) rfl (inb_in g5_1) (if_pos (inb_lt g5_1)) dX3_placesOf_5 ?_
  have e1 := Option.some.inj hf
  subst e1
  have hF : ((ix x1) : Nat) = out := hF
  subst hF
  exact k_aret C0 hW dX3_placesOf_6

def f_X3_set (nr : Nat) (nc : Nat) (w : Sh) (x1 : Int32) (x2 : Int32) (x3 : Int32) : Option (Int32 × Sh) :=
  gd (inb x1 nr) (gd (inb x2 nc) (nm (((sh_places w) (ix x1)) (ix x2)) (fun v8 => gd (inb x1 nr) (gd (inb x2 nc) (some (v8, (sh_set_places w (updA (sh_places w) (ix x1) (upd ((sh_places w) (ix x1)) (ix x2) x3)))))))))
set_option maxRecDepth 100000 in
set_option maxHeartbeats 8000000 in
theorem c_X3_set (l : Launch) (G : GG) (a : Nat → Nat) (o : Nat) (nr : Nat) (nc : Nat) (w : Sh) (x1 : Int32) (x2 : Int32) (x3 : Int32) (out : Int32 × Sh) (hf : f_X3_set nr nc w x1 x2 x3 = some out) : Cn l G 0 yX3_set cX3_set 5 (some .int) [.ref (a o), .int x1, .int x2, .int x3] (bSh G nr nc a o w) (some (.int out.1)) (bSh G nr nc a o out.2) := by
  refine cn_start (by decide) (Nat.le_of_ble_eq_true rfl) ?_
  intro p e s m below meth c A ls C0 hW hl
  have hx := C0.1
  have hb := C0.2.1
  have hl : lv_has ls 5 [(0, .ref (a o)), (1, .int x1), (2, .int x2), (3, .int x3)] := hl
  obtain ⟨r, hr⟩ : ∃ r, f_X3_set nr nc w x1 x2 x3 = some r ∧ r = out := ⟨out, hf, rfl⟩
  replace hf := hr.1
  have hF := hr.2
  clear hr
  unfold f_X3_set at hf
  refine lv_aload_n hx hb dX3_set_0 rfl (lv_at hl 0 rfl) ?_
  refine k_get C0 hW 3 1 0 (v := .ref (a (o + 1))) rfl (by decide) inX3 mf_X3_17 rfl rfl dX3_set_1 ?_
  refine lv_iload_n hx hb dX3_set_4 rfl (lv_at hl 1 rfl) ?_
  have g5_1 := (gd_some hf).1; replace hf := (gd_some hf).2
  refine k_aaldI C0 hW 1 (b := a (o + 3 + ix x1)) rfl (inb_in g5_1) (if_pos (inb_lt g5_1)) dX3_set_5 ?_
  refine lv_iload_n hx hb dX3_set_6 rfl (lv_at hl 2 rfl) ?_
  have g7_2 := (gd_some hf).1; replace hf := (gd_some hf).2
  refine k_iald C0 hW (3 + (ix x1)) (ix x2) (sh_row (inb_lt g5_1)) (inb_in g7_2) rfl dX3_set_7 ?_
  refine lv_topi (fun v8 ev8 => ?_)
  replace hf := nm_s ev8 hf
  refine lv_istore (lv' := [(4, .int v8), (0, .ref (a o)), (1, .int x1), (2, .int x2), (3, .int x3)]) hx hb dX3_set_8 hl (by decide) rfl (fun ls hl => ?_)
  refine lv_aload_n hx hb dX3_set_10 rfl (lv_at hl 1 rfl) ?_
  refine k_get C0 hW 3 1 0 (v := .ref (a (o + 1))) rfl (by decide) inX3 mf_X3_17 rfl rfl dX3_set_11 ?_
  refine lv_iload_n hx hb dX3_set_14 rfl (lv_at hl 2 rfl) ?_
  have g15_4 := (gd_some hf).1; replace hf := (gd_some hf).2
  refine k_aaldI C0 hW 1 (b := a (o + 3 + ix x1)) rfl (inb_in g15_4) (if_pos (inb_lt g15_4)) dX3_set_15 ?_
  refine lv_iload_n hx hb dX3_set_16 rfl (lv_at hl 3 rfl) ?_
  refine lv_iload_n hx hb dX3_set_17 rfl (lv_at hl 4 rfl) ?_
  have g18_5 := (gd_some hf).1; replace hf := (gd_some hf).2
  refine k_iast C0 hW (3 + (ix x1)) (ix x2) (sh_row (inb_lt g15_4)) (inb_in g18_5) rfl dX3_set_18 (fun H locs hW => ?_)
  replace hW := wd_eq (sh_put (inb_lt g15_4) _) hW
  have hW : Wd G A s.heap H (bSh G nr nc a o (sh_set_places w (updA (sh_places w) (ix x1) (upd ((sh_places w) (ix x1)) (ix x2) x3)))) locs := hW
  refine lv_iload hx hb dX3_set_19 (lv_at hl 0 rfl) ?_
  have e1 := Option.some.inj hf
  subst e1
  have hF : ((v8, (sh_set_places w (updA (sh_places w) (ix x1) (upd ((sh_places w) (ix x1)) (ix x2) x3)))) : Int32 × Sh) = out := hF
  subst hF
  exact k_iret C0 hW dX3_set_21

def f_X3_sizeOf (nr : Nat) (nc : Nat) (w : Sh) (x1 : Int32) : Option (Int32) :=
  gd (inb x1 nr) (some ((sh_sizes w) (ix x1)))
set_option maxRecDepth 100000 in
set_option maxHeartbeats 8000000 in
theorem c_X3_sizeOf (l : Launch) (G : GG) (a : Nat → Nat) (o : Nat) (nr : Nat) (nc : Nat) (w : Sh) (x1 : Int32) (out : Int32) (hf : f_X3_sizeOf nr nc w x1 = some out) : Cn l G 0 yX3_sizeOf cX3_sizeOf 2 (some .int) [.ref (a o), .int x1] (bSh G nr nc a o w) (some (.int out)) (bSh G nr nc a o w) := by
  refine cn_start (by decide) (Nat.le_of_ble_eq_true rfl) ?_
  intro p e s m below meth c A ls C0 hW hl
  have hx := C0.1
  have hb := C0.2.1
  have hl : lv_has ls 2 [(0, .ref (a o)), (1, .int x1)] := hl
  obtain ⟨r, hr⟩ : ∃ r, f_X3_sizeOf nr nc w x1 = some r ∧ r = out := ⟨out, hf, rfl⟩
  replace hf := hr.1
  have hF := hr.2
  clear hr
  unfold f_X3_sizeOf at hf
  refine lv_aload_n hx hb dX3_sizeOf_0 rfl (lv_at hl 0 rfl) ?_
  refine k_get C0 hW 3 2 0 (v := .ref (a (o + 2))) rfl (by decide) inX3 mf_X3_20 rfl rfl dX3_sizeOf_1 ?_
  refine lv_iload_n hx hb dX3_sizeOf_4 rfl (lv_at hl 1 rfl) ?_
  have g5_1 := (gd_some hf).1; replace hf := (gd_some hf).2
  refine k_iald C0 hW 2 (ix x1) rfl (inb_in g5_1) rfl dX3_sizeOf_5 ?_
  have e1 := Option.some.inj hf
  subst e1
  have hF : (((sh_sizes w) (ix x1)) : Int32) = out := hF
  subst hF
  exact k_iret C0 hW dX3_sizeOf_6

def f_X3_sum_B5 (nr : Nat) (nc : Nat) (w : Sh) (x1 : Int32) (x2 : Int64) (x4 : Int32) : Option ((Int64 × Int32) ⊕ (Int64)) :=
  gd (inb x1 nr) (if ((sh_sizes w) (ix x1)) ≤ x4 then (Option.map Sum.inr (some x2)) else (gd (inb x1 nr) (gd (inb x4 nc) (nm (x2 + ((((sh_places w) (ix x1)) (ix x4)).toInt64)) (fun v28 => some (Sum.inl (v28, (x4 + (1 : Int32)))))))))
def f_X3_sum_L5 (nr : Nat) (nc : Nat) (w : Sh) (x1 : Int32) (sg : Int64 × Int32) : Option ((Int64 × Int32) ⊕ (Int64)) := f_X3_sum_B5 nr nc w x1 sg.1 sg.2
def f_X3_sum (nr : Nat) (nc : Nat) (w : Sh) (x1 : Int32) : Option (Int64) :=
  lp (f_X3_sum_L5 nr nc w x1) fuel ((0 : Int64), (0 : Int32))
set_option maxRecDepth 100000 in
set_option maxHeartbeats 8000000 in
theorem c_X3_sum (l : Launch) (G : GG) (a : Nat → Nat) (o : Nat) (nr : Nat) (nc : Nat) (w : Sh) (x1 : Int32) (out : Int64) (hf : f_X3_sum nr nc w x1 = some out) : Cn l G 0 yX3_sum cX3_sum 5 (some .long) [.ref (a o), .int x1] (bSh G nr nc a o w) (some (.long out)) (bSh G nr nc a o w) := by
  refine cn_start (by decide) (Nat.le_of_ble_eq_true rfl) ?_
  intro p e s m below meth c A ls C0 hW hl
  have hx := C0.1
  have hb := C0.2.1
  have hl : lv_has ls 5 [(0, .ref (a o)), (1, .int x1)] := hl
  have L5 : ∀ (k8 : Nat) (sg : Int64 × Int32) (o9 : Int64), lp (f_X3_sum_L5 nr nc w x1) k8 sg = some o9 → (fun (r : Int64) => r = out) o9 → (fun (sg : Int64 × Int32) => ∀ (H : Heap) (locs : List Loc) (ls : Array Slot), Wd G A s.heap H (bSh G nr nc a o w) locs → lv_has ls 5 [(0, .ref (a o)), (1, .int x1), (2, .long sg.1), (4, .int sg.2)] → WW p l e 0 s m [.ref (a o), .int x1] below meth c G A (some (.long out)) ((bSh G nr nc a o w)) H locs 5 ls []) sg := by
    have B5 : ∀ (x2 : Int64) (x4 : Int32) (r : (Int64 × Int32) ⊕ (Int64)), f_X3_sum_B5 nr nc w x1 x2 x4 = some r → (Sum.elim (fun (sg : Int64 × Int32) => ∀ (H : Heap) (locs : List Loc) (ls : Array Slot), Wd G A s.heap H (bSh G nr nc a o w) locs → lv_has ls 5 [(0, .ref (a o)), (1, .int x1), (2, .long sg.1), (4, .int sg.2)] → WW p l e 0 s m [.ref (a o), .int x1] below meth c G A (some (.long out)) ((bSh G nr nc a o w)) H locs 5 ls []) (fun (r : Int64) => r = out)) r → ∀ (H : Heap) (locs : List Loc) (ls : Array Slot), Wd G A s.heap H (bSh G nr nc a o w) locs → lv_has ls 5 [(0, .ref (a o)), (1, .int x1), (2, .long x2), (4, .int x4)] → WW p l e 0 s m [.ref (a o), .int x1] below meth c G A (some (.long out)) ((bSh G nr nc a o w)) H locs 5 ls [] := by
      intro x2 x4 r hf hF H locs ls hW hl
      unfold f_X3_sum_B5 at hf
      refine lv_iload hx hb dX3_sum_5 (lv_at hl 3 rfl) ?_
      refine lv_aload_n hx hb dX3_sum_7 rfl (lv_at hl 0 rfl) ?_
      refine k_get C0 hW 3 2 0 (v := .ref (a (o + 2))) rfl (by decide) inX3 mf_X3_20 rfl rfl dX3_sum_8 ?_
      refine lv_iload_n hx hb dX3_sum_11 rfl (lv_at hl 1 rfl) ?_
      have g12_1 := (gd_some hf).1; replace hf := (gd_some hf).2
      refine k_iald C0 hW 2 (ix x1) rfl (inb_in g12_1) rfl dX3_sum_12 ?_
      refine lv_icmp_ge (tgt := 35) hx hb dX3_sum_13 (by decide) (fun c13_2 => ?_) (fun c13_2 => ?_)
      · replace hf := if_t c13_2 hf
        obtain ⟨r2, e2⟩ := om_s hf
        replace hf := e2.1
        replace e2 := e2.2
        subst e2
        replace hF := elim_r hF
        refine lv_lload_n hx hb dX3_sum_35 rfl (lv_at hl 2 rfl) ?_
        have e1 := Option.some.inj hf
        subst e1
        have hF : (x2 : Int64) = out := hF
        subst hF
        exact k_lret C0 hW dX3_sum_36
      · replace hf := if_f c13_2 hf
        refine lv_lload_n hx hb dX3_sum_16 rfl (lv_at hl 2 rfl) ?_
        refine lv_aload_n hx hb dX3_sum_17 rfl (lv_at hl 0 rfl) ?_
        refine k_get C0 hW 3 1 0 (v := .ref (a (o + 1))) rfl (by decide) inX3 mf_X3_17 rfl rfl dX3_sum_18 ?_
        refine lv_iload_n hx hb dX3_sum_21 rfl (lv_at hl 1 rfl) ?_
        have g22_3 := (gd_some hf).1; replace hf := (gd_some hf).2
        refine k_aaldI C0 hW 1 (b := a (o + 3 + ix x1)) rfl (inb_in g22_3) (if_pos (inb_lt g22_3)) dX3_sum_22 ?_
        refine lv_iload hx hb dX3_sum_23 (lv_at hl 3 rfl) ?_
        have g25_4 := (gd_some hf).1; replace hf := (gd_some hf).2
        refine k_iald C0 hW (3 + (ix x1)) (ix x4) (sh_row (inb_lt g22_3)) (inb_in g25_4) rfl dX3_sum_25 ?_
        refine lv_i2l (v := (((sh_places w) (ix x1)) (ix x4)).toInt64) hx hb dX3_sum_26 rfl ?_
        refine lv_ladd hx hb dX3_sum_27 ?_
        refine lv_topl (fun v28 ev28 => ?_)
        replace hf := nm_s ev28 hf
        refine lv_lstore_n (lv' := [(2, .long v28), (0, .ref (a o)), (1, .int x1), (4, .int x4)]) hx hb dX3_sum_28 rfl hl (by decide) rfl (fun ls hl => ?_)
        refine lv_iinc (v := (x4 + (1 : Int32))) (lv' := [(4, .int (x4 + (1 : Int32))), (2, .long v28), (0, .ref (a o)), (1, .int x1)]) hx hb dX3_sum_29 hl (k := 3) rfl rfl (by decide) rfl (fun ls hl => ?_)
        refine lv_goto (tgt := 5) hx hb dX3_sum_32 (by decide) ?_
        have e1 := Option.some.inj hf
        subst e1
        exact (elim_l hF) _ _ _ hW (lv_sub hl [2, 3, 1, 0] rfl)
    exact lp_sound (fun sg r hb hz => B5 sg.1 sg.2 r hb hz)
  obtain ⟨r, hr⟩ : ∃ r, f_X3_sum nr nc w x1 = some r ∧ r = out := ⟨out, hf, rfl⟩
  replace hf := hr.1
  have hF := hr.2
  clear hr
  unfold f_X3_sum at hf
  refine lv_lconst (v := 0) hx hb dX3_sum_0 (by decide) ?_
  refine lv_lstore_n (lv' := [(2, .long (0 : Int64)), (0, .ref (a o)), (1, .int x1)]) hx hb dX3_sum_1 rfl hl (by decide) rfl (fun ls hl => ?_)
  refine lv_iconst (v := 0) hx hb dX3_sum_2 (by decide) ?_
  refine lv_istore (lv' := [(4, .int (0 : Int32)), (2, .long (0 : Int64)), (0, .ref (a o)), (1, .int x1)]) hx hb dX3_sum_3 hl (by decide) rfl (fun ls hl => ?_)
  exact L5  fuel ((0 : Int64), (0 : Int32)) _ hf hF _ _ _ hW (lv_sub hl [2, 3, 1, 0] rfl)

def f_X4_bearingAs (w : Wh) (x1 : Int32) (x2 : Int32) : Option (Int32) :=
  gd (inb x2 8) (gd (inb x2 8) (Option.bind (f_X4_depth w) (fun q14 => Option.bind (f_X5_bearing x1 ((wh_strong w) (ix x2)) ((wh_wear w) (ix x2)) q14 (wh_dry w)) (fun q21 => some q21))))
set_option maxRecDepth 100000 in
set_option maxHeartbeats 8000000 in
theorem c_X4_bearingAs (l : Launch) (G : GG) (a : Nat → Nat) (o : Nat) (w : Wh) (x1 : Int32) (x2 : Int32) (out : Int32) (hf : f_X4_bearingAs w x1 x2 = some out) : Cn l G 2 yX4_bearingAs cX4_bearingAs 3 (some .int) [.ref (a o), .int x1, .int x2] (bWh G a o w) (some (.int out)) (bWh G a o w) := by
  refine cn_start (by decide) (Nat.le_of_ble_eq_true rfl) ?_
  intro p e s m below meth c A ls C0 hW hl
  have hx := C0.1
  have hb := C0.2.1
  have hl : lv_has ls 3 [(0, .ref (a o)), (1, .int x1), (2, .int x2)] := hl
  obtain ⟨r, hr⟩ : ∃ r, f_X4_bearingAs w x1 x2 = some r ∧ r = out := ⟨out, hf, rfl⟩
  replace hf := hr.1
  have hF := hr.2
  clear hr
  unfold f_X4_bearingAs at hf
  refine lv_iload_n hx hb dX4_bearingAs_0 rfl (lv_at hl 1 rfl) ?_
  refine lv_aload_n hx hb dX4_bearingAs_1 rfl (lv_at hl 0 rfl) ?_
  refine k_get C0 hW 4 3 0 (v := .ref (a (o + 4))) rfl (by decide) inX4 mf_X4_21 rfl rfl dX4_bearingAs_2 ?_
  refine lv_iload_n hx hb dX4_bearingAs_5 rfl (lv_at hl 2 rfl) ?_
  have g6_1 := (gd_some hf).1; replace hf := (gd_some hf).2
  refine k_iald C0 hW 4 (ix x2) rfl (inb_in g6_1) rfl dX4_bearingAs_6 ?_
  refine lv_aload_n hx hb dX4_bearingAs_7 rfl (lv_at hl 0 rfl) ?_
  refine k_get C0 hW 4 4 0 (v := .ref (a (o + 5))) rfl (by decide) inX4 mf_X4_24 rfl rfl dX4_bearingAs_8 ?_
  refine lv_iload_n hx hb dX4_bearingAs_11 rfl (lv_at hl 2 rfl) ?_
  have g12_2 := (gd_some hf).1; replace hf := (gd_some hf).2
  refine k_iald C0 hW 5 (ix x2) rfl (inb_in g12_2) rfl dX4_bearingAs_12 ?_
  refine lv_aload_n hx hb dX4_bearingAs_13 rfl (lv_at hl 0 rfl) ?_
  obtain ⟨q14, hq14⟩ := ob_s hf
  replace hf := hq14.2
  replace hq14 := hq14.1
  refine cW1 (rest := [.int ((wh_wear w) (ix x2)), .int ((wh_strong w) (ix x2)), .int x1]) (ws1 := (bWh G a o w)) (st1 := [.int q14, .int ((wh_wear w) (ix x2)), .int ((wh_strong w) (ix x2)), .int x1]) C0 hW hl.1 (c_X4_depth l G a o w _ hq14) cb_X4_depth mm_X4_63 rfl 0 4 rfl rfl rfl (by decide) rfl rfl (Nat.le_of_ble_eq_true rfl) ⟨Nat.zero_le _, Nat.zero_le _⟩ dX4_bearingAs_14 rfl (fun H locs hW => ?_)
  refine lv_aload_n hx hb dX4_bearingAs_17 rfl (lv_at hl 0 rfl) ?_
  refine k_get C0 hW 4 10 0 (v := .int (wh_dry w)) rfl (by decide) inX4 mf_X4_49 rfl rfl dX4_bearingAs_18 ?_
  obtain ⟨q21, hq21⟩ := ob_s hf
  replace hf := hq21.2
  replace hq21 := hq21.1
  refine cN0 (rest := []) (st1 := [.int q21]) C0 hW hl.1 (c_X5_bearing l G x1 ((wh_strong w) (ix x2)) ((wh_wear w) (ix x2)) q14 (wh_dry w) _ hq21) cb_X5_bearing mn_X4_66 [] rfl rfl (by decide) rfl rfl (Nat.le_of_ble_eq_true rfl) ⟨Nat.zero_le _, Nat.zero_le _⟩ dX4_bearingAs_21 rfl (fun H locs hW => ?_)
  have e1 := Option.some.inj hf
  subst e1
  have hF : (q21 : Int32) = out := hF
  subst hF
  exact k_iret C0 hW dX4_bearingAs_24

def f_X4_differs (w : Wh) (x1 : Int32) (x2 : Int32) : Option (Int32) :=
  gd (inb x1 8) (Option.bind (f_X4_bearingAs w ((wh_kind w) (ix x1)) x1) (fun q8 => if x2 = 1 then (Option.bind (f_X4_bearingAs w (0 : Int32) x1) (fun q51 => some (q51 - q8))) else if x2 = 3 then (Option.bind (f_X4_bearingAs w (2 : Int32) x1) (fun q61 => some (q8 - q61))) else if x2 = 5 then (Option.bind (f_X4_bearingAs w (4 : Int32) x1) (fun q69 => some (q69 - q8))) else Option.bind (f_X4_bearingAs w (0 : Int32) x1) (fun q79 => some ((q8 - q79) + (100 : Int32)))))
set_option maxRecDepth 100000 in
set_option maxHeartbeats 8000000 in
theorem c_X4_differs (l : Launch) (G : GG) (a : Nat → Nat) (o : Nat) (w : Wh) (x1 : Int32) (x2 : Int32) (out : Int32) (hf : f_X4_differs w x1 x2 = some out) : Cn l G 3 yX4_differs cX4_differs 4 (some .int) [.ref (a o), .int x1, .int x2] (bWh G a o w) (some (.int out)) (bWh G a o w) := by
  refine cn_start (by decide) (Nat.le_of_ble_eq_true rfl) ?_
  intro p e s m below meth c A ls C0 hW hl
  have hx := C0.1
  have hb := C0.2.1
  have hl : lv_has ls 4 [(0, .ref (a o)), (1, .int x1), (2, .int x2)] := hl
  obtain ⟨r, hr⟩ : ∃ r, f_X4_differs w x1 x2 = some r ∧ r = out := ⟨out, hf, rfl⟩
  replace hf := hr.1
  have hF := hr.2
  clear hr
  unfold f_X4_differs at hf
  refine lv_aload_n hx hb dX4_differs_0 rfl (lv_at hl 0 rfl) ?_
  refine lv_aload_n hx hb dX4_differs_1 rfl (lv_at hl 0 rfl) ?_
  refine k_get C0 hW 4 1 0 (v := .ref (a (o + 2))) rfl (by decide) inX4 mf_X4_15 rfl rfl dX4_differs_2 ?_
  refine lv_iload_n hx hb dX4_differs_5 rfl (lv_at hl 1 rfl) ?_
  have g6_1 := (gd_some hf).1; replace hf := (gd_some hf).2
  refine k_iald C0 hW 2 (ix x1) rfl (inb_in g6_1) rfl dX4_differs_6 ?_
  refine lv_iload_n hx hb dX4_differs_7 rfl (lv_at hl 1 rfl) ?_
  obtain ⟨q8, hq8⟩ := ob_s hf
  replace hf := hq8.2
  replace hq8 := hq8.1
  refine cW1 (rest := []) (ws1 := (bWh G a o w)) (st1 := [.int q8]) C0 hW hl.1 (c_X4_bearingAs l G a o w ((wh_kind w) (ix x1)) x1 _ hq8) cb_X4_bearingAs mm_X4_74 rfl 0 4 rfl rfl rfl (by decide) rfl rfl (Nat.le_of_ble_eq_true rfl) ⟨Nat.zero_le _, Nat.zero_le _⟩ dX4_differs_8 rfl (fun H locs hW => ?_)
  refine lv_istore_n (lv' := [(3, .int q8), (0, .ref (a o)), (1, .int x1), (2, .int x2)]) hx hb dX4_differs_11 rfl hl (by decide) rfl (fun ls hl => ?_)
  refine lv_iload_n hx hb dX4_differs_12 rfl (lv_at hl 3 rfl) ?_
  by_cases c13_2 : x2 = 1
  · replace hf := if_t c13_2 hf
    refine lv_tableIn (off := 35) (tgt := 48) hx hb dX4_differs_13 (by rw [c13_2]; decide) (by rw [c13_2]; decide) (by rw [c13_2]; rfl) (by decide) ?_
    refine lv_aload_n hx hb dX4_differs_48 rfl (lv_at hl 1 rfl) ?_
    refine lv_iconst (v := 0) hx hb dX4_differs_49 (by decide) ?_
    refine lv_iload_n hx hb dX4_differs_50 rfl (lv_at hl 2 rfl) ?_
    obtain ⟨q51, hq51⟩ := ob_s hf
    replace hf := hq51.2
    replace hq51 := hq51.1
    refine cW1 (rest := []) (ws1 := (bWh G a o w)) (st1 := [.int q51]) C0 hW hl.1 (c_X4_bearingAs l G a o w (0 : Int32) x1 _ hq51) cb_X4_bearingAs mm_X4_74 rfl 0 4 rfl rfl rfl (by decide) rfl rfl (Nat.le_of_ble_eq_true rfl) ⟨Nat.zero_le _, Nat.zero_le _⟩ dX4_differs_51 rfl (fun H locs hW => ?_)
    refine lv_iload_n hx hb dX4_differs_54 rfl (lv_at hl 0 rfl) ?_
    refine lv_isub hx hb dX4_differs_55 ?_
    have e1 := Option.some.inj hf
    subst e1
    have hF : ((q51 - q8) : Int32) = out := hF
    subst hF
    exact k_iret C0 hW dX4_differs_56
  replace hf := if_f c13_2 hf
  by_cases c13_3 : x2 = 3
  · replace hf := if_t c13_3 hf
    refine lv_tableIn (off := 44) (tgt := 57) hx hb dX4_differs_13 (by rw [c13_3]; decide) (by rw [c13_3]; decide) (by rw [c13_3]; rfl) (by decide) ?_
    refine lv_iload_n hx hb dX4_differs_57 rfl (lv_at hl 0 rfl) ?_
    refine lv_aload_n hx hb dX4_differs_58 rfl (lv_at hl 1 rfl) ?_
    refine lv_iconst (v := 2) hx hb dX4_differs_59 (by decide) ?_
    refine lv_iload_n hx hb dX4_differs_60 rfl (lv_at hl 2 rfl) ?_
    obtain ⟨q61, hq61⟩ := ob_s hf
    replace hf := hq61.2
    replace hq61 := hq61.1
    refine cW1 (rest := [.int q8]) (ws1 := (bWh G a o w)) (st1 := [.int q61, .int q8]) C0 hW hl.1 (c_X4_bearingAs l G a o w (2 : Int32) x1 _ hq61) cb_X4_bearingAs mm_X4_74 rfl 0 4 rfl rfl rfl (by decide) rfl rfl (Nat.le_of_ble_eq_true rfl) ⟨Nat.zero_le _, Nat.zero_le _⟩ dX4_differs_61 rfl (fun H locs hW => ?_)
    refine lv_isub hx hb dX4_differs_64 ?_
    have e1 := Option.some.inj hf
    subst e1
    have hF : ((q8 - q61) : Int32) = out := hF
    subst hF
    exact k_iret C0 hW dX4_differs_65
  replace hf := if_f c13_3 hf
  by_cases c13_4 : x2 = 5
  · replace hf := if_t c13_4 hf
    refine lv_tableIn (off := 53) (tgt := 66) hx hb dX4_differs_13 (by rw [c13_4]; decide) (by rw [c13_4]; decide) (by rw [c13_4]; rfl) (by decide) ?_
    refine lv_aload_n hx hb dX4_differs_66 rfl (lv_at hl 1 rfl) ?_
    refine lv_iconst (v := 4) hx hb dX4_differs_67 (by decide) ?_
    refine lv_iload_n hx hb dX4_differs_68 rfl (lv_at hl 2 rfl) ?_
    obtain ⟨q69, hq69⟩ := ob_s hf
    replace hf := hq69.2
    replace hq69 := hq69.1
    refine cW1 (rest := []) (ws1 := (bWh G a o w)) (st1 := [.int q69]) C0 hW hl.1 (c_X4_bearingAs l G a o w (4 : Int32) x1 _ hq69) cb_X4_bearingAs mm_X4_74 rfl 0 4 rfl rfl rfl (by decide) rfl rfl (Nat.le_of_ble_eq_true rfl) ⟨Nat.zero_le _, Nat.zero_le _⟩ dX4_differs_69 rfl (fun H locs hW => ?_)
    refine lv_iload_n hx hb dX4_differs_72 rfl (lv_at hl 0 rfl) ?_
    refine lv_isub hx hb dX4_differs_73 ?_
    have e1 := Option.some.inj hf
    subst e1
    have hF : ((q69 - q8) : Int32) = out := hF
    subst hF
    exact k_iret C0 hW dX4_differs_74
  replace hf := if_f c13_4 hf
  by_cases c13_5 : x2 = 2
  · refine lv_tableIn (off := 62) (tgt := 75) hx hb dX4_differs_13 (by rw [c13_5]; decide) (by rw [c13_5]; decide) (by rw [c13_5]; rfl) (by decide) ?_
    refine lv_iload_n hx hb dX4_differs_75 rfl (lv_at hl 0 rfl) ?_
    refine lv_aload_n hx hb dX4_differs_76 rfl (lv_at hl 1 rfl) ?_
    refine lv_iconst (v := 0) hx hb dX4_differs_77 (by decide) ?_
    refine lv_iload_n hx hb dX4_differs_78 rfl (lv_at hl 2 rfl) ?_
    obtain ⟨q79, hq79⟩ := ob_s hf
    replace hf := hq79.2
    replace hq79 := hq79.1
    refine cW1 (rest := [.int q8]) (ws1 := (bWh G a o w)) (st1 := [.int q79, .int q8]) C0 hW hl.1 (c_X4_bearingAs l G a o w (0 : Int32) x1 _ hq79) cb_X4_bearingAs mm_X4_74 rfl 0 4 rfl rfl rfl (by decide) rfl rfl (Nat.le_of_ble_eq_true rfl) ⟨Nat.zero_le _, Nat.zero_le _⟩ dX4_differs_79 rfl (fun H locs hW => ?_)
    refine lv_isub hx hb dX4_differs_82 ?_
    refine lv_bipush (v := 100) hx hb dX4_differs_83 (by decide) ?_
    refine lv_iadd hx hb dX4_differs_85 ?_
    have e1 := Option.some.inj hf
    subst e1
    have hF : (((q8 - q79) + (100 : Int32)) : Int32) = out := hF
    subst hF
    exact k_iret C0 hW dX4_differs_86
  by_cases c13_6 : x2 = 4
  · refine lv_tableIn (off := 62) (tgt := 75) hx hb dX4_differs_13 (by rw [c13_6]; decide) (by rw [c13_6]; decide) (by rw [c13_6]; rfl) (by decide) ?_
    refine lv_iload_n hx hb dX4_differs_75 rfl (lv_at hl 0 rfl) ?_
    refine lv_aload_n hx hb dX4_differs_76 rfl (lv_at hl 1 rfl) ?_
    refine lv_iconst (v := 0) hx hb dX4_differs_77 (by decide) ?_
    refine lv_iload_n hx hb dX4_differs_78 rfl (lv_at hl 2 rfl) ?_
    obtain ⟨q79, hq79⟩ := ob_s hf
    replace hf := hq79.2
    replace hq79 := hq79.1
    refine cW1 (rest := [.int q8]) (ws1 := (bWh G a o w)) (st1 := [.int q79, .int q8]) C0 hW hl.1 (c_X4_bearingAs l G a o w (0 : Int32) x1 _ hq79) cb_X4_bearingAs mm_X4_74 rfl 0 4 rfl rfl rfl (by decide) rfl rfl (Nat.le_of_ble_eq_true rfl) ⟨Nat.zero_le _, Nat.zero_le _⟩ dX4_differs_79 rfl (fun H locs hW => ?_)
    refine lv_isub hx hb dX4_differs_82 ?_
    refine lv_bipush (v := 100) hx hb dX4_differs_83 (by decide) ?_
    refine lv_iadd hx hb dX4_differs_85 ?_
    have e1 := Option.some.inj hf
    subst e1
    have hF : (((q8 - q79) + (100 : Int32)) : Int32) = out := hF
    subst hF
    exact k_iret C0 hW dX4_differs_86
  refine lv_tableOut (tgt := 75) hx hb dX4_differs_13 (by have := lv_neT c13_2 (show (1 : Int32).toInt = 1 from rfl); have := lv_neT c13_3 (show (3 : Int32).toInt = 3 from rfl); have := lv_neT c13_4 (show (5 : Int32).toInt = 5 from rfl); have := lv_neT c13_5 (show (2 : Int32).toInt = 2 from rfl); have := lv_neT c13_6 (show (4 : Int32).toInt = 4 from rfl); omega) (by decide) ?_
  refine lv_iload_n hx hb dX4_differs_75 rfl (lv_at hl 0 rfl) ?_
  refine lv_aload_n hx hb dX4_differs_76 rfl (lv_at hl 1 rfl) ?_
  refine lv_iconst (v := 0) hx hb dX4_differs_77 (by decide) ?_
  refine lv_iload_n hx hb dX4_differs_78 rfl (lv_at hl 2 rfl) ?_
  obtain ⟨q79, hq79⟩ := ob_s hf
  replace hf := hq79.2
  replace hq79 := hq79.1
  refine cW1 (rest := [.int q8]) (ws1 := (bWh G a o w)) (st1 := [.int q79, .int q8]) C0 hW hl.1 (c_X4_bearingAs l G a o w (0 : Int32) x1 _ hq79) cb_X4_bearingAs mm_X4_74 rfl 0 4 rfl rfl rfl (by decide) rfl rfl (Nat.le_of_ble_eq_true rfl) ⟨Nat.zero_le _, Nat.zero_le _⟩ dX4_differs_79 rfl (fun H locs hW => ?_)
  refine lv_isub hx hb dX4_differs_82 ?_
  refine lv_bipush (v := 100) hx hb dX4_differs_83 (by decide) ?_
  refine lv_iadd hx hb dX4_differs_85 ?_
  have e1 := Option.some.inj hf
  subst e1
  have hF : (((q8 - q79) + (100 : Int32)) : Int32) = out := hF
  subst hF
  exact k_iret C0 hW dX4_differs_86

def f_X4_facet (w : Wh) (x1 : Int32) (x2 : Int32) : Option (Int32) :=
  if x2 = 0 then (gd (inb x1 8) (some ((wh_kind w) (ix x1)))) else if x2 = 1 then (gd (inb x1 8) (some ((wh_length w) (ix x1)))) else if x2 = 2 then (gd (inb x1 8) (some ((wh_strong w) (ix x1)))) else if x2 = 3 then (gd (inb x1 8) (some ((wh_wear w) (ix x1)))) else if x2 = 4 then (Option.bind (f_X4_isThere w x1) (fun q66 => if q66 = 0 then (some (0 : Int32)) else (some (1 : Int32)))) else gd (inb x1 8) (Option.bind (f_X4_bearingAs w ((wh_kind w) (ix x1)) x1) (fun q86 => some q86))
set_option maxRecDepth 100000 in
set_option maxHeartbeats 8000000 in
theorem c_X4_facet (l : Launch) (G : GG) (a : Nat → Nat) (o : Nat) (w : Wh) (x1 : Int32) (x2 : Int32) (out : Int32) (hf : f_X4_facet w x1 x2 = some out) : Cn l G 3 yX4_facet cX4_facet 3 (some .int) [.ref (a o), .int x1, .int x2] (bWh G a o w) (some (.int out)) (bWh G a o w) := by
  refine cn_start (by decide) (Nat.le_of_ble_eq_true rfl) ?_
  intro p e s m below meth c A ls C0 hW hl
  have hx := C0.1
  have hb := C0.2.1
  have hl : lv_has ls 3 [(0, .ref (a o)), (1, .int x1), (2, .int x2)] := hl
  obtain ⟨r, hr⟩ : ∃ r, f_X4_facet w x1 x2 = some r ∧ r = out := ⟨out, hf, rfl⟩
  replace hf := hr.1
  have hF := hr.2
  clear hr
  unfold f_X4_facet at hf
  refine lv_iload_n hx hb dX4_facet_0 rfl (lv_at hl 2 rfl) ?_
  by_cases c1_1 : x2 = 0
  · replace hf := if_t c1_1 hf
    refine lv_tableIn (off := 35) (tgt := 36) hx hb dX4_facet_1 (by rw [c1_1]; decide) (by rw [c1_1]; decide) (by rw [c1_1]; rfl) (by decide) ?_
    refine lv_aload_n hx hb dX4_facet_36 rfl (lv_at hl 0 rfl) ?_
    refine k_get C0 hW 4 1 0 (v := .ref (a (o + 2))) rfl (by decide) inX4 mf_X4_15 rfl rfl dX4_facet_37 ?_
    refine lv_iload_n hx hb dX4_facet_40 rfl (lv_at hl 1 rfl) ?_
    have g41_2 := (gd_some hf).1; replace hf := (gd_some hf).2
    refine k_iald C0 hW 2 (ix x1) rfl (inb_in g41_2) rfl dX4_facet_41 ?_
    have e1 := Option.some.inj hf
    subst e1
    have hF : (((wh_kind w) (ix x1)) : Int32) = out := hF
    subst hF
    exact k_iret C0 hW dX4_facet_42
  replace hf := if_f c1_1 hf
  by_cases c1_3 : x2 = 1
  · replace hf := if_t c1_3 hf
    refine lv_tableIn (off := 42) (tgt := 43) hx hb dX4_facet_1 (by rw [c1_3]; decide) (by rw [c1_3]; decide) (by rw [c1_3]; rfl) (by decide) ?_
    refine lv_aload_n hx hb dX4_facet_43 rfl (lv_at hl 0 rfl) ?_
    refine k_get C0 hW 4 2 0 (v := .ref (a (o + 3))) rfl (by decide) inX4 mf_X4_18 rfl rfl dX4_facet_44 ?_
    refine lv_iload_n hx hb dX4_facet_47 rfl (lv_at hl 1 rfl) ?_
    have g48_4 := (gd_some hf).1; replace hf := (gd_some hf).2
    refine k_iald C0 hW 3 (ix x1) rfl (inb_in g48_4) rfl dX4_facet_48 ?_
    have e1 := Option.some.inj hf
    subst e1
    have hF : (((wh_length w) (ix x1)) : Int32) = out := hF
    subst hF
    exact k_iret C0 hW dX4_facet_49
  replace hf := if_f c1_3 hf
  by_cases c1_5 : x2 = 2
  · replace hf := if_t c1_5 hf
    refine lv_tableIn (off := 49) (tgt := 50) hx hb dX4_facet_1 (by rw [c1_5]; decide) (by rw [c1_5]; decide) (by rw [c1_5]; rfl) (by decide) ?_
    refine lv_aload_n hx hb dX4_facet_50 rfl (lv_at hl 0 rfl) ?_
    refine k_get C0 hW 4 3 0 (v := .ref (a (o + 4))) rfl (by decide) inX4 mf_X4_21 rfl rfl dX4_facet_51 ?_
    refine lv_iload_n hx hb dX4_facet_54 rfl (lv_at hl 1 rfl) ?_
    have g55_6 := (gd_some hf).1; replace hf := (gd_some hf).2
    refine k_iald C0 hW 4 (ix x1) rfl (inb_in g55_6) rfl dX4_facet_55 ?_
    have e1 := Option.some.inj hf
    subst e1
    have hF : (((wh_strong w) (ix x1)) : Int32) = out := hF
    subst hF
    exact k_iret C0 hW dX4_facet_56
  replace hf := if_f c1_5 hf
  by_cases c1_7 : x2 = 3
  · replace hf := if_t c1_7 hf
    refine lv_tableIn (off := 56) (tgt := 57) hx hb dX4_facet_1 (by rw [c1_7]; decide) (by rw [c1_7]; decide) (by rw [c1_7]; rfl) (by decide) ?_
    refine lv_aload_n hx hb dX4_facet_57 rfl (lv_at hl 0 rfl) ?_
    refine k_get C0 hW 4 4 0 (v := .ref (a (o + 5))) rfl (by decide) inX4 mf_X4_24 rfl rfl dX4_facet_58 ?_
    refine lv_iload_n hx hb dX4_facet_61 rfl (lv_at hl 1 rfl) ?_
    have g62_8 := (gd_some hf).1; replace hf := (gd_some hf).2
    refine k_iald C0 hW 5 (ix x1) rfl (inb_in g62_8) rfl dX4_facet_62 ?_
    have e1 := Option.some.inj hf
    subst e1
    have hF : (((wh_wear w) (ix x1)) : Int32) = out := hF
    subst hF
    exact k_iret C0 hW dX4_facet_63
  replace hf := if_f c1_7 hf
  by_cases c1_9 : x2 = 4
  · replace hf := if_t c1_9 hf
    refine lv_tableIn (off := 63) (tgt := 64) hx hb dX4_facet_1 (by rw [c1_9]; decide) (by rw [c1_9]; decide) (by rw [c1_9]; rfl) (by decide) ?_
    refine lv_aload_n hx hb dX4_facet_64 rfl (lv_at hl 0 rfl) ?_
    refine lv_iload_n hx hb dX4_facet_65 rfl (lv_at hl 1 rfl) ?_
    obtain ⟨q66, hq66⟩ := ob_s hf
    replace hf := hq66.2
    replace hq66 := hq66.1
    refine cW1 (rest := []) (ws1 := (bWh G a o w)) (st1 := [.int q66]) C0 hW hl.1 (c_X4_isThere l G a o w x1 _ hq66) cb_X4_isThere mm_X4_70 rfl 0 4 rfl rfl rfl (by decide) rfl rfl (Nat.le_of_ble_eq_true rfl) ⟨Nat.zero_le _, Nat.zero_le _⟩ dX4_facet_66 rfl (fun H locs hW => ?_)
    refine lv_if_eq (tgt := 76) hx hb dX4_facet_69 (by decide) (fun c69_10 => ?_) (fun c69_10 => ?_)
    · replace hf := if_t c69_10 hf
      refine lv_iconst (v := 0) hx hb dX4_facet_76 (by decide) ?_
      have e1 := Option.some.inj hf
      subst e1
      have hF : ((0 : Int32) : Int32) = out := hF
      subst hF
      exact k_iret C0 hW dX4_facet_77
    · replace hf := if_f c69_10 hf
      refine lv_iconst (v := 1) hx hb dX4_facet_72 (by decide) ?_
      refine lv_goto (tgt := 77) hx hb dX4_facet_73 (by decide) ?_
      have e1 := Option.some.inj hf
      subst e1
      have hF : ((1 : Int32) : Int32) = out := hF
      subst hF
      exact k_iret C0 hW dX4_facet_77
  replace hf := if_f c1_9 hf
  refine lv_tableOut (tgt := 78) hx hb dX4_facet_1 (by have := lv_neT c1_1 (show (0 : Int32).toInt = 0 from rfl); have := lv_neT c1_3 (show (1 : Int32).toInt = 1 from rfl); have := lv_neT c1_5 (show (2 : Int32).toInt = 2 from rfl); have := lv_neT c1_7 (show (3 : Int32).toInt = 3 from rfl); have := lv_neT c1_9 (show (4 : Int32).toInt = 4 from rfl); omega) (by decide) ?_
  refine lv_aload_n hx hb dX4_facet_78 rfl (lv_at hl 0 rfl) ?_
  refine lv_aload_n hx hb dX4_facet_79 rfl (lv_at hl 0 rfl) ?_
  refine k_get C0 hW 4 1 0 (v := .ref (a (o + 2))) rfl (by decide) inX4 mf_X4_15 rfl rfl dX4_facet_80 ?_
  refine lv_iload_n hx hb dX4_facet_83 rfl (lv_at hl 1 rfl) ?_
  have g84_11 := (gd_some hf).1; replace hf := (gd_some hf).2
  refine k_iald C0 hW 2 (ix x1) rfl (inb_in g84_11) rfl dX4_facet_84 ?_
  refine lv_iload_n hx hb dX4_facet_85 rfl (lv_at hl 1 rfl) ?_
  obtain ⟨q86, hq86⟩ := ob_s hf
  replace hf := hq86.2
  replace hq86 := hq86.1
  refine cW1 (rest := []) (ws1 := (bWh G a o w)) (st1 := [.int q86]) C0 hW hl.1 (c_X4_bearingAs l G a o w ((wh_kind w) (ix x1)) x1 _ hq86) cb_X4_bearingAs mm_X4_74 rfl 0 4 rfl rfl rfl (by decide) rfl rfl (Nat.le_of_ble_eq_true rfl) ⟨Nat.zero_le _, Nat.zero_le _⟩ dX4_facet_86 rfl (fun H locs hW => ?_)
  have e1 := Option.some.inj hf
  subst e1
  have hF : (q86 : Int32) = out := hF
  subst hF
  exact k_iret C0 hW dX4_facet_89

def f_X5_isOfKind_J14  : Option (Int32) :=
  some (1 : Int32)
def f_X5_isOfKind (x0 : Int32) (x1 : Int32) : Option (Int32) :=
  if x0 = x1 then f_X5_isOfKind_J14 else (gd (inb x0 6) (if (parentsA (ix x0)) = x1 then f_X5_isOfKind_J14 else (some (0 : Int32))))
set_option maxRecDepth 100000 in
set_option maxHeartbeats 8000000 in
theorem c_X5_isOfKind (l : Launch) (G : GG) (x0 : Int32) (x1 : Int32) (out : Int32) (hf : f_X5_isOfKind x0 x1 = some out) : Cn l G 0 yX5_isOfKind cX5_isOfKind 2 (some .boolean) [.int x0, .int x1] ([] : va_W) (some (.int out)) ([] : va_W) := by
  refine cn_start (by decide) (Nat.le_of_ble_eq_true rfl) ?_
  intro p e s m below meth c A ls C0 hW hl
  have hx := C0.1
  have hb := C0.2.1
  have hl : lv_has ls 2 [(0, .int x0), (1, .int x1)] := hl
  have J14 : ∀ (r : Int32), f_X5_isOfKind_J14 = some r → (fun (r : Int32) => r = out) r → ∀ (H : Heap) (locs : List Loc) (ls : Array Slot), Wd G A s.heap H ([] : va_W) locs → lv_has ls 2 [] → WW p l e 0 s m [.int x0, .int x1] below meth c G A (some (.int out)) (([] : va_W)) H locs 14 ls [] := by
    intro r hf hF H locs ls hW hl
    unfold f_X5_isOfKind_J14 at hf
    refine lv_iconst (v := 1) hx hb dX5_isOfKind_14 (by decide) ?_
    refine lv_goto (tgt := 19) hx hb dX5_isOfKind_15 (by decide) ?_
    have e1 := Option.some.inj hf
    subst e1
    have hF : ((1 : Int32) : Int32) = out := hF
    subst hF
    exact k_zret C0 hW rfl dX5_isOfKind_19
  obtain ⟨r, hr⟩ : ∃ r, f_X5_isOfKind x0 x1 = some r ∧ r = out := ⟨out, hf, rfl⟩
  replace hf := hr.1
  have hF := hr.2
  clear hr
  unfold f_X5_isOfKind at hf
  refine lv_iload_n hx hb dX5_isOfKind_0 rfl (lv_at hl 0 rfl) ?_
  refine lv_iload_n hx hb dX5_isOfKind_1 rfl (lv_at hl 1 rfl) ?_
  refine lv_icmp_eq (tgt := 14) hx hb dX5_isOfKind_2 (by decide) (fun c2_1 => ?_) (fun c2_1 => ?_)
  · replace hf := if_t c2_1 hf
    exact J14  _ hf hF _ _ _ hW (lv_sub hl [] rfl)
  · replace hf := if_f c2_1 hf
    refine k_sparents C0 hW mf_X5_335 dX5_isOfKind_5 ?_
    refine lv_iload_n hx hb dX5_isOfKind_8 rfl (lv_at hl 0 rfl) ?_
    have g9_2 := (gd_some hf).1; replace hf := (gd_some hf).2
    refine k_aparents C0 hW (inb_in g9_2) dX5_isOfKind_9 ?_
    refine lv_iload_n hx hb dX5_isOfKind_10 rfl (lv_at hl 1 rfl) ?_
    refine lv_icmp_ne (tgt := 18) hx hb dX5_isOfKind_11 (by decide) (fun c11_3 => ?_) (fun c11_3 => ?_)
    · replace hf := if_f c11_3 hf
      refine lv_iconst (v := 0) hx hb dX5_isOfKind_18 (by decide) ?_
      have e1 := Option.some.inj hf
      subst e1
      have hF : ((0 : Int32) : Int32) = out := hF
      subst hF
      exact k_zret C0 hW rfl dX5_isOfKind_19
    · replace hf := if_t c11_3 hf
      exact J14  _ hf hF _ _ _ hW (lv_sub hl [] rfl)

def f_X4_ironOnes_J28 (w : Wh) (x1 : Int32) (x2 : Int32) : Option ((Int32 × Int32) ⊕ (Int32)) :=
  some (Sum.inl (x1, (x2 + (1 : Int32))))
def f_X4_ironOnes_B4 (w : Wh) (x1 : Int32) (x2 : Int32) : Option ((Int32 × Int32) ⊕ (Int32)) :=
  if (wh_spokes w) ≤ x2 then (Option.map Sum.inr (some x1)) else (gd (inb x2 8) (Option.bind (f_X5_isOfKind ((wh_kind w) (ix x2)) (4 : Int32)) (fun q19 => if q19 = 0 then (f_X4_ironOnes_J28 w x1 x2) else (f_X4_ironOnes_J28 w (x1 + (1 : Int32)) x2))))
def f_X4_ironOnes_L4 (w : Wh) (sg : Int32 × Int32) : Option ((Int32 × Int32) ⊕ (Int32)) := f_X4_ironOnes_B4 w sg.1 sg.2
def f_X4_ironOnes (w : Wh) : Option (Int32) :=
  lp (f_X4_ironOnes_L4 w) fuel ((0 : Int32), (0 : Int32))
set_option maxRecDepth 100000 in
set_option maxHeartbeats 8000000 in
theorem c_X4_ironOnes (l : Launch) (G : GG) (a : Nat → Nat) (o : Nat) (w : Wh) (out : Int32) (hf : f_X4_ironOnes w = some out) : Cn l G 1 yX4_ironOnes cX4_ironOnes 3 (some .int) [.ref (a o)] (bWh G a o w) (some (.int out)) (bWh G a o w) := by
  refine cn_start (by decide) (Nat.le_of_ble_eq_true rfl) ?_
  intro p e s m below meth c A ls C0 hW hl
  have hx := C0.1
  have hb := C0.2.1
  have hl : lv_has ls 3 [(0, .ref (a o))] := hl
  have L4 : ∀ (k8 : Nat) (sg : Int32 × Int32) (o9 : Int32), lp (f_X4_ironOnes_L4 w) k8 sg = some o9 → (fun (r : Int32) => r = out) o9 → (fun (sg : Int32 × Int32) => ∀ (H : Heap) (locs : List Loc) (ls : Array Slot), Wd G A s.heap H (bWh G a o w) locs → lv_has ls 3 [(0, .ref (a o)), (1, .int sg.1), (2, .int sg.2)] → WW p l e 1 s m [.ref (a o)] below meth c G A (some (.int out)) ((bWh G a o w)) H locs 4 ls []) sg := by
    have J28 : ∀ (x1 : Int32) (x2 : Int32) (r : (Int32 × Int32) ⊕ (Int32)), f_X4_ironOnes_J28 w x1 x2 = some r → (Sum.elim (fun (sg : Int32 × Int32) => ∀ (H : Heap) (locs : List Loc) (ls : Array Slot), Wd G A s.heap H (bWh G a o w) locs → lv_has ls 3 [(0, .ref (a o)), (1, .int sg.1), (2, .int sg.2)] → WW p l e 1 s m [.ref (a o)] below meth c G A (some (.int out)) ((bWh G a o w)) H locs 4 ls []) (fun (r : Int32) => r = out)) r → ∀ (H : Heap) (locs : List Loc) (ls : Array Slot), Wd G A s.heap H (bWh G a o w) locs → lv_has ls 3 [(0, .ref (a o)), (1, .int x1), (2, .int x2)] → WW p l e 1 s m [.ref (a o)] below meth c G A (some (.int out)) ((bWh G a o w)) H locs 28 ls [] := by
      intro x1 x2 r hf hF H locs ls hW hl
      unfold f_X4_ironOnes_J28 at hf
      refine lv_iinc (v := (x2 + (1 : Int32))) (lv' := [(2, .int (x2 + (1 : Int32))), (0, .ref (a o)), (1, .int x1)]) hx hb dX4_ironOnes_28 hl (k := 2) rfl rfl (by decide) rfl (fun ls hl => ?_)
      refine lv_goto (tgt := 4) hx hb dX4_ironOnes_31 (by decide) ?_
      have e1 := Option.some.inj hf
      subst e1
      exact (elim_l hF) _ _ _ hW (lv_sub hl [1, 2, 0] rfl)
    have B4 : ∀ (x1 : Int32) (x2 : Int32) (r : (Int32 × Int32) ⊕ (Int32)), f_X4_ironOnes_B4 w x1 x2 = some r → (Sum.elim (fun (sg : Int32 × Int32) => ∀ (H : Heap) (locs : List Loc) (ls : Array Slot), Wd G A s.heap H (bWh G a o w) locs → lv_has ls 3 [(0, .ref (a o)), (1, .int sg.1), (2, .int sg.2)] → WW p l e 1 s m [.ref (a o)] below meth c G A (some (.int out)) ((bWh G a o w)) H locs 4 ls []) (fun (r : Int32) => r = out)) r → ∀ (H : Heap) (locs : List Loc) (ls : Array Slot), Wd G A s.heap H (bWh G a o w) locs → lv_has ls 3 [(0, .ref (a o)), (1, .int x1), (2, .int x2)] → WW p l e 1 s m [.ref (a o)] below meth c G A (some (.int out)) ((bWh G a o w)) H locs 4 ls [] := by
      intro x1 x2 r hf hF H locs ls hW hl
      unfold f_X4_ironOnes_B4 at hf
      refine lv_iload_n hx hb dX4_ironOnes_4 rfl (lv_at hl 2 rfl) ?_
      refine lv_aload_n hx hb dX4_ironOnes_5 rfl (lv_at hl 0 rfl) ?_
      refine k_get C0 hW 4 5 0 (v := .int (wh_spokes w)) rfl (by decide) inX4 mf_X4_33 rfl rfl dX4_ironOnes_6 ?_
      refine lv_icmp_ge (tgt := 34) hx hb dX4_ironOnes_9 (by decide) (fun c9_1 => ?_) (fun c9_1 => ?_)
      · replace hf := if_t c9_1 hf
        obtain ⟨r2, e2⟩ := om_s hf
        replace hf := e2.1
        replace e2 := e2.2
        subst e2
        replace hF := elim_r hF
        refine lv_iload_n hx hb dX4_ironOnes_34 rfl (lv_at hl 1 rfl) ?_
        have e1 := Option.some.inj hf
        subst e1
        have hF : (x1 : Int32) = out := hF
        subst hF
        exact k_iret C0 hW dX4_ironOnes_35
      · replace hf := if_f c9_1 hf
        refine lv_aload_n hx hb dX4_ironOnes_12 rfl (lv_at hl 0 rfl) ?_
        refine k_get C0 hW 4 1 0 (v := .ref (a (o + 2))) rfl (by decide) inX4 mf_X4_15 rfl rfl dX4_ironOnes_13 ?_
        refine lv_iload_n hx hb dX4_ironOnes_16 rfl (lv_at hl 2 rfl) ?_
        have g17_2 := (gd_some hf).1; replace hf := (gd_some hf).2
        refine k_iald C0 hW 2 (ix x2) rfl (inb_in g17_2) rfl dX4_ironOnes_17 ?_
        refine lv_iconst (v := 4) hx hb dX4_ironOnes_18 (by decide) ?_
        obtain ⟨q19, hq19⟩ := ob_s hf
        replace hf := hq19.2
        replace hq19 := hq19.1
        refine cN0 (rest := []) (st1 := [.int q19]) C0 hW hl.1 (c_X5_isOfKind l G ((wh_kind w) (ix x2)) (4 : Int32) _ hq19) cb_X5_isOfKind mn_X4_78 [] rfl rfl (by decide) rfl rfl (Nat.le_of_ble_eq_true rfl) ⟨Nat.zero_le _, Nat.zero_le _⟩ dX4_ironOnes_19 rfl (fun H locs hW => ?_)
        refine lv_if_eq (tgt := 28) hx hb dX4_ironOnes_22 (by decide) (fun c22_3 => ?_) (fun c22_3 => ?_)
        · replace hf := if_t c22_3 hf
          exact J28 _ _ _ hf hF _ _ _ hW (lv_sub hl [0, 1, 2] rfl)
        · replace hf := if_f c22_3 hf
          refine lv_iinc (v := (x1 + (1 : Int32))) (lv' := [(1, .int (x1 + (1 : Int32))), (0, .ref (a o)), (2, .int x2)]) hx hb dX4_ironOnes_25 hl (k := 1) rfl rfl (by decide) rfl (fun ls hl => ?_)
          exact J28 _ _ _ hf hF _ _ _ hW (lv_sub hl [1, 0, 2] rfl)
    exact lp_sound (fun sg r hb hz => B4 sg.1 sg.2 r hb hz)
  obtain ⟨r, hr⟩ : ∃ r, f_X4_ironOnes w = some r ∧ r = out := ⟨out, hf, rfl⟩
  replace hf := hr.1
  have hF := hr.2
  clear hr
  unfold f_X4_ironOnes at hf
  refine lv_iconst (v := 0) hx hb dX4_ironOnes_0 (by decide) ?_
  refine lv_istore_n (lv' := [(1, .int (0 : Int32)), (0, .ref (a o))]) hx hb dX4_ironOnes_1 rfl hl (by decide) rfl (fun ls hl => ?_)
  refine lv_iconst (v := 0) hx hb dX4_ironOnes_2 (by decide) ?_
  refine lv_istore_n (lv' := [(2, .int (0 : Int32)), (1, .int (0 : Int32)), (0, .ref (a o))]) hx hb dX4_ironOnes_3 rfl hl (by decide) rfl (fun ls hl => ?_)
  exact L4  fuel ((0 : Int32), (0 : Int32)) _ hf hF _ _ _ hW (lv_sub hl [2, 1, 0] rfl)

def f_X4_isEmpty (w : Wh) : Option (Int32) :=
  if (wh_spokes w) = 0 then (some (1 : Int32)) else (some (0 : Int32))
set_option maxRecDepth 100000 in
set_option maxHeartbeats 8000000 in
theorem c_X4_isEmpty (l : Launch) (G : GG) (a : Nat → Nat) (o : Nat) (w : Wh) (out : Int32) (hf : f_X4_isEmpty w = some out) : Cn l G 0 yX4_isEmpty cX4_isEmpty 1 (some .boolean) [.ref (a o)] (bWh G a o w) (some (.int out)) (bWh G a o w) := by
  refine cn_start (by decide) (Nat.le_of_ble_eq_true rfl) ?_
  intro p e s m below meth c A ls C0 hW hl
  have hx := C0.1
  have hb := C0.2.1
  have hl : lv_has ls 1 [(0, .ref (a o))] := hl
  obtain ⟨r, hr⟩ : ∃ r, f_X4_isEmpty w = some r ∧ r = out := ⟨out, hf, rfl⟩
  replace hf := hr.1
  have hF := hr.2
  clear hr
  unfold f_X4_isEmpty at hf
  refine lv_aload_n hx hb dX4_isEmpty_0 rfl (lv_at hl 0 rfl) ?_
  refine k_get C0 hW 4 5 0 (v := .int (wh_spokes w)) rfl (by decide) inX4 mf_X4_33 rfl rfl dX4_isEmpty_1 ?_
  refine lv_if_ne (tgt := 11) hx hb dX4_isEmpty_4 (by decide) (fun c4_1 => ?_) (fun c4_1 => ?_)
  · replace hf := if_f c4_1 hf
    refine lv_iconst (v := 0) hx hb dX4_isEmpty_11 (by decide) ?_
    have e1 := Option.some.inj hf
    subst e1
    have hF : ((0 : Int32) : Int32) = out := hF
    subst hF
    exact k_zret C0 hW rfl dX4_isEmpty_12
  · replace hf := if_t c4_1 hf
    refine lv_iconst (v := 1) hx hb dX4_isEmpty_7 (by decide) ?_
    refine lv_goto (tgt := 12) hx hb dX4_isEmpty_8 (by decide) ?_
    have e1 := Option.some.inj hf
    subst e1
    have hF : ((1 : Int32) : Int32) = out := hF
    subst hF
    exact k_zret C0 hW rfl dX4_isEmpty_12

def f_X4_isSpoke (w : Wh) (x1 : Int32) : Option (Int32) :=
  if x1 < 0 then (some (0 : Int32)) else (if (wh_spokes w) ≤ x1 then (some (0 : Int32)) else (some (1 : Int32)))
set_option maxRecDepth 100000 in
set_option maxHeartbeats 8000000 in
theorem c_X4_isSpoke (l : Launch) (G : GG) (a : Nat → Nat) (o : Nat) (w : Wh) (x1 : Int32) (out : Int32) (hf : f_X4_isSpoke w x1 = some out) : Cn l G 0 yX4_isSpoke cX4_isSpoke 2 (some .boolean) [.ref (a o), .int x1] (bWh G a o w) (some (.int out)) (bWh G a o w) := by
  refine cn_start (by decide) (Nat.le_of_ble_eq_true rfl) ?_
  intro p e s m below meth c A ls C0 hW hl
  have hx := C0.1
  have hb := C0.2.1
  have hl : lv_has ls 2 [(0, .ref (a o)), (1, .int x1)] := hl
  obtain ⟨r, hr⟩ : ∃ r, f_X4_isSpoke w x1 = some r ∧ r = out := ⟨out, hf, rfl⟩
  replace hf := hr.1
  have hF := hr.2
  clear hr
  unfold f_X4_isSpoke at hf
  refine lv_iload_n hx hb dX4_isSpoke_0 rfl (lv_at hl 1 rfl) ?_
  refine lv_if_lt (tgt := 16) hx hb dX4_isSpoke_1 (by decide) (fun c1_1 => ?_) (fun c1_1 => ?_)
  · replace hf := if_t c1_1 hf
    refine lv_iconst (v := 0) hx hb dX4_isSpoke_16 (by decide) ?_
    have e1 := Option.some.inj hf
    subst e1
    have hF : ((0 : Int32) : Int32) = out := hF
    subst hF
    exact k_zret C0 hW rfl dX4_isSpoke_17
  · replace hf := if_f c1_1 hf
    refine lv_iload_n hx hb dX4_isSpoke_4 rfl (lv_at hl 1 rfl) ?_
    refine lv_aload_n hx hb dX4_isSpoke_5 rfl (lv_at hl 0 rfl) ?_
    refine k_get C0 hW 4 5 0 (v := .int (wh_spokes w)) rfl (by decide) inX4 mf_X4_33 rfl rfl dX4_isSpoke_6 ?_
    refine lv_icmp_ge (tgt := 16) hx hb dX4_isSpoke_9 (by decide) (fun c9_2 => ?_) (fun c9_2 => ?_)
    · replace hf := if_t c9_2 hf
      refine lv_iconst (v := 0) hx hb dX4_isSpoke_16 (by decide) ?_
      have e1 := Option.some.inj hf
      subst e1
      have hF : ((0 : Int32) : Int32) = out := hF
      subst hF
      exact k_zret C0 hW rfl dX4_isSpoke_17
    · replace hf := if_f c9_2 hf
      refine lv_iconst (v := 1) hx hb dX4_isSpoke_12 (by decide) ?_
      refine lv_goto (tgt := 17) hx hb dX4_isSpoke_13 (by decide) ?_
      have e1 := Option.some.inj hf
      subst e1
      have hF : ((1 : Int32) : Int32) = out := hF
      subst hF
      exact k_zret C0 hW rfl dX4_isSpoke_17

def f_X4_lengthThere_J29 (w : Wh) (x1 : Int32) (x2 : Int32) : Option ((Int32 × Int32) ⊕ (Int32)) :=
  some (Sum.inl (x1, (x2 + (1 : Int32))))
def f_X4_lengthThere_B4 (w : Wh) (x1 : Int32) (x2 : Int32) : Option ((Int32 × Int32) ⊕ (Int32)) :=
  if (wh_spokes w) ≤ x2 then (Option.map Sum.inr (some x1)) else (Option.bind (f_X4_isThere w x2) (fun q14 => if q14 = 0 then (f_X4_lengthThere_J29 w x1 x2) else (gd (inb x2 8) (nm (x1 + ((wh_length w) (ix x2))) (fun v28 => f_X4_lengthThere_J29 w v28 x2)))))
def f_X4_lengthThere_L4 (w : Wh) (sg : Int32 × Int32) : Option ((Int32 × Int32) ⊕ (Int32)) := f_X4_lengthThere_B4 w sg.1 sg.2
def f_X4_lengthThere (w : Wh) : Option (Int32) :=
  lp (f_X4_lengthThere_L4 w) fuel ((0 : Int32), (0 : Int32))
set_option maxRecDepth 100000 in
set_option maxHeartbeats 8000000 in
theorem c_X4_lengthThere (l : Launch) (G : GG) (a : Nat → Nat) (o : Nat) (w : Wh) (out : Int32) (hf : f_X4_lengthThere w = some out) : Cn l G 1 yX4_lengthThere cX4_lengthThere 3 (some .int) [.ref (a o)] (bWh G a o w) (some (.int out)) (bWh G a o w) := by
  refine cn_start (by decide) (Nat.le_of_ble_eq_true rfl) ?_
  intro p e s m below meth c A ls C0 hW hl
  have hx := C0.1
  have hb := C0.2.1
  have hl : lv_has ls 3 [(0, .ref (a o))] := hl
  have L4 : ∀ (k8 : Nat) (sg : Int32 × Int32) (o9 : Int32), lp (f_X4_lengthThere_L4 w) k8 sg = some o9 → (fun (r : Int32) => r = out) o9 → (fun (sg : Int32 × Int32) => ∀ (H : Heap) (locs : List Loc) (ls : Array Slot), Wd G A s.heap H (bWh G a o w) locs → lv_has ls 3 [(0, .ref (a o)), (1, .int sg.1), (2, .int sg.2)] → WW p l e 1 s m [.ref (a o)] below meth c G A (some (.int out)) ((bWh G a o w)) H locs 4 ls []) sg := by
    have J29 : ∀ (x1 : Int32) (x2 : Int32) (r : (Int32 × Int32) ⊕ (Int32)), f_X4_lengthThere_J29 w x1 x2 = some r → (Sum.elim (fun (sg : Int32 × Int32) => ∀ (H : Heap) (locs : List Loc) (ls : Array Slot), Wd G A s.heap H (bWh G a o w) locs → lv_has ls 3 [(0, .ref (a o)), (1, .int sg.1), (2, .int sg.2)] → WW p l e 1 s m [.ref (a o)] below meth c G A (some (.int out)) ((bWh G a o w)) H locs 4 ls []) (fun (r : Int32) => r = out)) r → ∀ (H : Heap) (locs : List Loc) (ls : Array Slot), Wd G A s.heap H (bWh G a o w) locs → lv_has ls 3 [(0, .ref (a o)), (1, .int x1), (2, .int x2)] → WW p l e 1 s m [.ref (a o)] below meth c G A (some (.int out)) ((bWh G a o w)) H locs 29 ls [] := by
      intro x1 x2 r hf hF H locs ls hW hl
      unfold f_X4_lengthThere_J29 at hf
      refine lv_iinc (v := (x2 + (1 : Int32))) (lv' := [(2, .int (x2 + (1 : Int32))), (0, .ref (a o)), (1, .int x1)]) hx hb dX4_lengthThere_29 hl (k := 2) rfl rfl (by decide) rfl (fun ls hl => ?_)
      refine lv_goto (tgt := 4) hx hb dX4_lengthThere_32 (by decide) ?_
      have e1 := Option.some.inj hf
      subst e1
      exact (elim_l hF) _ _ _ hW (lv_sub hl [1, 2, 0] rfl)
    have B4 : ∀ (x1 : Int32) (x2 : Int32) (r : (Int32 × Int32) ⊕ (Int32)), f_X4_lengthThere_B4 w x1 x2 = some r → (Sum.elim (fun (sg : Int32 × Int32) => ∀ (H : Heap) (locs : List Loc) (ls : Array Slot), Wd G A s.heap H (bWh G a o w) locs → lv_has ls 3 [(0, .ref (a o)), (1, .int sg.1), (2, .int sg.2)] → WW p l e 1 s m [.ref (a o)] below meth c G A (some (.int out)) ((bWh G a o w)) H locs 4 ls []) (fun (r : Int32) => r = out)) r → ∀ (H : Heap) (locs : List Loc) (ls : Array Slot), Wd G A s.heap H (bWh G a o w) locs → lv_has ls 3 [(0, .ref (a o)), (1, .int x1), (2, .int x2)] → WW p l e 1 s m [.ref (a o)] below meth c G A (some (.int out)) ((bWh G a o w)) H locs 4 ls [] := by
      intro x1 x2 r hf hF H locs ls hW hl
      unfold f_X4_lengthThere_B4 at hf
      refine lv_iload_n hx hb dX4_lengthThere_4 rfl (lv_at hl 2 rfl) ?_
      refine lv_aload_n hx hb dX4_lengthThere_5 rfl (lv_at hl 0 rfl) ?_
      refine k_get C0 hW 4 5 0 (v := .int (wh_spokes w)) rfl (by decide) inX4 mf_X4_33 rfl rfl dX4_lengthThere_6 ?_
      refine lv_icmp_ge (tgt := 35) hx hb dX4_lengthThere_9 (by decide) (fun c9_1 => ?_) (fun c9_1 => ?_)
      · replace hf := if_t c9_1 hf
        obtain ⟨r2, e2⟩ := om_s hf
        replace hf := e2.1
        replace e2 := e2.2
        subst e2
        replace hF := elim_r hF
        refine lv_iload_n hx hb dX4_lengthThere_35 rfl (lv_at hl 1 rfl) ?_
        have e1 := Option.some.inj hf
        subst e1
        have hF : (x1 : Int32) = out := hF
        subst hF
        exact k_iret C0 hW dX4_lengthThere_36
      · replace hf := if_f c9_1 hf
        refine lv_aload_n hx hb dX4_lengthThere_12 rfl (lv_at hl 0 rfl) ?_
        refine lv_iload_n hx hb dX4_lengthThere_13 rfl (lv_at hl 2 rfl) ?_
        obtain ⟨q14, hq14⟩ := ob_s hf
        replace hf := hq14.2
        replace hq14 := hq14.1
        refine cW1 (rest := []) (ws1 := (bWh G a o w)) (st1 := [.int q14]) C0 hW hl.1 (c_X4_isThere l G a o w x2 _ hq14) cb_X4_isThere mm_X4_70 rfl 0 4 rfl rfl rfl (by decide) rfl rfl (Nat.le_of_ble_eq_true rfl) ⟨Nat.zero_le _, Nat.zero_le _⟩ dX4_lengthThere_14 rfl (fun H locs hW => ?_)
        refine lv_if_eq (tgt := 29) hx hb dX4_lengthThere_17 (by decide) (fun c17_2 => ?_) (fun c17_2 => ?_)
        · replace hf := if_t c17_2 hf
          exact J29 _ _ _ hf hF _ _ _ hW (lv_sub hl [0, 1, 2] rfl)
        · replace hf := if_f c17_2 hf
          refine lv_iload_n hx hb dX4_lengthThere_20 rfl (lv_at hl 1 rfl) ?_
          refine lv_aload_n hx hb dX4_lengthThere_21 rfl (lv_at hl 0 rfl) ?_
          refine k_get C0 hW 4 2 0 (v := .ref (a (o + 3))) rfl (by decide) inX4 mf_X4_18 rfl rfl dX4_lengthThere_22 ?_
          refine lv_iload_n hx hb dX4_lengthThere_25 rfl (lv_at hl 2 rfl) ?_
          have g26_3 := (gd_some hf).1; replace hf := (gd_some hf).2
          refine k_iald C0 hW 3 (ix x2) rfl (inb_in g26_3) rfl dX4_lengthThere_26 ?_
          refine lv_iadd hx hb dX4_lengthThere_27 ?_
          refine lv_topi (fun v28 ev28 => ?_)
          replace hf := nm_s ev28 hf
          refine lv_istore_n (lv' := [(1, .int v28), (0, .ref (a o)), (2, .int x2)]) hx hb dX4_lengthThere_28 rfl hl (by decide) rfl (fun ls hl => ?_)
          exact J29 _ _ _ hf hF _ _ _ hW (lv_sub hl [1, 0, 2] rfl)
    exact lp_sound (fun sg r hb hz => B4 sg.1 sg.2 r hb hz)
  obtain ⟨r, hr⟩ : ∃ r, f_X4_lengthThere w = some r ∧ r = out := ⟨out, hf, rfl⟩
  replace hf := hr.1
  have hF := hr.2
  clear hr
  unfold f_X4_lengthThere at hf
  refine lv_iconst (v := 0) hx hb dX4_lengthThere_0 (by decide) ?_
  refine lv_istore_n (lv' := [(1, .int (0 : Int32)), (0, .ref (a o))]) hx hb dX4_lengthThere_1 rfl hl (by decide) rfl (fun ls hl => ?_)
  refine lv_iconst (v := 0) hx hb dX4_lengthThere_2 (by decide) ?_
  refine lv_istore_n (lv' := [(2, .int (0 : Int32)), (1, .int (0 : Int32)), (0, .ref (a o))]) hx hb dX4_lengthThere_3 rfl hl (by decide) rfl (fun ls hl => ?_)
  exact L4  fuel ((0 : Int32), (0 : Int32)) _ hf hF _ _ _ hW (lv_sub hl [2, 1, 0] rfl)

def f_X4_mix_J76 (w : Wh) (x3 : Int64) (x5 : Int32) : Option ((Int64 × Int32) ⊕ (Int64)) :=
  some (Sum.inl (x3, (x5 + (1 : Int32))))
def f_X4_mix_B48 (w : Wh) (x5 : Int32) (x3 : Int64) (x6 : Int32) : Option ((Int64 × Int32) ⊕ ((Int64 × Int32) ⊕ (Int64))) :=
  if (5 : Int32) < x6 then (Option.map Sum.inr (f_X4_mix_J76 w x3 x5)) else (Option.bind (f_X4_facet w x5 x6) (fun q64 => nm (((31 : Int64) * x3) + (q64.toInt64)) (fun v69 => some (Sum.inl (v69, (x6 + (1 : Int32)))))))
def f_X4_mix_L48 (w : Wh) (x5 : Int32) (sg : Int64 × Int32) : Option ((Int64 × Int32) ⊕ ((Int64 × Int32) ⊕ (Int64))) := f_X4_mix_B48 w x5 sg.1 sg.2
def f_X4_mix_B36 (w : Wh) (x3 : Int64) (x5 : Int32) : Option ((Int64 × Int32) ⊕ (Int64)) :=
  if (wh_spokes w) ≤ x5 then (Option.map Sum.inr (some x3)) else (lp (f_X4_mix_L48 w x5) fuel (x3, (0 : Int32)))
def f_X4_mix_L36 (w : Wh) (sg : Int64 × Int32) : Option ((Int64 × Int32) ⊕ (Int64)) := f_X4_mix_B36 w sg.1 sg.2
def f_X4_mix_J33 (w : Wh) (x3 : Int64) : Option (Int64) :=
  lp (f_X4_mix_L36 w) fuel (x3, (0 : Int32))
def f_X4_mix_B5 (w : Wh) (x3 : Int64) (x5 : Int32) : Option ((Int64 × Int32) ⊕ (Int64)) :=
  if (8 : Int32) ≤ x5 then (Option.map Sum.inr (f_X4_mix_J33 w x3)) else (gd (inb x5 8) (nm (((31 : Int64) * x3) + (((wh_depths w) (ix x5)).toInt64)) (fun v26 => some (Sum.inl (v26, (x5 + (1 : Int32)))))))
def f_X4_mix_L5 (w : Wh) (sg : Int64 × Int32) : Option ((Int64 × Int32) ⊕ (Int64)) := f_X4_mix_B5 w sg.1 sg.2
def f_X4_mix (w : Wh) (x1 : Int64) : Option (Int64) :=
  lp (f_X4_mix_L5 w) fuel (x1, (0 : Int32))
set_option maxRecDepth 100000 in
set_option maxHeartbeats 8000000 in
theorem c_X4_mix (l : Launch) (G : GG) (a : Nat → Nat) (o : Nat) (w : Wh) (x1 : Int64) (out : Int64) (hf : f_X4_mix w x1 = some out) : Cn l G 4 yX4_mix cX4_mix 7 (some .long) [.ref (a o), .long x1] (bWh G a o w) (some (.long out)) (bWh G a o w) := by
  refine cn_start (by decide) (Nat.le_of_ble_eq_true rfl) ?_
  intro p e s m below meth c A ls C0 hW hl
  have hx := C0.1
  have hb := C0.2.1
  have hl : lv_has ls 7 [(0, .ref (a o)), (1, .long x1)] := hl
  have L36 : ∀ (k8 : Nat) (sg : Int64 × Int32) (o9 : Int64), lp (f_X4_mix_L36 w) k8 sg = some o9 → (fun (r : Int64) => r = out) o9 → (fun (sg : Int64 × Int32) => ∀ (H : Heap) (locs : List Loc) (ls : Array Slot), Wd G A s.heap H (bWh G a o w) locs → lv_has ls 7 [(0, .ref (a o)), (3, .long sg.1), (5, .int sg.2)] → WW p l e 4 s m [.ref (a o), .long x1] below meth c G A (some (.long out)) ((bWh G a o w)) H locs 36 ls []) sg := by
    have J76 : ∀ (x3 : Int64) (x5 : Int32) (r : (Int64 × Int32) ⊕ (Int64)), f_X4_mix_J76 w x3 x5 = some r → (Sum.elim (fun (sg : Int64 × Int32) => ∀ (H : Heap) (locs : List Loc) (ls : Array Slot), Wd G A s.heap H (bWh G a o w) locs → lv_has ls 7 [(0, .ref (a o)), (3, .long sg.1), (5, .int sg.2)] → WW p l e 4 s m [.ref (a o), .long x1] below meth c G A (some (.long out)) ((bWh G a o w)) H locs 36 ls []) (fun (r : Int64) => r = out)) r → ∀ (H : Heap) (locs : List Loc) (ls : Array Slot), Wd G A s.heap H (bWh G a o w) locs → lv_has ls 7 [(0, .ref (a o)), (3, .long x3), (5, .int x5)] → WW p l e 4 s m [.ref (a o), .long x1] below meth c G A (some (.long out)) ((bWh G a o w)) H locs 76 ls [] := by
      intro x3 x5 r hf hF H locs ls hW hl
      unfold f_X4_mix_J76 at hf
      refine lv_iinc (v := (x5 + (1 : Int32))) (lv' := [(5, .int (x5 + (1 : Int32))), (0, .ref (a o)), (3, .long x3)]) hx hb dX4_mix_76 hl (k := 2) rfl rfl (by decide) rfl (fun ls hl => ?_)
      refine lv_goto (tgt := 36) hx hb dX4_mix_79 (by decide) ?_
      have e1 := Option.some.inj hf
      subst e1
      exact (elim_l hF) _ _ _ hW (lv_sub hl [1, 2, 0] rfl)
    have L48 : ∀ (x5 : Int32) (k8 : Nat) (sg : Int64 × Int32) (o9 : (Int64 × Int32) ⊕ (Int64)), lp (f_X4_mix_L48 w x5) k8 sg = some o9 → (Sum.elim (fun (sg : Int64 × Int32) => ∀ (H : Heap) (locs : List Loc) (ls : Array Slot), Wd G A s.heap H (bWh G a o w) locs → lv_has ls 7 [(0, .ref (a o)), (3, .long sg.1), (5, .int sg.2)] → WW p l e 4 s m [.ref (a o), .long x1] below meth c G A (some (.long out)) ((bWh G a o w)) H locs 36 ls []) (fun (r : Int64) => r = out)) o9 → (fun (sg : Int64 × Int32) => ∀ (H : Heap) (locs : List Loc) (ls : Array Slot), Wd G A s.heap H (bWh G a o w) locs → lv_has ls 7 [(0, .ref (a o)), (3, .long sg.1), (5, .int x5), (6, .int sg.2)] → WW p l e 4 s m [.ref (a o), .long x1] below meth c G A (some (.long out)) ((bWh G a o w)) H locs 48 ls []) sg := by
      intro x5
      have B48 : ∀ (x3 : Int64) (x6 : Int32) (r : (Int64 × Int32) ⊕ ((Int64 × Int32) ⊕ (Int64))), f_X4_mix_B48 w x5 x3 x6 = some r → (Sum.elim (fun (sg : Int64 × Int32) => ∀ (H : Heap) (locs : List Loc) (ls : Array Slot), Wd G A s.heap H (bWh G a o w) locs → lv_has ls 7 [(0, .ref (a o)), (3, .long sg.1), (5, .int x5), (6, .int sg.2)] → WW p l e 4 s m [.ref (a o), .long x1] below meth c G A (some (.long out)) ((bWh G a o w)) H locs 48 ls []) (Sum.elim (fun (sg : Int64 × Int32) => ∀ (H : Heap) (locs : List Loc) (ls : Array Slot), Wd G A s.heap H (bWh G a o w) locs → lv_has ls 7 [(0, .ref (a o)), (3, .long sg.1), (5, .int sg.2)] → WW p l e 4 s m [.ref (a o), .long x1] below meth c G A (some (.long out)) ((bWh G a o w)) H locs 36 ls []) (fun (r : Int64) => r = out))) r → ∀ (H : Heap) (locs : List Loc) (ls : Array Slot), Wd G A s.heap H (bWh G a o w) locs → lv_has ls 7 [(0, .ref (a o)), (3, .long x3), (5, .int x5), (6, .int x6)] → WW p l e 4 s m [.ref (a o), .long x1] below meth c G A (some (.long out)) ((bWh G a o w)) H locs 48 ls [] := by
        intro x3 x6 r hf hF H locs ls hW hl
        unfold f_X4_mix_B48 at hf
        refine lv_iload hx hb dX4_mix_48 (lv_at hl 3 rfl) ?_
        refine lv_iconst (v := 5) hx hb dX4_mix_50 (by decide) ?_
        refine lv_icmp_gt (tgt := 76) hx hb dX4_mix_51 (by decide) (fun c51_3 => ?_) (fun c51_3 => ?_)
        · replace hf := if_t c51_3 hf
          obtain ⟨r2, e2⟩ := om_s hf
          replace hf := e2.1
          replace e2 := e2.2
          subst e2
          replace hF := elim_r hF
          exact J76 _ _ _ hf hF _ _ _ hW (lv_sub hl [0, 1, 2] rfl)
        · replace hf := if_f c51_3 hf
          refine lv_ldc2 hx hb C0.2.2.2.2.2.1 (C0.2.2.2.2.2.2.1 _ mk_X4_111) dX4_mix_54 ?_
          refine lv_lload_n hx hb dX4_mix_57 rfl (lv_at hl 1 rfl) ?_
          refine lv_lmul hx hb dX4_mix_58 ?_
          refine lv_aload_n hx hb dX4_mix_59 rfl (lv_at hl 0 rfl) ?_
          refine lv_iload hx hb dX4_mix_60 (lv_at hl 2 rfl) ?_
          refine lv_iload hx hb dX4_mix_62 (lv_at hl 3 rfl) ?_
          obtain ⟨q64, hq64⟩ := ob_s hf
          replace hf := hq64.2
          replace hq64 := hq64.1
          refine cW1 (rest := [.long ((31 : Int64) * x3)]) (ws1 := (bWh G a o w)) (st1 := [.int q64, .long ((31 : Int64) * x3)]) C0 hW hl.1 (c_X4_facet l G a o w x5 x6 _ hq64) cb_X4_facet mm_X4_113 rfl 0 4 rfl rfl rfl (by decide) rfl rfl (Nat.le_of_ble_eq_true rfl) ⟨Nat.zero_le _, Nat.zero_le _⟩ dX4_mix_64 rfl (fun H locs hW => ?_)
          refine lv_i2l (v := q64.toInt64) hx hb dX4_mix_67 rfl ?_
          refine lv_ladd hx hb dX4_mix_68 ?_
          refine lv_topl (fun v69 ev69 => ?_)
          replace hf := nm_s ev69 hf
          refine lv_lstore_n (lv' := [(3, .long v69), (0, .ref (a o)), (5, .int x5), (6, .int x6)]) hx hb dX4_mix_69 rfl hl (by decide) rfl (fun ls hl => ?_)
          refine lv_iinc (v := (x6 + (1 : Int32))) (lv' := [(6, .int (x6 + (1 : Int32))), (3, .long v69), (0, .ref (a o)), (5, .int x5)]) hx hb dX4_mix_70 hl (k := 3) rfl rfl (by decide) rfl (fun ls hl => ?_)
          refine lv_goto (tgt := 48) hx hb dX4_mix_73 (by decide) ?_
          have e1 := Option.some.inj hf
          subst e1
          exact (elim_l hF) _ _ _ hW (lv_sub hl [2, 1, 3, 0] rfl)
      exact lp_sound (fun sg r hb hz => B48 sg.1 sg.2 r hb hz)
    have B36 : ∀ (x3 : Int64) (x5 : Int32) (r : (Int64 × Int32) ⊕ (Int64)), f_X4_mix_B36 w x3 x5 = some r → (Sum.elim (fun (sg : Int64 × Int32) => ∀ (H : Heap) (locs : List Loc) (ls : Array Slot), Wd G A s.heap H (bWh G a o w) locs → lv_has ls 7 [(0, .ref (a o)), (3, .long sg.1), (5, .int sg.2)] → WW p l e 4 s m [.ref (a o), .long x1] below meth c G A (some (.long out)) ((bWh G a o w)) H locs 36 ls []) (fun (r : Int64) => r = out)) r → ∀ (H : Heap) (locs : List Loc) (ls : Array Slot), Wd G A s.heap H (bWh G a o w) locs → lv_has ls 7 [(0, .ref (a o)), (3, .long x3), (5, .int x5)] → WW p l e 4 s m [.ref (a o), .long x1] below meth c G A (some (.long out)) ((bWh G a o w)) H locs 36 ls [] := by
      intro x3 x5 r hf hF H locs ls hW hl
      unfold f_X4_mix_B36 at hf
      refine lv_iload hx hb dX4_mix_36 (lv_at hl 2 rfl) ?_
      refine lv_aload_n hx hb dX4_mix_38 rfl (lv_at hl 0 rfl) ?_
      refine k_get C0 hW 4 5 0 (v := .int (wh_spokes w)) rfl (by decide) inX4 mf_X4_33 rfl rfl dX4_mix_39 ?_
      refine lv_icmp_ge (tgt := 82) hx hb dX4_mix_42 (by decide) (fun c42_2 => ?_) (fun c42_2 => ?_)
      · replace hf := if_t c42_2 hf
        obtain ⟨r2, e2⟩ := om_s hf
        replace hf := e2.1
        replace e2 := e2.2
        subst e2
        replace hF := elim_r hF
        refine lv_lload_n hx hb dX4_mix_82 rfl (lv_at hl 1 rfl) ?_
        have e1 := Option.some.inj hf
        subst e1
        have hF : (x3 : Int64) = out := hF
        subst hF
        exact k_lret C0 hW dX4_mix_83
      · replace hf := if_f c42_2 hf
        refine lv_iconst (v := 0) hx hb dX4_mix_45 (by decide) ?_
        refine lv_istore (lv' := [(6, .int (0 : Int32)), (0, .ref (a o)), (3, .long x3), (5, .int x5)]) hx hb dX4_mix_46 hl (by decide) rfl (fun ls hl => ?_)
        exact L48 _ fuel (x3, (0 : Int32)) _ hf hF _ _ _ hW (lv_sub hl [1, 2, 3, 0] rfl)
    exact lp_sound (fun sg r hb hz => B36 sg.1 sg.2 r hb hz)
  have J33 : ∀ (x3 : Int64) (r : Int64), f_X4_mix_J33 w x3 = some r → (fun (r : Int64) => r = out) r → ∀ (H : Heap) (locs : List Loc) (ls : Array Slot), Wd G A s.heap H (bWh G a o w) locs → lv_has ls 7 [(0, .ref (a o)), (3, .long x3)] → WW p l e 4 s m [.ref (a o), .long x1] below meth c G A (some (.long out)) ((bWh G a o w)) H locs 33 ls [] := by
    intro x3 r hf hF H locs ls hW hl
    unfold f_X4_mix_J33 at hf
    refine lv_iconst (v := 0) hx hb dX4_mix_33 (by decide) ?_
    refine lv_istore (lv' := [(5, .int (0 : Int32)), (0, .ref (a o)), (3, .long x3)]) hx hb dX4_mix_34 hl (by decide) rfl (fun ls hl => ?_)
    exact L36  fuel (x3, (0 : Int32)) _ hf hF _ _ _ hW (lv_sub hl [1, 2, 0] rfl)
  have L5 : ∀ (k8 : Nat) (sg : Int64 × Int32) (o9 : Int64), lp (f_X4_mix_L5 w) k8 sg = some o9 → (fun (r : Int64) => r = out) o9 → (fun (sg : Int64 × Int32) => ∀ (H : Heap) (locs : List Loc) (ls : Array Slot), Wd G A s.heap H (bWh G a o w) locs → lv_has ls 7 [(0, .ref (a o)), (3, .long sg.1), (5, .int sg.2)] → WW p l e 4 s m [.ref (a o), .long x1] below meth c G A (some (.long out)) ((bWh G a o w)) H locs 5 ls []) sg := by
    have B5 : ∀ (x3 : Int64) (x5 : Int32) (r : (Int64 × Int32) ⊕ (Int64)), f_X4_mix_B5 w x3 x5 = some r → (Sum.elim (fun (sg : Int64 × Int32) => ∀ (H : Heap) (locs : List Loc) (ls : Array Slot), Wd G A s.heap H (bWh G a o w) locs → lv_has ls 7 [(0, .ref (a o)), (3, .long sg.1), (5, .int sg.2)] → WW p l e 4 s m [.ref (a o), .long x1] below meth c G A (some (.long out)) ((bWh G a o w)) H locs 5 ls []) (fun (r : Int64) => r = out)) r → ∀ (H : Heap) (locs : List Loc) (ls : Array Slot), Wd G A s.heap H (bWh G a o w) locs → lv_has ls 7 [(0, .ref (a o)), (3, .long x3), (5, .int x5)] → WW p l e 4 s m [.ref (a o), .long x1] below meth c G A (some (.long out)) ((bWh G a o w)) H locs 5 ls [] := by
      intro x3 x5 r hf hF H locs ls hW hl
      unfold f_X4_mix_B5 at hf
      refine lv_iload hx hb dX4_mix_5 (lv_at hl 2 rfl) ?_
      refine lv_bipush (v := 8) hx hb dX4_mix_7 (by decide) ?_
      refine lv_icmp_ge (tgt := 33) hx hb dX4_mix_9 (by decide) (fun c9_1 => ?_) (fun c9_1 => ?_)
      · replace hf := if_t c9_1 hf
        obtain ⟨r2, e2⟩ := om_s hf
        replace hf := e2.1
        replace e2 := e2.2
        subst e2
        replace hF := elim_r hF
        exact J33 _ _ hf hF _ _ _ hW (lv_sub hl [0, 1] rfl)
      · replace hf := if_f c9_1 hf
        refine lv_ldc2 hx hb C0.2.2.2.2.2.1 (C0.2.2.2.2.2.2.1 _ mk_X4_111) dX4_mix_12 ?_
        refine lv_lload_n hx hb dX4_mix_15 rfl (lv_at hl 1 rfl) ?_
        refine lv_lmul hx hb dX4_mix_16 ?_
        refine lv_aload_n hx hb dX4_mix_17 rfl (lv_at hl 0 rfl) ?_
        refine k_get C0 hW 4 0 0 (v := .ref (a (o + 1))) rfl (by decide) inX4 mf_X4_9 rfl rfl dX4_mix_18 ?_
        refine lv_iload hx hb dX4_mix_21 (lv_at hl 2 rfl) ?_
        have g23_5 := (gd_some hf).1; replace hf := (gd_some hf).2
        refine k_iald C0 hW 1 (ix x5) rfl (inb_in g23_5) rfl dX4_mix_23 ?_
        refine lv_i2l (v := ((wh_depths w) (ix x5)).toInt64) hx hb dX4_mix_24 rfl ?_
        refine lv_ladd hx hb dX4_mix_25 ?_
        refine lv_topl (fun v26 ev26 => ?_)
        replace hf := nm_s ev26 hf
        refine lv_lstore_n (lv' := [(3, .long v26), (0, .ref (a o)), (5, .int x5)]) hx hb dX4_mix_26 rfl hl (by decide) rfl (fun ls hl => ?_)
        refine lv_iinc (v := (x5 + (1 : Int32))) (lv' := [(5, .int (x5 + (1 : Int32))), (3, .long v26), (0, .ref (a o))]) hx hb dX4_mix_27 hl (k := 2) rfl rfl (by decide) rfl (fun ls hl => ?_)
        refine lv_goto (tgt := 5) hx hb dX4_mix_30 (by decide) ?_
        have e1 := Option.some.inj hf
        subst e1
        exact (elim_l hF) _ _ _ hW (lv_sub hl [2, 1, 0] rfl)
    exact lp_sound (fun sg r hb hz => B5 sg.1 sg.2 r hb hz)
  obtain ⟨r, hr⟩ : ∃ r, f_X4_mix w x1 = some r ∧ r = out := ⟨out, hf, rfl⟩
  replace hf := hr.1
  have hF := hr.2
  clear hr
  unfold f_X4_mix at hf
  refine lv_lload_n hx hb dX4_mix_0 rfl (lv_at hl 1 rfl) ?_
  refine lv_lstore_n (lv' := [(3, .long x1), (0, .ref (a o)), (1, .long x1)]) hx hb dX4_mix_1 rfl hl (by decide) rfl (fun ls hl => ?_)
  refine lv_iconst (v := 0) hx hb dX4_mix_2 (by decide) ?_
  refine lv_istore (lv' := [(5, .int (0 : Int32)), (3, .long x1), (0, .ref (a o)), (1, .long x1)]) hx hb dX4_mix_3 hl (by decide) rfl (fun ls hl => ?_)
  exact L5  fuel (x1, (0 : Int32)) _ hf hF _ _ _ hW (lv_sub hl [2, 1, 0] rfl)

def f_X5_commonDivisor_B9 (x4 : Int64) (x6 : Int64) (x8 : Int32) : Option ((Int64 × Int64 × Int32) ⊕ (Int64)) :=
  if (100 : Int32) ≤ x8 then (Option.map Sum.inr (some x4)) else (if (lg_cmp x6 (0 : Int64)) = 0 then (Option.map Sum.inr (some x4)) else (gd (decide (¬ x6 = 0)) (some (Sum.inl (x6, (jremL x4 x6), (x8 + (1 : Int32)))))))
def f_X5_commonDivisor_L9 (sg : Int64 × Int64 × Int32) : Option ((Int64 × Int64 × Int32) ⊕ (Int64)) := f_X5_commonDivisor_B9 sg.1 sg.2.1 sg.2.2
def f_X5_commonDivisor (x0 : Int64) (x2 : Int64) : Option (Int64) :=
  lp (f_X5_commonDivisor_L9) fuel (x0, x2, (0 : Int32))
set_option maxRecDepth 100000 in
set_option maxHeartbeats 8000000 in
theorem c_X5_commonDivisor (l : Launch) (G : GG) (x0 : Int64) (x2 : Int64) (out : Int64) (hf : f_X5_commonDivisor x0 x2 = some out) : Cn l G 0 yX5_commonDivisor cX5_commonDivisor 11 (some .long) [.long x0, .long x2] ([] : va_W) (some (.long out)) ([] : va_W) := by
  refine cn_start (by decide) (Nat.le_of_ble_eq_true rfl) ?_
  intro p e s m below meth c A ls C0 hW hl
  have hx := C0.1
  have hb := C0.2.1
  have hl : lv_has ls 11 [(0, .long x0), (2, .long x2)] := hl
  have L9 : ∀ (k8 : Nat) (sg : Int64 × Int64 × Int32) (o9 : Int64), lp (f_X5_commonDivisor_L9) k8 sg = some o9 → (fun (r : Int64) => r = out) o9 → (fun (sg : Int64 × Int64 × Int32) => ∀ (H : Heap) (locs : List Loc) (ls : Array Slot), Wd G A s.heap H ([] : va_W) locs → lv_has ls 11 [(4, .long sg.1), (6, .long sg.2.1), (8, .int sg.2.2)] → WW p l e 0 s m [.long x0, .long x2] below meth c G A (some (.long out)) (([] : va_W)) H locs 9 ls []) sg := by
    have B9 : ∀ (x4 : Int64) (x6 : Int64) (x8 : Int32) (r : (Int64 × Int64 × Int32) ⊕ (Int64)), f_X5_commonDivisor_B9 x4 x6 x8 = some r → (Sum.elim (fun (sg : Int64 × Int64 × Int32) => ∀ (H : Heap) (locs : List Loc) (ls : Array Slot), Wd G A s.heap H ([] : va_W) locs → lv_has ls 11 [(4, .long sg.1), (6, .long sg.2.1), (8, .int sg.2.2)] → WW p l e 0 s m [.long x0, .long x2] below meth c G A (some (.long out)) (([] : va_W)) H locs 9 ls []) (fun (r : Int64) => r = out)) r → ∀ (H : Heap) (locs : List Loc) (ls : Array Slot), Wd G A s.heap H ([] : va_W) locs → lv_has ls 11 [(4, .long x4), (6, .long x6), (8, .int x8)] → WW p l e 0 s m [.long x0, .long x2] below meth c G A (some (.long out)) (([] : va_W)) H locs 9 ls [] := by
      intro x4 x6 x8 r hf hF H locs ls hW hl
      unfold f_X5_commonDivisor_B9 at hf
      refine lv_iload hx hb dX5_commonDivisor_9 (lv_at hl 2 rfl) ?_
      refine lv_bipush (v := 100) hx hb dX5_commonDivisor_11 (by decide) ?_
      refine lv_icmp_ge (tgt := 44) hx hb dX5_commonDivisor_13 (by decide) (fun c13_1 => ?_) (fun c13_1 => ?_)
      · replace hf := if_t c13_1 hf
        obtain ⟨r2, e2⟩ := om_s hf
        replace hf := e2.1
        replace e2 := e2.2
        subst e2
        replace hF := elim_r hF
        refine lv_lload hx hb dX5_commonDivisor_44 (lv_at hl 0 rfl) ?_
        have e1 := Option.some.inj hf
        subst e1
        have hF : (x4 : Int64) = out := hF
        subst hF
        exact k_lret C0 hW dX5_commonDivisor_46
      · replace hf := if_f c13_1 hf
        refine lv_lload hx hb dX5_commonDivisor_16 (lv_at hl 1 rfl) ?_
        refine lv_lconst (v := 0) hx hb dX5_commonDivisor_18 (by decide) ?_
        refine W.lcmp hx hb dX5_commonDivisor_19 ?_
        refine lv_if_eq (tgt := 44) hx hb dX5_commonDivisor_20 (by decide) (fun c20_2 => ?_) (fun c20_2 => ?_)
        · replace hf := if_t c20_2 hf
          obtain ⟨r2, e2⟩ := om_s hf
          replace hf := e2.1
          replace e2 := e2.2
          subst e2
          replace hF := elim_r hF
          refine lv_lload hx hb dX5_commonDivisor_44 (lv_at hl 0 rfl) ?_
          have e1 := Option.some.inj hf
          subst e1
          have hF : (x4 : Int64) = out := hF
          subst hF
          exact k_lret C0 hW dX5_commonDivisor_46
        · replace hf := if_f c20_2 hf
          refine lv_lload hx hb dX5_commonDivisor_23 (lv_at hl 0 rfl) ?_
          refine lv_lload hx hb dX5_commonDivisor_25 (lv_at hl 1 rfl) ?_
          have g27_3 := (gd_some hf).1; replace hf := (gd_some hf).2
          refine lv_lrem hx hb dX5_commonDivisor_27 (of_decide_eq_true g27_3) ?_
          refine lv_lstore (lv' := [(9, .long (jremL x4 x6)), (4, .long x4), (6, .long x6), (8, .int x8)]) hx hb dX5_commonDivisor_28 hl (by decide) rfl (fun ls hl => ?_)
          refine lv_lload hx hb dX5_commonDivisor_30 (lv_at hl 2 rfl) ?_
          refine lv_lstore (lv' := [(4, .long x6), (9, .long (jremL x4 x6)), (6, .long x6), (8, .int x8)]) hx hb dX5_commonDivisor_32 hl (by decide) rfl (fun ls hl => ?_)
          refine lv_lload hx hb dX5_commonDivisor_34 (lv_at hl 1 rfl) ?_
          refine lv_lstore (lv' := [(6, .long (jremL x4 x6)), (4, .long x6), (9, .long (jremL x4 x6)), (8, .int x8)]) hx hb dX5_commonDivisor_36 hl (by decide) rfl (fun ls hl => ?_)
          refine lv_iinc (v := (x8 + (1 : Int32))) (lv' := [(8, .int (x8 + (1 : Int32))), (6, .long (jremL x4 x6)), (4, .long x6), (9, .long (jremL x4 x6))]) hx hb dX5_commonDivisor_38 hl (k := 3) rfl rfl (by decide) rfl (fun ls hl => ?_)
          refine lv_goto (tgt := 9) hx hb dX5_commonDivisor_41 (by decide) ?_
          have e1 := Option.some.inj hf
          subst e1
          exact (elim_l hF) _ _ _ hW (lv_sub hl [2, 1, 0] rfl)
    exact lp_sound (fun sg r hb hz => B9 sg.1 sg.2.1 sg.2.2 r hb hz)
  obtain ⟨r, hr⟩ : ∃ r, f_X5_commonDivisor x0 x2 = some r ∧ r = out := ⟨out, hf, rfl⟩
  replace hf := hr.1
  have hF := hr.2
  clear hr
  unfold f_X5_commonDivisor at hf
  refine lv_lload_n hx hb dX5_commonDivisor_0 rfl (lv_at hl 0 rfl) ?_
  refine lv_lstore (lv' := [(4, .long x0), (0, .long x0), (2, .long x2)]) hx hb dX5_commonDivisor_1 hl (by decide) rfl (fun ls hl => ?_)
  refine lv_lload_n hx hb dX5_commonDivisor_3 rfl (lv_at hl 2 rfl) ?_
  refine lv_lstore (lv' := [(6, .long x2), (4, .long x0), (0, .long x0), (2, .long x2)]) hx hb dX5_commonDivisor_4 hl (by decide) rfl (fun ls hl => ?_)
  refine lv_iconst (v := 0) hx hb dX5_commonDivisor_6 (by decide) ?_
  refine lv_istore (lv' := [(8, .int (0 : Int32)), (6, .long x2), (4, .long x0), (0, .long x0), (2, .long x2)]) hx hb dX5_commonDivisor_7 hl (by decide) rfl (fun ls hl => ?_)
  exact L9  fuel (x0, x2, (0 : Int32)) _ hf hF _ _ _ hW (lv_sub hl [2, 1, 0] rfl)
