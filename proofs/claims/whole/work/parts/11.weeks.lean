def f_X5_asked (w : Ww) : Option (Int32) :=
  some (ww_askedLast w)
set_option maxRecDepth 100000 in
set_option maxHeartbeats 400000 in
theorem c_X5_asked (l : Launch) (G : GG) (a : Nat → Nat) (o : Nat) (w : Ww) (out : Int32) (hf : f_X5_asked w = some out) : Cn l G 0 yX5_asked cX5_asked 1 (some .int) [.ref (a o)] (bWw G a o w) (some (.int out)) (bWw G a o w) := by
  refine cn_start (by decide) (Nat.le_of_ble_eq_true rfl) ?_
  intro p e s m below meth c A ls C0 hW hl
  have hx := C0.1
  have hb := C0.2.1
  have hl : lv_has ls 1 [(0, .ref (a o))] := hl
  obtain ⟨r, hr⟩ : ∃ r, f_X5_asked w = some r ∧ r = out := ⟨out, hf, rfl⟩
  replace hf := hr.1
  have hF := hr.2
  clear hr
  unfold f_X5_asked at hf
  refine lv_aload_n hx hb dX5_asked_0 rfl (lv_at hl 0 rfl) ?_
  refine k_get C0 hW 5 8 0 (v := .int (ww_askedLast w)) rfl (by decide) inX5 mf_X5_257 rfl rfl dX5_asked_1 ?_
  have e1 := Option.some.inj hf
  subst e1
  have hF : ((ww_askedLast w) : Int32) = out := hF
  subst hF
  exact k_iret C0 hW dX5_asked_4

def f_X5_refuse (w : Ww) (x1 : Int32) : Option (Int32 × Ww) :=
  gd (inb x1 6) (gd (inb x1 6) (some ((-3 : Int32), (ww_set_findingLast (ww_set_tallies w (upd (ww_tallies w) (ix x1) (((ww_tallies w) (ix x1)) + (1 : Int32)))) x1))))
set_option maxRecDepth 100000 in
set_option maxHeartbeats 400000 in
theorem c_X5_refuse (l : Launch) (G : GG) (a : Nat → Nat) (o : Nat) (w : Ww) (x1 : Int32) (out : Int32 × Ww) (hf : f_X5_refuse w x1 = some out) : Cn l G 0 yX5_refuse cX5_refuse 2 (some .int) [.ref (a o), .int x1] (bWw G a o w) (some (.int out.1)) (bWw G a o out.2) := by
  refine cn_start (by decide) (Nat.le_of_ble_eq_true rfl) ?_
  intro p e s m below meth c A ls C0 hW hl
  have hx := C0.1
  have hb := C0.2.1
  have hl : lv_has ls 2 [(0, .ref (a o)), (1, .int x1)] := hl
  obtain ⟨r, hr⟩ : ∃ r, f_X5_refuse w x1 = some r ∧ r = out := ⟨out, hf, rfl⟩
  replace hf := hr.1
  have hF := hr.2
  clear hr
  unfold f_X5_refuse at hf
  refine lv_aload_n hx hb dX5_refuse_0 rfl (lv_at hl 0 rfl) ?_
  refine lv_iload_n hx hb dX5_refuse_1 rfl (lv_at hl 1 rfl) ?_
  refine k_put C0 hW 5 7 0 rfl (by decide) inX5 tyX5_ok nmX5 mf_X5_266 rfl rfl rfl rfl (Nat.le_of_ble_eq_true rfl) dX5_refuse_2 (fun H locs hW => ?_)
  have hW : Wd G A s.heap H (bWw G a o (ww_set_findingLast w x1)) locs := hW
  refine lv_aload_n hx hb dX5_refuse_5 rfl (lv_at hl 0 rfl) ?_
  refine k_get C0 hW 5 6 0 (v := .ref (a (o + 1))) rfl (by decide) inX5 mf_X5_56 rfl rfl dX5_refuse_6 ?_
  refine lv_iload_n hx hb dX5_refuse_9 rfl (lv_at hl 1 rfl) ?_
  refine lv_dup2_11 hx hb dX5_refuse_10 rfl rfl ?_
  have g11_1 := (gd_some hf).1; replace hf := (gd_some hf).2
  refine k_iald C0 hW 1 (ix x1) rfl (inb_in g11_1) rfl dX5_refuse_11 ?_
  refine lv_iconst (v := 1) hx hb dX5_refuse_12 (by decide) ?_
  refine lv_iadd hx hb dX5_refuse_13 ?_
  have g14_2 := (gd_some hf).1; replace hf := (gd_some hf).2
  refine k_iast C0 hW 1 (ix x1) rfl (inb_in g14_2) rfl dX5_refuse_14 (fun H locs hW => ?_)
  have hW : Wd G A s.heap H (bWw G a o (ww_set_findingLast (ww_set_tallies w (upd (ww_tallies w) (ix x1) (((ww_tallies w) (ix x1)) + (1 : Int32)))) x1)) locs := hW
  refine lv_bipush (v := -3) hx hb dX5_refuse_15 (by decide) ?_
  have e1 := Option.some.inj hf
  subst e1
  have hF : (((-3 : Int32), (ww_set_findingLast (ww_set_tallies w (upd (ww_tallies w) (ix x1) (((ww_tallies w) (ix x1)) + (1 : Int32)))) x1)) : Int32 × Ww) = out := hF
  subst hF
  exact k_iret C0 hW dX5_refuse_17

def f_X5_refuseMissing_rows (w : Ww) (x2 : Int32) : Option (Int32 × Ww) :=
  Option.bind (f_X3_isNumber 6 40 (ww_rows w) x2) (fun q2 => if q2 = 0 then (some ((-1 : Int32), w)) else (Option.bind (f_X3_isMissing 6 40 (ww_rows w) x2) (fun q12 => if q12 = 0 then (some ((0 : Int32), w)) else (Option.bind (f_X5_refuse w (1 : Int32)) (fun q20 => some (q20.1, q20.2))))))
set_option maxRecDepth 100000 in
set_option maxHeartbeats 400000 in
theorem c_X5_refuseMissing_rows (l : Launch) (G : GG) (a : Nat → Nat) (o : Nat) (w : Ww) (x2 : Int32) (out : Int32 × Ww) (hf : f_X5_refuseMissing_rows w x2 = some out) : Cn l G 1 yX5_refuseMissing cX5_refuseMissing 3 (some .int) [.ref (a o), .ref (a (o + 3)), .int x2] (bWw G a o w) (some (.int out.1)) (bWw G a o out.2) := by
  refine cn_start (by decide) (Nat.le_of_ble_eq_true rfl) ?_
  intro p e s m below meth c A ls C0 hW hl
  have hx := C0.1
  have hb := C0.2.1
  have hl : lv_has ls 3 [(0, .ref (a o)), (1, .ref (a (o + 3))), (2, .int x2)] := hl
  obtain ⟨r, hr⟩ : ∃ r, f_X5_refuseMissing_rows w x2 = some r ∧ r = out := ⟨out, hf, rfl⟩
  replace hf := hr.1
  have hF := hr.2
  clear hr
  unfold f_X5_refuseMissing_rows at hf
  refine lv_aload_n hx hb dX5_refuseMissing_0 rfl (lv_at hl 1 rfl) ?_
  refine lv_iload_n hx hb dX5_refuseMissing_1 rfl (lv_at hl 2 rfl) ?_
  obtain ⟨q2, hq2⟩ := ob_s hf
  replace hf := hq2.2
  replace hq2 := hq2.1
  refine bV1 (rest := []) (bs := bsWw G a o w) (bs1 := bsWw G a o w) (st1 := [.int q2]) C0 hW hl.1 (c_X3_isNumber l G a (o + 3) 6 40 (ww_rows w) x2 _ hq2) cb_X3_isNumber mm_X5_92 ([1, 2, 3, 4, 5, 6, 7]) ([0, 8, 9, 10, 11, 12, 13, 14, 15, 16, 17, 18, 19, 20, 21, 22, 23, 24]) (ap_1_2_3_4_5_6_7) (ac_1_2_3_4_5_6_7) (ac_1_2_3_4_5_6_7) rfl rfl rfl 0 3 rfl rfl rfl (by decide) rfl rfl (Nat.le_of_ble_eq_true rfl) ⟨Nat.zero_le _, Nat.zero_le _⟩ dX5_refuseMissing_2 rfl (fun H locs hW => ?_)
  refine lv_if_ne (tgt := 10) hx hb dX5_refuseMissing_5 (by decide) (fun c5_1 => ?_) (fun c5_1 => ?_)
  · replace hf := if_f c5_1 hf
    refine lv_aload_n hx hb dX5_refuseMissing_10 rfl (lv_at hl 1 rfl) ?_
    refine lv_iload_n hx hb dX5_refuseMissing_11 rfl (lv_at hl 2 rfl) ?_
    obtain ⟨q12, hq12⟩ := ob_s hf
    replace hf := hq12.2
    replace hq12 := hq12.1
    refine bV1 (rest := []) (bs := bsWw G a o w) (bs1 := bsWw G a o w) (st1 := [.int q12]) C0 hW hl.1 (c_X3_isMissing l G a (o + 3) 6 40 (ww_rows w) x2 _ hq12) cb_X3_isMissing mm_X5_99 ([1, 2, 3, 4, 5, 6, 7]) ([0, 8, 9, 10, 11, 12, 13, 14, 15, 16, 17, 18, 19, 20, 21, 22, 23, 24]) (ap_1_2_3_4_5_6_7) (ac_1_2_3_4_5_6_7) (ac_1_2_3_4_5_6_7) rfl rfl rfl 0 3 rfl rfl rfl (by decide) rfl rfl (Nat.le_of_ble_eq_true rfl) ⟨Nat.zero_le _, Nat.zero_le _⟩ dX5_refuseMissing_12 rfl (fun H locs hW => ?_)
    refine lv_if_eq (tgt := 26) hx hb dX5_refuseMissing_15 (by decide) (fun c15_2 => ?_) (fun c15_2 => ?_)
    · replace hf := if_t c15_2 hf
      refine lv_iconst (v := 0) hx hb dX5_refuseMissing_26 (by decide) ?_
      have e1 := Option.some.inj hf
      subst e1
      have hF : (((0 : Int32), w) : Int32 × Ww) = out := hF
      subst hF
      exact k_iret C0 hW dX5_refuseMissing_27
    · replace hf := if_f c15_2 hf
      refine lv_aload_n hx hb dX5_refuseMissing_18 rfl (lv_at hl 0 rfl) ?_
      refine lv_iconst (v := 1) hx hb dX5_refuseMissing_19 (by decide) ?_
      obtain ⟨q20, hq20⟩ := ob_s hf
      replace hf := hq20.2
      replace hq20 := hq20.1
      refine cW1 (rest := []) (ws1 := (bWw G a o q20.2)) (st1 := [.int q20.1]) C0 hW hl.1 (c_X5_refuse l G a o w (1 : Int32) _ hq20) cb_X5_refuse mm_X5_96 fst_Ww 0 5 rfl rfl rfl (by decide) rfl rfl (Nat.le_of_ble_eq_true rfl) ⟨Nat.zero_le _, Nat.zero_le _⟩ dX5_refuseMissing_20 rfl (fun H locs hW => ?_)
      refine lv_goto (tgt := 27) hx hb dX5_refuseMissing_23 (by decide) ?_
      have e1 := Option.some.inj hf
      subst e1
      have hF : ((q20.1, q20.2) : Int32 × Ww) = out := hF
      subst hF
      exact k_iret C0 hW dX5_refuseMissing_27
  · replace hf := if_t c5_1 hf
    refine lv_iconst (v := -1) hx hb dX5_refuseMissing_8 (by decide) ?_
    have e1 := Option.some.inj hf
    subst e1
    have hF : (((-1 : Int32), w) : Int32 × Ww) = out := hF
    subst hF
    exact k_iret C0 hW dX5_refuseMissing_9

def f_X5_refusePlace_rows (w : Ww) (x2 : Int32) (x3 : Int32) : Option (Int32 × Ww) :=
  Option.bind (f_X5_refuseMissing_rows w x2) (fun q3 => if q3.1 = 0 then (Option.bind (f_X3_isPlace 6 40 (ww_rows q3.2) x2 x3) (fun q19 => if q19 = 0 then (Option.bind (f_X5_refuse q3.2 (2 : Int32)) (fun q31 => some (q31.1, q31.2))) else (some ((0 : Int32), q3.2)))) else (some (q3.1, q3.2)))
set_option maxRecDepth 100000 in
set_option maxHeartbeats 400000 in
theorem c_X5_refusePlace_rows (l : Launch) (G : GG) (a : Nat → Nat) (o : Nat) (w : Ww) (x2 : Int32) (x3 : Int32) (out : Int32 × Ww) (hf : f_X5_refusePlace_rows w x2 x3 = some out) : Cn l G 2 yX5_refusePlace cX5_refusePlace 5 (some .int) [.ref (a o), .ref (a (o + 3)), .int x2, .int x3] (bWw G a o w) (some (.int out.1)) (bWw G a o out.2) := by
  refine cn_start (by decide) (Nat.le_of_ble_eq_true rfl) ?_
  intro p e s m below meth c A ls C0 hW hl
  have hx := C0.1
  have hb := C0.2.1
  have hl : lv_has ls 5 [(0, .ref (a o)), (1, .ref (a (o + 3))), (2, .int x2), (3, .int x3)] := hl
  obtain ⟨r, hr⟩ : ∃ r, f_X5_refusePlace_rows w x2 x3 = some r ∧ r = out := ⟨out, hf, rfl⟩
  replace hf := hr.1
  have hF := hr.2
  clear hr
  unfold f_X5_refusePlace_rows at hf
  refine lv_aload_n hx hb dX5_refusePlace_0 rfl (lv_at hl 0 rfl) ?_
  refine lv_aload_n hx hb dX5_refusePlace_1 rfl (lv_at hl 1 rfl) ?_
  refine lv_iload_n hx hb dX5_refusePlace_2 rfl (lv_at hl 2 rfl) ?_
  obtain ⟨q3, hq3⟩ := ob_s hf
  replace hf := hq3.2
  replace hq3 := hq3.1
  refine cW1 (rest := []) (ws1 := (bWw G a o q3.2)) (st1 := [.int q3.1]) C0 hW hl.1 (c_X5_refuseMissing_rows l G a o w x2 _ hq3) cb_X5_refuseMissing mm_X5_84 fst_Ww 0 5 rfl rfl rfl (by decide) rfl rfl (Nat.le_of_ble_eq_true rfl) ⟨Nat.zero_le _, Nat.zero_le _⟩ dX5_refusePlace_3 rfl (fun H locs hW => ?_)
  refine lv_istore (lv' := [(4, .int q3.1), (0, .ref (a o)), (1, .ref (a (o + 3))), (2, .int x2), (3, .int x3)]) hx hb dX5_refusePlace_6 hl (by decide) rfl (fun ls hl => ?_)
  refine lv_iload hx hb dX5_refusePlace_8 (lv_at hl 0 rfl) ?_
  refine lv_if_eq (tgt := 16) hx hb dX5_refusePlace_10 (by decide) (fun c10_1 => ?_) (fun c10_1 => ?_)
  · replace hf := if_t c10_1 hf
    refine lv_aload_n hx hb dX5_refusePlace_16 rfl (lv_at hl 2 rfl) ?_
    refine lv_iload_n hx hb dX5_refusePlace_17 rfl (lv_at hl 3 rfl) ?_
    refine lv_iload_n hx hb dX5_refusePlace_18 rfl (lv_at hl 4 rfl) ?_
    obtain ⟨q19, hq19⟩ := ob_s hf
    replace hf := hq19.2
    replace hq19 := hq19.1
    refine bV1 (rest := []) (bs := bsWw G a o q3.2) (bs1 := bsWw G a o q3.2) (st1 := [.int q19]) C0 hW hl.1 (c_X3_isPlace l G a (o + 3) 6 40 (ww_rows q3.2) x2 x3 _ hq19) cb_X3_isPlace mm_X5_278 ([1, 2, 3, 4, 5, 6, 7]) ([0, 8, 9, 10, 11, 12, 13, 14, 15, 16, 17, 18, 19, 20, 21, 22, 23, 24]) (ap_1_2_3_4_5_6_7) (ac_1_2_3_4_5_6_7) (ac_1_2_3_4_5_6_7) rfl rfl rfl 0 3 rfl rfl rfl (by decide) rfl rfl (Nat.le_of_ble_eq_true rfl) ⟨Nat.zero_le _, Nat.zero_le _⟩ dX5_refusePlace_19 rfl (fun H locs hW => ?_)
    refine lv_if_eq (tgt := 29) hx hb dX5_refusePlace_22 (by decide) (fun c22_2 => ?_) (fun c22_2 => ?_)
    · replace hf := if_t c22_2 hf
      refine lv_aload_n hx hb dX5_refusePlace_29 rfl (lv_at hl 1 rfl) ?_
      refine lv_iconst (v := 2) hx hb dX5_refusePlace_30 (by decide) ?_
      obtain ⟨q31, hq31⟩ := ob_s hf
      replace hf := hq31.2
      replace hq31 := hq31.1
      refine cW1 (rest := []) (ws1 := (bWw G a o q31.2)) (st1 := [.int q31.1]) C0 hW hl.1 (c_X5_refuse l G a o q3.2 (2 : Int32) _ hq31) cb_X5_refuse mm_X5_96 fst_Ww 0 5 rfl rfl rfl (by decide) rfl rfl (Nat.le_of_ble_eq_true rfl) ⟨Nat.zero_le _, Nat.zero_le _⟩ dX5_refusePlace_31 rfl (fun H locs hW => ?_)
      have e1 := Option.some.inj hf
      subst e1
      have hF : ((q31.1, q31.2) : Int32 × Ww) = out := hF
      subst hF
      exact k_iret C0 hW dX5_refusePlace_34
    · replace hf := if_f c22_2 hf
      refine lv_iconst (v := 0) hx hb dX5_refusePlace_25 (by decide) ?_
      refine lv_goto (tgt := 34) hx hb dX5_refusePlace_26 (by decide) ?_
      have e1 := Option.some.inj hf
      subst e1
      have hF : (((0 : Int32), q3.2) : Int32 × Ww) = out := hF
      subst hF
      exact k_iret C0 hW dX5_refusePlace_34
  · replace hf := if_f c10_1 hf
    refine lv_iload hx hb dX5_refusePlace_13 (lv_at hl 0 rfl) ?_
    have e1 := Option.some.inj hf
    subst e1
    have hF : ((q3.1, q3.2) : Int32 × Ww) = out := hF
    subst hF
    exact k_iret C0 hW dX5_refusePlace_15

def f_X5_tell (w : Ww) (x1 : Int32) : Option (Int32 × Ww) :=
  some ((1 : Int32), (ww_set_askedLast w x1))
set_option maxRecDepth 100000 in
set_option maxHeartbeats 400000 in
theorem c_X5_tell (l : Launch) (G : GG) (a : Nat → Nat) (o : Nat) (w : Ww) (x1 : Int32) (out : Int32 × Ww) (hf : f_X5_tell w x1 = some out) : Cn l G 0 yX5_tell cX5_tell 2 (some .int) [.ref (a o), .int x1] (bWw G a o w) (some (.int out.1)) (bWw G a o out.2) := by
  refine cn_start (by decide) (Nat.le_of_ble_eq_true rfl) ?_
  intro p e s m below meth c A ls C0 hW hl
  have hx := C0.1
  have hb := C0.2.1
  have hl : lv_has ls 2 [(0, .ref (a o)), (1, .int x1)] := hl
  obtain ⟨r, hr⟩ : ∃ r, f_X5_tell w x1 = some r ∧ r = out := ⟨out, hf, rfl⟩
  replace hf := hr.1
  have hF := hr.2
  clear hr
  unfold f_X5_tell at hf
  refine lv_aload_n hx hb dX5_tell_0 rfl (lv_at hl 0 rfl) ?_
  refine lv_iload_n hx hb dX5_tell_1 rfl (lv_at hl 1 rfl) ?_
  refine k_put C0 hW 5 8 0 rfl (by decide) inX5 tyX5_ok nmX5 mf_X5_257 rfl rfl rfl rfl (Nat.le_of_ble_eq_true rfl) dX5_tell_2 (fun H locs hW => ?_)
  have hW : Wd G A s.heap H (bWw G a o (ww_set_askedLast w x1)) locs := hW
  refine lv_iconst (v := 1) hx hb dX5_tell_5 (by decide) ?_
  have e1 := Option.some.inj hf
  subst e1
  have hF : (((1 : Int32), (ww_set_askedLast w x1)) : Int32 × Ww) = out := hF
  subst hF
  exact k_iret C0 hW dX5_tell_6

def f_X5_at (w : Ww) (x1 : Int32) (x2 : Int32) : Option (Int32 × Ww) :=
  Option.bind (f_X5_refusePlace_rows w x1 x2) (fun q7 => if q7.1 = 0 then (Option.bind (f_X3_get 6 40 (ww_rows q7.2) x1 x2) (fun q24 => Option.bind (f_X5_tell q7.2 q24) (fun q27 => some (q27.1, q27.2)))) else (some (q7.1, q7.2)))
set_option maxRecDepth 100000 in
set_option maxHeartbeats 400000 in
theorem c_X5_at (l : Launch) (G : GG) (a : Nat → Nat) (o : Nat) (w : Ww) (x1 : Int32) (x2 : Int32) (out : Int32 × Ww) (hf : f_X5_at w x1 x2 = some out) : Cn l G 3 yX5_at cX5_at 4 (some .int) [.ref (a o), .int x1, .int x2] (bWw G a o w) (some (.int out.1)) (bWw G a o out.2) := by
  refine cn_start (by decide) (Nat.le_of_ble_eq_true rfl) ?_
  intro p e s m below meth c A ls C0 hW hl
  have hx := C0.1
  have hb := C0.2.1
  have hl : lv_has ls 4 [(0, .ref (a o)), (1, .int x1), (2, .int x2)] := hl
  obtain ⟨r, hr⟩ : ∃ r, f_X5_at w x1 x2 = some r ∧ r = out := ⟨out, hf, rfl⟩
  replace hf := hr.1
  have hF := hr.2
  clear hr
  unfold f_X5_at at hf
  refine lv_aload_n hx hb dX5_at_0 rfl (lv_at hl 0 rfl) ?_
  refine lv_aload_n hx hb dX5_at_1 rfl (lv_at hl 0 rfl) ?_
  refine k_get C0 hW 5 0 0 (v := .ref (a (o + 3))) rfl (by decide) inX5 mf_X5_14 rfl rfl dX5_at_2 ?_
  refine lv_iload_n hx hb dX5_at_5 rfl (lv_at hl 1 rfl) ?_
  refine lv_iload_n hx hb dX5_at_6 rfl (lv_at hl 2 rfl) ?_
  obtain ⟨q7, hq7⟩ := ob_s hf
  replace hf := hq7.2
  replace hq7 := hq7.1
  refine cW1 (rest := []) (ws1 := (bWw G a o q7.2)) (st1 := [.int q7.1]) C0 hW hl.1 (c_X5_refusePlace_rows l G a o w x1 x2 _ hq7) cb_X5_refusePlace mm_X5_68 fst_Ww 0 5 rfl rfl rfl (by decide) rfl rfl (Nat.le_of_ble_eq_true rfl) ⟨Nat.zero_le _, Nat.zero_le _⟩ dX5_at_7 rfl (fun H locs hW => ?_)
  refine lv_istore_n (lv' := [(3, .int q7.1), (0, .ref (a o)), (1, .int x1), (2, .int x2)]) hx hb dX5_at_10 rfl hl (by decide) rfl (fun ls hl => ?_)
  refine lv_iload_n hx hb dX5_at_11 rfl (lv_at hl 0 rfl) ?_
  refine lv_if_eq (tgt := 17) hx hb dX5_at_12 (by decide) (fun c12_1 => ?_) (fun c12_1 => ?_)
  · replace hf := if_t c12_1 hf
    refine lv_aload_n hx hb dX5_at_17 rfl (lv_at hl 1 rfl) ?_
    refine lv_aload_n hx hb dX5_at_18 rfl (lv_at hl 1 rfl) ?_
    refine k_get C0 hW 5 0 0 (v := .ref (a (o + 3))) rfl (by decide) inX5 mf_X5_14 rfl rfl dX5_at_19 ?_
    refine lv_iload_n hx hb dX5_at_22 rfl (lv_at hl 2 rfl) ?_
    refine lv_iload_n hx hb dX5_at_23 rfl (lv_at hl 3 rfl) ?_
    obtain ⟨q24, hq24⟩ := ob_s hf
    replace hf := hq24.2
    replace hq24 := hq24.1
    refine bV1 (rest := [.ref (a o)]) (bs := bsWw G a o q7.2) (bs1 := bsWw G a o q7.2) (st1 := [.int q24, .ref (a o)]) C0 hW hl.1 (c_X3_get l G a (o + 3) 6 40 (ww_rows q7.2) x1 x2 _ hq24) cb_X3_get mm_X5_80 ([1, 2, 3, 4, 5, 6, 7]) ([0, 8, 9, 10, 11, 12, 13, 14, 15, 16, 17, 18, 19, 20, 21, 22, 23, 24]) (ap_1_2_3_4_5_6_7) (ac_1_2_3_4_5_6_7) (ac_1_2_3_4_5_6_7) rfl rfl rfl 0 3 rfl rfl rfl (by decide) rfl rfl (Nat.le_of_ble_eq_true rfl) ⟨Nat.zero_le _, Nat.zero_le _⟩ dX5_at_24 rfl (fun H locs hW => ?_)
    obtain ⟨q27, hq27⟩ := ob_s hf
    replace hf := hq27.2
    replace hq27 := hq27.1
    refine cW1 (rest := []) (ws1 := (bWw G a o q27.2)) (st1 := [.int q27.1]) C0 hW hl.1 (c_X5_tell l G a o q7.2 q24 _ hq27) cb_X5_tell mm_X5_76 fst_Ww 0 5 rfl rfl rfl (by decide) rfl rfl (Nat.le_of_ble_eq_true rfl) ⟨Nat.zero_le _, Nat.zero_le _⟩ dX5_at_27 rfl (fun H locs hW => ?_)
    have e1 := Option.some.inj hf
    subst e1
    have hF : ((q27.1, q27.2) : Int32 × Ww) = out := hF
    subst hF
    exact k_iret C0 hW dX5_at_30
  · replace hf := if_f c12_1 hf
    refine lv_iload_n hx hb dX5_at_15 rfl (lv_at hl 0 rfl) ?_
    have e1 := Option.some.inj hf
    subst e1
    have hF : ((q7.1, q7.2) : Int32 × Ww) = out := hF
    subst hF
    exact k_iret C0 hW dX5_at_16

def f_X5_bears (w : Ww) (x1 : Int32) (x2 : Int32) (x3 : Int32) : Option (Int32) :=
  Option.bind (f_X4_isSpoke (ct_wheel (ww_cart w)) x1) (fun q8 => if q8 = 0 then (some (-1 : Int32)) else (if x2 < 0 then (some (-1 : Int32)) else (if (9 : Int32) < x2 then (some (-1 : Int32)) else (if x3 < 0 then (some (-1 : Int32)) else (if x3 ≤ (30 : Int32) then (gd (inb x1 8) (gd (inb x1 8) (Option.bind (f_X5_bearing ((wh_kind (ct_wheel (ww_cart w))) (ix x1)) ((wh_strong (ct_wheel (ww_cart w))) (ix x1)) x3 x2 (wh_dry (ct_wheel (ww_cart w)))) (fun q72 => some q72)))) else (some (-1 : Int32)))))))
set_option maxRecDepth 100000 in
set_option maxHeartbeats 400000 in
theorem c_X5_bears (l : Launch) (G : GG) (a : Nat → Nat) (o : Nat) (w : Ww) (x1 : Int32) (x2 : Int32) (x3 : Int32) (out : Int32) (hf : f_X5_bears w x1 x2 x3 = some out) : Cn l G 2 yX5_bears cX5_bears 4 (some .int) [.ref (a o), .int x1, .int x2, .int x3] (bWw G a o w) (some (.int out)) (bWw G a o w) := by
  refine cn_start (by decide) (Nat.le_of_ble_eq_true rfl) ?_
  intro p e s m below meth c A ls C0 hW hl
  have hx := C0.1
  have hb := C0.2.1
  have hl : lv_has ls 4 [(0, .ref (a o)), (1, .int x1), (2, .int x2), (3, .int x3)] := hl
  obtain ⟨r, hr⟩ : ∃ r, f_X5_bears w x1 x2 x3 = some r ∧ r = out := ⟨out, hf, rfl⟩
  replace hf := hr.1
  have hF := hr.2
  clear hr
  unfold f_X5_bears at hf
  refine lv_aload_n hx hb dX5_bears_0 rfl (lv_at hl 0 rfl) ?_
  refine k_get C0 hW 5 3 0 (v := .ref (a (o + 27))) rfl (by decide) inX5 mf_X5_31 rfl rfl dX5_bears_1 ?_
  refine k_get C0 hW 1 0 27 (v := .ref (a (o + 30))) rfl (by decide) inX1 mf_X5_45 rfl rfl dX5_bears_4 ?_
  refine lv_iload_n hx hb dX5_bears_7 rfl (lv_at hl 1 rfl) ?_
  obtain ⟨q8, hq8⟩ := ob_s hf
  replace hf := hq8.2
  replace hq8 := hq8.1
  refine bV1 (rest := []) (bs := bsWw G a o w) (bs1 := bsWw G a o w) (st1 := [.int q8]) C0 hW hl.1 (c_X4_isSpoke l G a (o + 30) (ct_wheel (ww_cart w)) x1 _ hq8) cb_X4_isSpoke mm_X5_136 ([16]) ([0, 1, 2, 3, 4, 5, 6, 7, 8, 9, 10, 11, 12, 13, 14, 15, 17, 18, 19, 20, 21, 22, 23, 24]) (ap_16) (ac_16) (ac_16) rfl rfl rfl 0 4 rfl rfl rfl (by decide) rfl rfl (Nat.le_of_ble_eq_true rfl) ⟨Nat.zero_le _, Nat.zero_le _⟩ dX5_bears_8 rfl (fun H locs hW => ?_)
  refine lv_if_eq (tgt := 34) hx hb dX5_bears_11 (by decide) (fun c11_1 => ?_) (fun c11_1 => ?_)
  · replace hf := if_t c11_1 hf
    refine lv_iconst (v := -1) hx hb dX5_bears_34 (by decide) ?_
    have e1 := Option.some.inj hf
    subst e1
    have hF : ((-1 : Int32) : Int32) = out := hF
    subst hF
    exact k_iret C0 hW dX5_bears_35
  · replace hf := if_f c11_1 hf
    refine lv_iload_n hx hb dX5_bears_14 rfl (lv_at hl 2 rfl) ?_
    refine lv_if_lt (tgt := 34) hx hb dX5_bears_15 (by decide) (fun c15_2 => ?_) (fun c15_2 => ?_)
    · replace hf := if_t c15_2 hf
      refine lv_iconst (v := -1) hx hb dX5_bears_34 (by decide) ?_
      have e1 := Option.some.inj hf
      subst e1
      have hF : ((-1 : Int32) : Int32) = out := hF
      subst hF
      exact k_iret C0 hW dX5_bears_35
    · replace hf := if_f c15_2 hf
      refine lv_iload_n hx hb dX5_bears_18 rfl (lv_at hl 2 rfl) ?_
      refine lv_bipush (v := 9) hx hb dX5_bears_19 (by decide) ?_
      refine lv_icmp_gt (tgt := 34) hx hb dX5_bears_21 (by decide) (fun c21_3 => ?_) (fun c21_3 => ?_)
      · replace hf := if_t c21_3 hf
        refine lv_iconst (v := -1) hx hb dX5_bears_34 (by decide) ?_
        have e1 := Option.some.inj hf
        subst e1
        have hF : ((-1 : Int32) : Int32) = out := hF
        subst hF
        exact k_iret C0 hW dX5_bears_35
      · replace hf := if_f c21_3 hf
        refine lv_iload_n hx hb dX5_bears_24 rfl (lv_at hl 3 rfl) ?_
        refine lv_if_lt (tgt := 34) hx hb dX5_bears_25 (by decide) (fun c25_4 => ?_) (fun c25_4 => ?_)
        · replace hf := if_t c25_4 hf
          refine lv_iconst (v := -1) hx hb dX5_bears_34 (by decide) ?_
          have e1 := Option.some.inj hf
          subst e1
          have hF : ((-1 : Int32) : Int32) = out := hF
          subst hF
          exact k_iret C0 hW dX5_bears_35
        · replace hf := if_f c25_4 hf
          refine lv_iload_n hx hb dX5_bears_28 rfl (lv_at hl 3 rfl) ?_
          refine lv_bipush (v := 30) hx hb dX5_bears_29 (by decide) ?_
          refine lv_icmp_le (tgt := 36) hx hb dX5_bears_31 (by decide) (fun c31_5 => ?_) (fun c31_5 => ?_)
          · replace hf := if_t c31_5 hf
            refine lv_aload_n hx hb dX5_bears_36 rfl (lv_at hl 0 rfl) ?_
            refine k_get C0 hW 5 3 0 (v := .ref (a (o + 27))) rfl (by decide) inX5 mf_X5_31 rfl rfl dX5_bears_37 ?_
            refine k_get C0 hW 1 0 27 (v := .ref (a (o + 30))) rfl (by decide) inX1 mf_X5_45 rfl rfl dX5_bears_40 ?_
            refine k_get C0 hW 4 1 30 (v := .ref (a (o + 32))) rfl (by decide) inX4 mf_X5_142 rfl rfl dX5_bears_43 ?_
            refine lv_iload_n hx hb dX5_bears_46 rfl (lv_at hl 1 rfl) ?_
            have g47_6 := (gd_some hf).1; replace hf := (gd_some hf).2
            refine k_iald C0 hW 32 (ix x1) rfl (inb_in g47_6) rfl dX5_bears_47 ?_
            refine lv_aload_n hx hb dX5_bears_48 rfl (lv_at hl 0 rfl) ?_
            refine k_get C0 hW 5 3 0 (v := .ref (a (o + 27))) rfl (by decide) inX5 mf_X5_31 rfl rfl dX5_bears_49 ?_
            refine k_get C0 hW 1 0 27 (v := .ref (a (o + 30))) rfl (by decide) inX1 mf_X5_45 rfl rfl dX5_bears_52 ?_
            refine k_get C0 hW 4 3 30 (v := .ref (a (o + 34))) rfl (by decide) inX4 mf_X5_152 rfl rfl dX5_bears_55 ?_
            refine lv_iload_n hx hb dX5_bears_58 rfl (lv_at hl 1 rfl) ?_
            have g59_7 := (gd_some hf).1; replace hf := (gd_some hf).2
            refine k_iald C0 hW 34 (ix x1) rfl (inb_in g59_7) rfl dX5_bears_59 ?_
            refine lv_iload_n hx hb dX5_bears_60 rfl (lv_at hl 3 rfl) ?_
            refine lv_iload_n hx hb dX5_bears_61 rfl (lv_at hl 2 rfl) ?_
            refine lv_aload_n hx hb dX5_bears_62 rfl (lv_at hl 0 rfl) ?_
            refine k_get C0 hW 5 3 0 (v := .ref (a (o + 27))) rfl (by decide) inX5 mf_X5_31 rfl rfl dX5_bears_63 ?_
            refine k_get C0 hW 1 0 27 (v := .ref (a (o + 30))) rfl (by decide) inX1 mf_X5_45 rfl rfl dX5_bears_66 ?_
            refine k_get C0 hW 4 10 30 (v := .int (wh_dry (ct_wheel (ww_cart w)))) rfl (by decide) inX4 mf_X5_155 rfl rfl dX5_bears_69 ?_
            obtain ⟨q72, hq72⟩ := ob_s hf
            replace hf := hq72.2
            replace hq72 := hq72.1
            refine cS0 (rest := []) (st1 := [.int q72]) C0 hW hl.1 (c_X5_bearing l G ((wh_kind (ct_wheel (ww_cart w))) (ix x1)) ((wh_strong (ct_wheel (ww_cart w))) (ix x1)) x3 x2 (wh_dry (ct_wheel (ww_cart w))) _ hq72) cb_X5_bearing mm_X5_159 [] rfl rfl (by decide) rfl rfl (Nat.le_of_ble_eq_true rfl) ⟨Nat.zero_le _, Nat.zero_le _⟩ dX5_bears_72 rfl (fun H locs hW => ?_)
            have e1 := Option.some.inj hf
            subst e1
            have hF : (q72 : Int32) = out := hF
            subst hF
            exact k_iret C0 hW dX5_bears_75
          · replace hf := if_f c31_5 hf
            refine lv_iconst (v := -1) hx hb dX5_bears_34 (by decide) ?_
            have e1 := Option.some.inj hf
            subst e1
            have hF : ((-1 : Int32) : Int32) = out := hF
            subst hF
            exact k_iret C0 hW dX5_bears_35

def f_X5_tellBeside (w : Ww) (x1 : Int32) : Option (Int32 × Ww) :=
  if x1 = (-9 : Int32) then (some (x1, w)) else (some (x1, (ww_set_askedLast w (as_found (ww_aside w)))))
set_option maxRecDepth 100000 in
set_option maxHeartbeats 400000 in
theorem c_X5_tellBeside (l : Launch) (G : GG) (a : Nat → Nat) (o : Nat) (w : Ww) (x1 : Int32) (out : Int32 × Ww) (hf : f_X5_tellBeside w x1 = some out) : Cn l G 0 yX5_tellBeside cX5_tellBeside 2 (some .int) [.ref (a o), .int x1] (bWw G a o w) (some (.int out.1)) (bWw G a o out.2) := by
  refine cn_start (by decide) (Nat.le_of_ble_eq_true rfl) ?_
  intro p e s m below meth c A ls C0 hW hl
  have hx := C0.1
  have hb := C0.2.1
  have hl : lv_has ls 2 [(0, .ref (a o)), (1, .int x1)] := hl
  obtain ⟨r, hr⟩ : ∃ r, f_X5_tellBeside w x1 = some r ∧ r = out := ⟨out, hf, rfl⟩
  replace hf := hr.1
  have hF := hr.2
  clear hr
  unfold f_X5_tellBeside at hf
  refine lv_iload_n hx hb dX5_tellBeside_0 rfl (lv_at hl 1 rfl) ?_
  refine lv_bipush (v := -9) hx hb dX5_tellBeside_1 (by decide) ?_
  refine lv_icmp_eq (tgt := 17) hx hb dX5_tellBeside_3 (by decide) (fun c3_1 => ?_) (fun c3_1 => ?_)
  · replace hf := if_t c3_1 hf
    refine lv_iload_n hx hb dX5_tellBeside_17 rfl (lv_at hl 1 rfl) ?_
    have e1 := Option.some.inj hf
    subst e1
    have hF : ((x1, w) : Int32 × Ww) = out := hF
    subst hF
    exact k_iret C0 hW dX5_tellBeside_18
  · replace hf := if_f c3_1 hf
    refine lv_aload_n hx hb dX5_tellBeside_6 rfl (lv_at hl 0 rfl) ?_
    refine lv_aload_n hx hb dX5_tellBeside_7 rfl (lv_at hl 0 rfl) ?_
    refine k_get C0 hW 5 5 0 (v := .ref (a (o + 63))) rfl (by decide) inX5 mf_X5_52 rfl rfl dX5_tellBeside_8 ?_
    refine k_get C0 hW 0 0 63 (v := .int (as_found (ww_aside w))) rfl (by decide) inX0 mf_X5_287 rfl rfl dX5_tellBeside_11 ?_
    refine k_put C0 hW 5 8 0 rfl (by decide) inX5 tyX5_ok nmX5 mf_X5_257 rfl rfl rfl rfl (Nat.le_of_ble_eq_true rfl) dX5_tellBeside_14 (fun H locs hW => ?_)
    have hW : Wd G A s.heap H (bWw G a o (ww_set_askedLast w (as_found (ww_aside w)))) locs := hW
    refine lv_iload_n hx hb dX5_tellBeside_17 rfl (lv_at hl 1 rfl) ?_
    have e1 := Option.some.inj hf
    subst e1
    have hF : ((x1, (ww_set_askedLast w (as_found (ww_aside w)))) : Int32 × Ww) = out := hF
    subst hF
    exact k_iret C0 hW dX5_tellBeside_18

def f_X5_change (w : Ww) : Option (Int32 × Ww) :=
  Option.bind (f_X4_isEmpty (ct_wheel (ww_cart w))) (fun q7 => if q7 = 0 then (Option.bind (f_X0_bestChange (ww_aside w) (ct_wheel (ww_cart w))) (fun q23 => Option.bind (f_X5_tellBeside (ww_set_aside w q23.2) q23.1) (fun q26 => some (q26.1, q26.2)))) else (some ((-4 : Int32), w)))
set_option maxRecDepth 100000 in
set_option maxHeartbeats 400000 in
theorem c_X5_change (l : Launch) (G : GG) (a : Nat → Nat) (o : Nat) (w : Ww) (out : Int32 × Ww) (hf : f_X5_change w = some out) : Cn l G 5 yX5_change cX5_change 1 (some .int) [.ref (a o)] (bWw G a o w) (some (.int out.1)) (bWw G a o out.2) := by
  refine cn_start (by decide) (Nat.le_of_ble_eq_true rfl) ?_
  intro p e s m below meth c A ls C0 hW hl
  have hx := C0.1
  have hb := C0.2.1
  have hl : lv_has ls 1 [(0, .ref (a o))] := hl
  obtain ⟨r, hr⟩ : ∃ r, f_X5_change w = some r ∧ r = out := ⟨out, hf, rfl⟩
  replace hf := hr.1
  have hF := hr.2
  clear hr
  unfold f_X5_change at hf
  refine lv_aload_n hx hb dX5_change_0 rfl (lv_at hl 0 rfl) ?_
  refine k_get C0 hW 5 3 0 (v := .ref (a (o + 27))) rfl (by decide) inX5 mf_X5_31 rfl rfl dX5_change_1 ?_
  refine k_get C0 hW 1 0 27 (v := .ref (a (o + 30))) rfl (by decide) inX1 mf_X5_45 rfl rfl dX5_change_4 ?_
  obtain ⟨q7, hq7⟩ := ob_s hf
  replace hf := hq7.2
  replace hq7 := hq7.1
  refine bV1 (rest := []) (bs := bsWw G a o w) (bs1 := bsWw G a o w) (st1 := [.int q7]) C0 hW hl.1 (c_X4_isEmpty l G a (o + 30) (ct_wheel (ww_cart w)) _ hq7) cb_X4_isEmpty mm_X5_163 ([16]) ([0, 1, 2, 3, 4, 5, 6, 7, 8, 9, 10, 11, 12, 13, 14, 15, 17, 18, 19, 20, 21, 22, 23, 24]) (ap_16) (ac_16) (ac_16) rfl rfl rfl 0 4 rfl rfl rfl (by decide) rfl rfl (Nat.le_of_ble_eq_true rfl) ⟨Nat.zero_le _, Nat.zero_le _⟩ dX5_change_7 rfl (fun H locs hW => ?_)
  refine lv_if_eq (tgt := 18) hx hb dX5_change_10 (by decide) (fun c10_1 => ?_) (fun c10_1 => ?_)
  · replace hf := if_t c10_1 hf
    refine lv_aload_n hx hb dX5_change_18 rfl (lv_at hl 0 rfl) ?_
    refine lv_aload_n hx hb dX5_change_19 rfl (lv_at hl 0 rfl) ?_
    refine k_get C0 hW 5 5 0 (v := .ref (a (o + 63))) rfl (by decide) inX5 mf_X5_52 rfl rfl dX5_change_20 ?_
    obtain ⟨q23, hq23⟩ := ob_s hf
    replace hf := hq23.2
    replace hq23 := hq23.1
    refine bV1 (rest := [.ref (a o)]) (bs := bsWw G a o w) (bs1 := bsWw G a o (ww_set_aside w q23.2)) (st1 := [.int q23.1, .ref (a o)]) C0 hW hl.1 (c_X0_bestChange l G a (o + 63) a (o + 30) (ww_aside w) (ct_wheel (ww_cart w)) _ hq23) cb_X0_bestChange mm_X5_206 ([23, 24, 16]) ([0, 1, 2, 3, 4, 5, 6, 7, 8, 9, 10, 11, 12, 13, 14, 15, 17, 18, 19, 20, 21, 22]) (ap_23_24_16) (ac_23_24_16) (ad_23_24_16_w) (ar_23_24_16_w) rfl (as_23_24_16_w) 0 0 rfl rfl rfl (by decide) rfl rfl (Nat.le_of_ble_eq_true rfl) ⟨Nat.zero_le _, Nat.zero_le _⟩ dX5_change_23 rfl (fun H locs hW => ?_)
    obtain ⟨q26, hq26⟩ := ob_s hf
    replace hf := hq26.2
    replace hq26 := hq26.1
    refine cW1 (rest := []) (ws1 := (bWw G a o q26.2)) (st1 := [.int q26.1]) C0 hW hl.1 (c_X5_tellBeside l G a o (ww_set_aside w q23.2) q23.1 _ hq26) cb_X5_tellBeside mm_X5_186 fst_Ww 0 5 rfl rfl rfl (by decide) rfl rfl (Nat.le_of_ble_eq_true rfl) ⟨Nat.zero_le _, Nat.zero_le _⟩ dX5_change_26 rfl (fun H locs hW => ?_)
    have e1 := Option.some.inj hf
    subst e1
    have hF : ((q26.1, q26.2) : Int32 × Ww) = out := hF
    subst hF
    exact k_iret C0 hW dX5_change_29
  · replace hf := if_f c10_1 hf
    refine lv_bipush (v := -4) hx hb dX5_change_13 (by decide) ?_
    refine lv_goto (tgt := 29) hx hb dX5_change_15 (by decide) ?_
    have e1 := Option.some.inj hf
    subst e1
    have hF : (((-4 : Int32), w) : Int32 × Ww) = out := hF
    subst hF
    exact k_iret C0 hW dX5_change_29

def f_X5_copy_J57 (w : Ww) : Option (Int32 × Ww) :=
  Option.bind (f_X5_refuse w (1 : Int32)) (fun q59 => some (q59.1, q59.2))
def f_X5_copy_J92 (w : Ww) : Option (Int32 × Ww) :=
  Option.bind (f_X5_refuse w (2 : Int32)) (fun q94 => some (q94.1, q94.2))
def f_X5_copy (w : Ww) (x1 : Int32) (x2 : Int32) (x3 : Int32) (x4 : Int32) (x5 : Int32) : Option (Int32 × Ww) :=
  Option.bind (f_X3_isNumber 6 40 (ww_rows w) x1) (fun q5 => if q5 = 0 then (some ((-1 : Int32), w)) else (Option.bind (f_X3_isNumber 6 40 (ww_rows w) x3) (fun q16 => if q16 = 0 then (some ((-1 : Int32), w)) else (if 0 ≤ x5 then (Option.bind (f_X3_isMissing 6 40 (ww_rows w) x1) (fun q40 => if q40 = 0 then (Option.bind (f_X3_isMissing 6 40 (ww_rows w) x3) (fun q51 => if q51 = 0 then (Option.bind (f_X3_hasPart 6 40 (ww_rows w) x1 x2 x5) (fun q71 => if q71 = 0 then (f_X5_copy_J92 w) else (Option.bind (f_X3_hasPart 6 40 (ww_rows w) x3 x4 x5) (fun q86 => if q86 = 0 then (f_X5_copy_J92 w) else (Option.bind (f_X3_move 6 40 (ww_rows w) x1 x2 x3 x4 x5) (fun q109 => some ((1 : Int32), (ww_set_rows w q109)))))))) else (f_X5_copy_J57 w))) else (f_X5_copy_J57 w))) else (Option.bind (f_X5_refuse w (5 : Int32)) (fun q31 => some (q31.1, q31.2)))))))
set_option maxRecDepth 100000 in
set_option maxHeartbeats 400000 in
theorem c_X5_copy (l : Launch) (G : GG) (a : Nat → Nat) (o : Nat) (w : Ww) (x1 : Int32) (x2 : Int32) (x3 : Int32) (x4 : Int32) (x5 : Int32) (out : Int32 × Ww) (hf : f_X5_copy w x1 x2 x3 x4 x5 = some out) : Cn l G 2 yX5_copy cX5_copy 6 (some .int) [.ref (a o), .int x1, .int x2, .int x3, .int x4, .int x5] (bWw G a o w) (some (.int out.1)) (bWw G a o out.2) := by
  refine cn_start (by decide) (Nat.le_of_ble_eq_true rfl) ?_
  intro p e s m below meth c A ls C0 hW hl
  have hx := C0.1
  have hb := C0.2.1
  have hl : lv_has ls 6 [(0, .ref (a o)), (1, .int x1), (2, .int x2), (3, .int x3), (4, .int x4), (5, .int x5)] := hl
  have J57 : ∀ (w : Ww) (r : Int32 × Ww), f_X5_copy_J57 w = some r → (fun (r : Int32 × Ww) => r = out) r → ∀ (H : Heap) (locs : List Loc) (ls : Array Slot), Wd G A s.heap H (bWw G a o w) locs → lv_has ls 6 [(0, .ref (a o))] → WW p l e 2 s m [.ref (a o), .int x1, .int x2, .int x3, .int x4, .int x5] below meth c G A (some (.int out.1)) ((bWw G a o out.2)) H locs 57 ls [] := by
    intro w r hf hF H locs ls hW hl
    unfold f_X5_copy_J57 at hf
    refine lv_aload_n hx hb dX5_copy_57 rfl (lv_at hl 0 rfl) ?_
    refine lv_iconst (v := 1) hx hb dX5_copy_58 (by decide) ?_
    obtain ⟨q59, hq59⟩ := ob_s hf
    replace hf := hq59.2
    replace hq59 := hq59.1
    refine cW1 (rest := []) (ws1 := (bWw G a o q59.2)) (st1 := [.int q59.1]) C0 hW hl.1 (c_X5_refuse l G a o w (1 : Int32) _ hq59) cb_X5_refuse mm_X5_96 fst_Ww 0 5 rfl rfl rfl (by decide) rfl rfl (Nat.le_of_ble_eq_true rfl) ⟨Nat.zero_le _, Nat.zero_le _⟩ dX5_copy_59 rfl (fun H locs hW => ?_)
    have e1 := Option.some.inj hf
    subst e1
    have hF : ((q59.1, q59.2) : Int32 × Ww) = out := hF
    subst hF
    exact k_iret C0 hW dX5_copy_62
  have J92 : ∀ (w : Ww) (r : Int32 × Ww), f_X5_copy_J92 w = some r → (fun (r : Int32 × Ww) => r = out) r → ∀ (H : Heap) (locs : List Loc) (ls : Array Slot), Wd G A s.heap H (bWw G a o w) locs → lv_has ls 6 [(0, .ref (a o))] → WW p l e 2 s m [.ref (a o), .int x1, .int x2, .int x3, .int x4, .int x5] below meth c G A (some (.int out.1)) ((bWw G a o out.2)) H locs 92 ls [] := by
    intro w r hf hF H locs ls hW hl
    unfold f_X5_copy_J92 at hf
    refine lv_aload_n hx hb dX5_copy_92 rfl (lv_at hl 0 rfl) ?_
    refine lv_iconst (v := 2) hx hb dX5_copy_93 (by decide) ?_
    obtain ⟨q94, hq94⟩ := ob_s hf
    replace hf := hq94.2
    replace hq94 := hq94.1
    refine cW1 (rest := []) (ws1 := (bWw G a o q94.2)) (st1 := [.int q94.1]) C0 hW hl.1 (c_X5_refuse l G a o w (2 : Int32) _ hq94) cb_X5_refuse mm_X5_96 fst_Ww 0 5 rfl rfl rfl (by decide) rfl rfl (Nat.le_of_ble_eq_true rfl) ⟨Nat.zero_le _, Nat.zero_le _⟩ dX5_copy_94 rfl (fun H locs hW => ?_)
    have e1 := Option.some.inj hf
    subst e1
    have hF : ((q94.1, q94.2) : Int32 × Ww) = out := hF
    subst hF
    exact k_iret C0 hW dX5_copy_97
  obtain ⟨r, hr⟩ : ∃ r, f_X5_copy w x1 x2 x3 x4 x5 = some r ∧ r = out := ⟨out, hf, rfl⟩
  replace hf := hr.1
  have hF := hr.2
  clear hr
  unfold f_X5_copy at hf
  refine lv_aload_n hx hb dX5_copy_0 rfl (lv_at hl 0 rfl) ?_
  refine k_get C0 hW 5 0 0 (v := .ref (a (o + 3))) rfl (by decide) inX5 mf_X5_14 rfl rfl dX5_copy_1 ?_
  refine lv_iload_n hx hb dX5_copy_4 rfl (lv_at hl 1 rfl) ?_
  obtain ⟨q5, hq5⟩ := ob_s hf
  replace hf := hq5.2
  replace hq5 := hq5.1
  refine bV1 (rest := []) (bs := bsWw G a o w) (bs1 := bsWw G a o w) (st1 := [.int q5]) C0 hW hl.1 (c_X3_isNumber l G a (o + 3) 6 40 (ww_rows w) x1 _ hq5) cb_X3_isNumber mm_X5_92 ([1, 2, 3, 4, 5, 6, 7]) ([0, 8, 9, 10, 11, 12, 13, 14, 15, 16, 17, 18, 19, 20, 21, 22, 23, 24]) (ap_1_2_3_4_5_6_7) (ac_1_2_3_4_5_6_7) (ac_1_2_3_4_5_6_7) rfl rfl rfl 0 3 rfl rfl rfl (by decide) rfl rfl (Nat.le_of_ble_eq_true rfl) ⟨Nat.zero_le _, Nat.zero_le _⟩ dX5_copy_5 rfl (fun H locs hW => ?_)
  refine lv_if_eq (tgt := 22) hx hb dX5_copy_8 (by decide) (fun c8_1 => ?_) (fun c8_1 => ?_)
  · replace hf := if_t c8_1 hf
    refine lv_iconst (v := -1) hx hb dX5_copy_22 (by decide) ?_
    have e1 := Option.some.inj hf
    subst e1
    have hF : (((-1 : Int32), w) : Int32 × Ww) = out := hF
    subst hF
    exact k_iret C0 hW dX5_copy_23
  · replace hf := if_f c8_1 hf
    refine lv_aload_n hx hb dX5_copy_11 rfl (lv_at hl 0 rfl) ?_
    refine k_get C0 hW 5 0 0 (v := .ref (a (o + 3))) rfl (by decide) inX5 mf_X5_14 rfl rfl dX5_copy_12 ?_
    refine lv_iload_n hx hb dX5_copy_15 rfl (lv_at hl 3 rfl) ?_
    obtain ⟨q16, hq16⟩ := ob_s hf
    replace hf := hq16.2
    replace hq16 := hq16.1
    refine bV1 (rest := []) (bs := bsWw G a o w) (bs1 := bsWw G a o w) (st1 := [.int q16]) C0 hW hl.1 (c_X3_isNumber l G a (o + 3) 6 40 (ww_rows w) x3 _ hq16) cb_X3_isNumber mm_X5_92 ([1, 2, 3, 4, 5, 6, 7]) ([0, 8, 9, 10, 11, 12, 13, 14, 15, 16, 17, 18, 19, 20, 21, 22, 23, 24]) (ap_1_2_3_4_5_6_7) (ac_1_2_3_4_5_6_7) (ac_1_2_3_4_5_6_7) rfl rfl rfl 0 3 rfl rfl rfl (by decide) rfl rfl (Nat.le_of_ble_eq_true rfl) ⟨Nat.zero_le _, Nat.zero_le _⟩ dX5_copy_16 rfl (fun H locs hW => ?_)
    refine lv_if_ne (tgt := 24) hx hb dX5_copy_19 (by decide) (fun c19_2 => ?_) (fun c19_2 => ?_)
    · replace hf := if_f c19_2 hf
      refine lv_iload hx hb dX5_copy_24 (lv_at hl 5 rfl) ?_
      refine lv_if_ge (tgt := 35) hx hb dX5_copy_26 (by decide) (fun c26_3 => ?_) (fun c26_3 => ?_)
      · replace hf := if_t c26_3 hf
        refine lv_aload_n hx hb dX5_copy_35 rfl (lv_at hl 0 rfl) ?_
        refine k_get C0 hW 5 0 0 (v := .ref (a (o + 3))) rfl (by decide) inX5 mf_X5_14 rfl rfl dX5_copy_36 ?_
        refine lv_iload_n hx hb dX5_copy_39 rfl (lv_at hl 1 rfl) ?_
        obtain ⟨q40, hq40⟩ := ob_s hf
        replace hf := hq40.2
        replace hq40 := hq40.1
        refine bV1 (rest := []) (bs := bsWw G a o w) (bs1 := bsWw G a o w) (st1 := [.int q40]) C0 hW hl.1 (c_X3_isMissing l G a (o + 3) 6 40 (ww_rows w) x1 _ hq40) cb_X3_isMissing mm_X5_99 ([1, 2, 3, 4, 5, 6, 7]) ([0, 8, 9, 10, 11, 12, 13, 14, 15, 16, 17, 18, 19, 20, 21, 22, 23, 24]) (ap_1_2_3_4_5_6_7) (ac_1_2_3_4_5_6_7) (ac_1_2_3_4_5_6_7) rfl rfl rfl 0 3 rfl rfl rfl (by decide) rfl rfl (Nat.le_of_ble_eq_true rfl) ⟨Nat.zero_le _, Nat.zero_le _⟩ dX5_copy_40 rfl (fun H locs hW => ?_)
        refine lv_if_ne (tgt := 57) hx hb dX5_copy_43 (by decide) (fun c43_4 => ?_) (fun c43_4 => ?_)
        · replace hf := if_f c43_4 hf
          exact J57 _ _ hf hF _ _ _ hW (lv_sub hl [0] rfl)
        · replace hf := if_t c43_4 hf
          refine lv_aload_n hx hb dX5_copy_46 rfl (lv_at hl 0 rfl) ?_
          refine k_get C0 hW 5 0 0 (v := .ref (a (o + 3))) rfl (by decide) inX5 mf_X5_14 rfl rfl dX5_copy_47 ?_
          refine lv_iload_n hx hb dX5_copy_50 rfl (lv_at hl 3 rfl) ?_
          obtain ⟨q51, hq51⟩ := ob_s hf
          replace hf := hq51.2
          replace hq51 := hq51.1
          refine bV1 (rest := []) (bs := bsWw G a o w) (bs1 := bsWw G a o w) (st1 := [.int q51]) C0 hW hl.1 (c_X3_isMissing l G a (o + 3) 6 40 (ww_rows w) x3 _ hq51) cb_X3_isMissing mm_X5_99 ([1, 2, 3, 4, 5, 6, 7]) ([0, 8, 9, 10, 11, 12, 13, 14, 15, 16, 17, 18, 19, 20, 21, 22, 23, 24]) (ap_1_2_3_4_5_6_7) (ac_1_2_3_4_5_6_7) (ac_1_2_3_4_5_6_7) rfl rfl rfl 0 3 rfl rfl rfl (by decide) rfl rfl (Nat.le_of_ble_eq_true rfl) ⟨Nat.zero_le _, Nat.zero_le _⟩ dX5_copy_51 rfl (fun H locs hW => ?_)
          refine lv_if_eq (tgt := 63) hx hb dX5_copy_54 (by decide) (fun c54_5 => ?_) (fun c54_5 => ?_)
          · replace hf := if_t c54_5 hf
            refine lv_aload_n hx hb dX5_copy_63 rfl (lv_at hl 0 rfl) ?_
            refine k_get C0 hW 5 0 0 (v := .ref (a (o + 3))) rfl (by decide) inX5 mf_X5_14 rfl rfl dX5_copy_64 ?_
            refine lv_iload_n hx hb dX5_copy_67 rfl (lv_at hl 1 rfl) ?_
            refine lv_iload_n hx hb dX5_copy_68 rfl (lv_at hl 2 rfl) ?_
            refine lv_iload hx hb dX5_copy_69 (lv_at hl 5 rfl) ?_
            obtain ⟨q71, hq71⟩ := ob_s hf
            replace hf := hq71.2
            replace hq71 := hq71.1
            refine bV1 (rest := []) (bs := bsWw G a o w) (bs1 := bsWw G a o w) (st1 := [.int q71]) C0 hW hl.1 (c_X3_hasPart l G a (o + 3) 6 40 (ww_rows w) x1 x2 x5 _ hq71) cb_X3_hasPart mm_X5_102 ([1, 2, 3, 4, 5, 6, 7]) ([0, 8, 9, 10, 11, 12, 13, 14, 15, 16, 17, 18, 19, 20, 21, 22, 23, 24]) (ap_1_2_3_4_5_6_7) (ac_1_2_3_4_5_6_7) (ac_1_2_3_4_5_6_7) rfl rfl rfl 0 3 rfl rfl rfl (by decide) rfl rfl (Nat.le_of_ble_eq_true rfl) ⟨Nat.zero_le _, Nat.zero_le _⟩ dX5_copy_71 rfl (fun H locs hW => ?_)
            refine lv_if_eq (tgt := 92) hx hb dX5_copy_74 (by decide) (fun c74_6 => ?_) (fun c74_6 => ?_)
            · replace hf := if_t c74_6 hf
              exact J92 _ _ hf hF _ _ _ hW (lv_sub hl [0] rfl)
            · replace hf := if_f c74_6 hf
              refine lv_aload_n hx hb dX5_copy_77 rfl (lv_at hl 0 rfl) ?_
              refine k_get C0 hW 5 0 0 (v := .ref (a (o + 3))) rfl (by decide) inX5 mf_X5_14 rfl rfl dX5_copy_78 ?_
              refine lv_iload_n hx hb dX5_copy_81 rfl (lv_at hl 3 rfl) ?_
              refine lv_iload hx hb dX5_copy_82 (lv_at hl 4 rfl) ?_
              refine lv_iload hx hb dX5_copy_84 (lv_at hl 5 rfl) ?_
              obtain ⟨q86, hq86⟩ := ob_s hf
              replace hf := hq86.2
              replace hq86 := hq86.1
              refine bV1 (rest := []) (bs := bsWw G a o w) (bs1 := bsWw G a o w) (st1 := [.int q86]) C0 hW hl.1 (c_X3_hasPart l G a (o + 3) 6 40 (ww_rows w) x3 x4 x5 _ hq86) cb_X3_hasPart mm_X5_102 ([1, 2, 3, 4, 5, 6, 7]) ([0, 8, 9, 10, 11, 12, 13, 14, 15, 16, 17, 18, 19, 20, 21, 22, 23, 24]) (ap_1_2_3_4_5_6_7) (ac_1_2_3_4_5_6_7) (ac_1_2_3_4_5_6_7) rfl rfl rfl 0 3 rfl rfl rfl (by decide) rfl rfl (Nat.le_of_ble_eq_true rfl) ⟨Nat.zero_le _, Nat.zero_le _⟩ dX5_copy_86 rfl (fun H locs hW => ?_)
              refine lv_if_ne (tgt := 98) hx hb dX5_copy_89 (by decide) (fun c89_7 => ?_) (fun c89_7 => ?_)
              · replace hf := if_f c89_7 hf
                refine lv_aload_n hx hb dX5_copy_98 rfl (lv_at hl 0 rfl) ?_
                refine k_get C0 hW 5 0 0 (v := .ref (a (o + 3))) rfl (by decide) inX5 mf_X5_14 rfl rfl dX5_copy_99 ?_
                refine lv_iload_n hx hb dX5_copy_102 rfl (lv_at hl 1 rfl) ?_
                refine lv_iload_n hx hb dX5_copy_103 rfl (lv_at hl 2 rfl) ?_
                refine lv_iload_n hx hb dX5_copy_104 rfl (lv_at hl 3 rfl) ?_
                refine lv_iload hx hb dX5_copy_105 (lv_at hl 4 rfl) ?_
                refine lv_iload hx hb dX5_copy_107 (lv_at hl 5 rfl) ?_
                obtain ⟨q109, hq109⟩ := ob_s hf
                replace hf := hq109.2
                replace hq109 := hq109.1
                refine bV1 (rest := []) (bs := bsWw G a o w) (bs1 := bsWw G a o (ww_set_rows w q109)) (st1 := []) C0 hW hl.1 (c_X3_move l G a (o + 3) 6 40 (ww_rows w) x1 x2 x3 x4 x5 _ hq109) cb_X3_move mm_X5_106 ([1, 2, 3, 4, 5, 6, 7]) ([0, 8, 9, 10, 11, 12, 13, 14, 15, 16, 17, 18, 19, 20, 21, 22, 23, 24]) (ap_1_2_3_4_5_6_7) (ac_1_2_3_4_5_6_7) (ad_1_2_3_4_5_6_7_w) (ar_1_2_3_4_5_6_7_w) rfl (as_1_2_3_4_5_6_7_w) 0 3 rfl rfl rfl (by decide) rfl rfl (Nat.le_of_ble_eq_true rfl) ⟨Nat.zero_le _, Nat.zero_le _⟩ dX5_copy_109 rfl (fun H locs hW => ?_)
                refine lv_iconst (v := 1) hx hb dX5_copy_112 (by decide) ?_
                have e1 := Option.some.inj hf
                subst e1
                have hF : (((1 : Int32), (ww_set_rows w q109)) : Int32 × Ww) = out := hF
                subst hF
                exact k_iret C0 hW dX5_copy_113
              · replace hf := if_t c89_7 hf
                exact J92 _ _ hf hF _ _ _ hW (lv_sub hl [0] rfl)
          · replace hf := if_f c54_5 hf
            exact J57 _ _ hf hF _ _ _ hW (lv_sub hl [0] rfl)
      · replace hf := if_f c26_3 hf
        refine lv_aload_n hx hb dX5_copy_29 rfl (lv_at hl 0 rfl) ?_
        refine lv_iconst (v := 5) hx hb dX5_copy_30 (by decide) ?_
        obtain ⟨q31, hq31⟩ := ob_s hf
        replace hf := hq31.2
        replace hq31 := hq31.1
        refine cW1 (rest := []) (ws1 := (bWw G a o q31.2)) (st1 := [.int q31.1]) C0 hW hl.1 (c_X5_refuse l G a o w (5 : Int32) _ hq31) cb_X5_refuse mm_X5_96 fst_Ww 0 5 rfl rfl rfl (by decide) rfl rfl (Nat.le_of_ble_eq_true rfl) ⟨Nat.zero_le _, Nat.zero_le _⟩ dX5_copy_31 rfl (fun H locs hW => ?_)
        have e1 := Option.some.inj hf
        subst e1
        have hF : ((q31.1, q31.2) : Int32 × Ww) = out := hF
        subst hF
        exact k_iret C0 hW dX5_copy_34
    · replace hf := if_t c19_2 hf
      refine lv_iconst (v := -1) hx hb dX5_copy_22 (by decide) ?_
      have e1 := Option.some.inj hf
      subst e1
      have hF : (((-1 : Int32), w) : Int32 × Ww) = out := hF
      subst hF
      exact k_iret C0 hW dX5_copy_23

def f_X5_keptOnes_J25 (w : Ww) (x1 : Int32) (x2 : Int32) : Option ((Int32 × Int32) ⊕ (Int32)) :=
  some (Sum.inl (x1, (x2 + (1 : Int32))))
def f_X5_keptOnes_B4 (w : Ww) (x1 : Int32) (x2 : Int32) : Option ((Int32 × Int32) ⊕ (Int32)) :=
  if (3 : Int32) ≤ x2 then (Option.map Sum.inr (some x1)) else (if x2 = 0 then (if (ct_done (ww_kept w 0)) = (-1 : Int32) then (f_X5_keptOnes_J25 w x1 x2) else (f_X5_keptOnes_J25 w (x1 + (1 : Int32)) x2)) else if x2 = 1 then (if (ct_done (ww_kept w 1)) = (-1 : Int32) then (f_X5_keptOnes_J25 w x1 x2) else (f_X5_keptOnes_J25 w (x1 + (1 : Int32)) x2)) else if x2 = 2 then (if (ct_done (ww_kept w 2)) = (-1 : Int32) then (f_X5_keptOnes_J25 w x1 x2) else (f_X5_keptOnes_J25 w (x1 + (1 : Int32)) x2)) else none)
def f_X5_keptOnes_L4 (w : Ww) (sg : Int32 × Int32) : Option ((Int32 × Int32) ⊕ (Int32)) := f_X5_keptOnes_B4 w sg.1 sg.2
def f_X5_keptOnes (w : Ww) : Option (Int32) :=
  lp (f_X5_keptOnes_L4 w) fuel ((0 : Int32), (0 : Int32))
set_option maxRecDepth 100000 in
set_option maxHeartbeats 400000 in
theorem c_X5_keptOnes (l : Launch) (G : GG) (a : Nat → Nat) (o : Nat) (w : Ww) (out : Int32) (hf : f_X5_keptOnes w = some out) : Cn l G 0 yX5_keptOnes cX5_keptOnes 3 (some .int) [.ref (a o)] (bWw G a o w) (some (.int out)) (bWw G a o w) := by
  refine cn_start (by decide) (Nat.le_of_ble_eq_true rfl) ?_
  intro p e s m below meth c A ls C0 hW hl
  have hx := C0.1
  have hb := C0.2.1
  have hl : lv_has ls 3 [(0, .ref (a o))] := hl
  have L4 : ∀ (k8 : Nat) (sg : Int32 × Int32) (o9 : Int32), lp (f_X5_keptOnes_L4 w) k8 sg = some o9 → (fun (r : Int32) => r = out) o9 → (fun (sg : Int32 × Int32) => ∀ (H : Heap) (locs : List Loc) (ls : Array Slot), Wd G A s.heap H (bWw G a o w) locs → lv_has ls 3 [(0, .ref (a o)), (1, .int sg.1), (2, .int sg.2)] → WW p l e 0 s m [.ref (a o)] below meth c G A (some (.int out)) ((bWw G a o w)) H locs 4 ls []) sg := by
    have J25 : ∀ (x1 : Int32) (x2 : Int32) (r : (Int32 × Int32) ⊕ (Int32)), f_X5_keptOnes_J25 w x1 x2 = some r → (Sum.elim (fun (sg : Int32 × Int32) => ∀ (H : Heap) (locs : List Loc) (ls : Array Slot), Wd G A s.heap H (bWw G a o w) locs → lv_has ls 3 [(0, .ref (a o)), (1, .int sg.1), (2, .int sg.2)] → WW p l e 0 s m [.ref (a o)] below meth c G A (some (.int out)) ((bWw G a o w)) H locs 4 ls []) (fun (r : Int32) => r = out)) r → ∀ (H : Heap) (locs : List Loc) (ls : Array Slot), Wd G A s.heap H (bWw G a o w) locs → lv_has ls 3 [(0, .ref (a o)), (1, .int x1), (2, .int x2)] → WW p l e 0 s m [.ref (a o)] below meth c G A (some (.int out)) ((bWw G a o w)) H locs 25 ls [] := by
      intro x1 x2 r hf hF H locs ls hW hl
      unfold f_X5_keptOnes_J25 at hf
      refine lv_iinc (v := (x2 + (1 : Int32))) (lv' := [(2, .int (x2 + (1 : Int32))), (0, .ref (a o)), (1, .int x1)]) hx hb dX5_keptOnes_25 hl (k := 2) rfl rfl (by decide) rfl (fun ls hl => ?_)
      refine lv_goto (tgt := 4) hx hb dX5_keptOnes_28 (by decide) ?_
      have e1 := Option.some.inj hf
      subst e1
      exact (elim_l hF) _ _ _ hW (lv_sub hl [1, 2, 0] rfl)
    have B4 : ∀ (x1 : Int32) (x2 : Int32) (r : (Int32 × Int32) ⊕ (Int32)), f_X5_keptOnes_B4 w x1 x2 = some r → (Sum.elim (fun (sg : Int32 × Int32) => ∀ (H : Heap) (locs : List Loc) (ls : Array Slot), Wd G A s.heap H (bWw G a o w) locs → lv_has ls 3 [(0, .ref (a o)), (1, .int sg.1), (2, .int sg.2)] → WW p l e 0 s m [.ref (a o)] below meth c G A (some (.int out)) ((bWw G a o w)) H locs 4 ls []) (fun (r : Int32) => r = out)) r → ∀ (H : Heap) (locs : List Loc) (ls : Array Slot), Wd G A s.heap H (bWw G a o w) locs → lv_has ls 3 [(0, .ref (a o)), (1, .int x1), (2, .int x2)] → WW p l e 0 s m [.ref (a o)] below meth c G A (some (.int out)) ((bWw G a o w)) H locs 4 ls [] := by
      intro x1 x2 r hf hF H locs ls hW hl
      unfold f_X5_keptOnes_B4 at hf
      refine lv_iload_n hx hb dX5_keptOnes_4 rfl (lv_at hl 2 rfl) ?_
      refine lv_iconst (v := 3) hx hb dX5_keptOnes_5 (by decide) ?_
      refine lv_icmp_ge (tgt := 31) hx hb dX5_keptOnes_6 (by decide) (fun c6_1 => ?_) (fun c6_1 => ?_)
      · replace hf := if_t c6_1 hf
        obtain ⟨r2, e2⟩ := om_s hf
        replace hf := e2.1
        replace e2 := e2.2
        subst e2
        replace hF := elim_r hF
        refine lv_iload_n hx hb dX5_keptOnes_31 rfl (lv_at hl 1 rfl) ?_
        have e1 := Option.some.inj hf
        subst e1
        have hF : (x1 : Int32) = out := hF
        subst hF
        exact k_iret C0 hW dX5_keptOnes_32
      · replace hf := if_f c6_1 hf
        refine lv_aload_n hx hb dX5_keptOnes_9 rfl (lv_at hl 0 rfl) ?_
        refine k_get C0 hW 5 4 0 (v := .ref (a (o + 2))) rfl (by decide) inX5 mf_X5_35 rfl rfl dX5_keptOnes_10 ?_
        refine lv_iload_n hx hb dX5_keptOnes_13 rfl (lv_at hl 2 rfl) ?_
        by_cases hk9 : x2 = 0
        · replace hf := if_t hk9 hf
          refine k_aaldC C0 hW 2 (b := a (o + 36)) rfl (by rw [hk9]; exact inb_in rfl) (by rw [hk9]; rfl) dX5_keptOnes_14 ?_
          refine k_get C0 hW 1 3 36 (v := .int (ct_done (ww_kept w 0))) rfl (by decide) inX1 mf_X5_39 rfl rfl dX5_keptOnes_15 ?_
          refine lv_iconst (v := -1) hx hb dX5_keptOnes_18 (by decide) ?_
          refine lv_icmp_eq (tgt := 25) hx hb dX5_keptOnes_19 (by decide) (fun c19_2 => ?_) (fun c19_2 => ?_)
          · replace hf := if_t c19_2 hf
            exact J25 _ _ _ hf hF _ _ _ hW (lv_sub hl [0, 1, 2] rfl)
          · replace hf := if_f c19_2 hf
            refine lv_iinc (v := (x1 + (1 : Int32))) (lv' := [(1, .int (x1 + (1 : Int32))), (0, .ref (a o)), (2, .int x2)]) hx hb dX5_keptOnes_22 hl (k := 1) rfl rfl (by decide) rfl (fun ls hl => ?_)
            exact J25 _ _ _ hf hF _ _ _ hW (lv_sub hl [1, 0, 2] rfl)
        replace hf := if_f hk9 hf
        by_cases hk9 : x2 = 1
        · replace hf := if_t hk9 hf
          refine k_aaldC C0 hW 2 (b := a (o + 45)) rfl (by rw [hk9]; exact inb_in rfl) (by rw [hk9]; rfl) dX5_keptOnes_14 ?_
          refine k_get C0 hW 1 3 45 (v := .int (ct_done (ww_kept w 1))) rfl (by decide) inX1 mf_X5_39 rfl rfl dX5_keptOnes_15 ?_
          refine lv_iconst (v := -1) hx hb dX5_keptOnes_18 (by decide) ?_
          refine lv_icmp_eq (tgt := 25) hx hb dX5_keptOnes_19 (by decide) (fun c19_3 => ?_) (fun c19_3 => ?_)
          · replace hf := if_t c19_3 hf
            exact J25 _ _ _ hf hF _ _ _ hW (lv_sub hl [0, 1, 2] rfl)
          · replace hf := if_f c19_3 hf
            refine lv_iinc (v := (x1 + (1 : Int32))) (lv' := [(1, .int (x1 + (1 : Int32))), (0, .ref (a o)), (2, .int x2)]) hx hb dX5_keptOnes_22 hl (k := 1) rfl rfl (by decide) rfl (fun ls hl => ?_)
            exact J25 _ _ _ hf hF _ _ _ hW (lv_sub hl [1, 0, 2] rfl)
        replace hf := if_f hk9 hf
        by_cases hk9 : x2 = 2
        · replace hf := if_t hk9 hf
          refine k_aaldC C0 hW 2 (b := a (o + 54)) rfl (by rw [hk9]; exact inb_in rfl) (by rw [hk9]; rfl) dX5_keptOnes_14 ?_
          refine k_get C0 hW 1 3 54 (v := .int (ct_done (ww_kept w 2))) rfl (by decide) inX1 mf_X5_39 rfl rfl dX5_keptOnes_15 ?_
          refine lv_iconst (v := -1) hx hb dX5_keptOnes_18 (by decide) ?_
          refine lv_icmp_eq (tgt := 25) hx hb dX5_keptOnes_19 (by decide) (fun c19_4 => ?_) (fun c19_4 => ?_)
          · replace hf := if_t c19_4 hf
            exact J25 _ _ _ hf hF _ _ _ hW (lv_sub hl [0, 1, 2] rfl)
          · replace hf := if_f c19_4 hf
            refine lv_iinc (v := (x1 + (1 : Int32))) (lv' := [(1, .int (x1 + (1 : Int32))), (0, .ref (a o)), (2, .int x2)]) hx hb dX5_keptOnes_22 hl (k := 1) rfl rfl (by decide) rfl (fun ls hl => ?_)
            exact J25 _ _ _ hf hF _ _ _ hW (lv_sub hl [1, 0, 2] rfl)
        replace hf := if_f hk9 hf
        cases hf
    exact lp_sound (fun sg r hb hz => B4 sg.1 sg.2 r hb hz)
  obtain ⟨r, hr⟩ : ∃ r, f_X5_keptOnes w = some r ∧ r = out := ⟨out, hf, rfl⟩
  replace hf := hr.1
  have hF := hr.2
  clear hr
  unfold f_X5_keptOnes at hf
  refine lv_iconst (v := 0) hx hb dX5_keptOnes_0 (by decide) ?_
  refine lv_istore_n (lv' := [(1, .int (0 : Int32)), (0, .ref (a o))]) hx hb dX5_keptOnes_1 rfl hl (by decide) rfl (fun ls hl => ?_)
  refine lv_iconst (v := 0) hx hb dX5_keptOnes_2 (by decide) ?_
  refine lv_istore_n (lv' := [(2, .int (0 : Int32)), (1, .int (0 : Int32)), (0, .ref (a o))]) hx hb dX5_keptOnes_3 rfl hl (by decide) rfl (fun ls hl => ?_)
  exact L4  fuel ((0 : Int32), (0 : Int32)) _ hf hF _ _ _ hW (lv_sub hl [2, 1, 0] rfl)

def f_X5_counted (w : Ww) (x1 : Int32) : Option (Int32) :=
  if x1 = 0 then (some (wh_spokes (ct_wheel (ww_cart w)))) else if x1 = 1 then (some (wh_rut (ct_wheel (ww_cart w)))) else if x1 = 2 then (some (ct_done (ww_cart w))) else if x1 = 3 then (some (wh_stand (ct_wheel (ww_cart w)))) else if x1 = 4 then (some (wh_there (ct_wheel (ww_cart w)))) else if x1 = 5 then (if (wh_dry (ct_wheel (ww_cart w))) = 0 then (some (0 : Int32)) else (some (1 : Int32))) else if x1 = 6 then (Option.bind (f_X4_isOver (ct_wheel (ww_cart w))) (fun q114 => if q114 = 0 then (some (0 : Int32)) else (some (1 : Int32)))) else if x1 = 7 then (some (wh_gateRut (ct_wheel (ww_cart w)))) else if x1 = 8 then (Option.bind (f_X3_howMany 6 40 (ww_rows w)) (fun q135 => some q135)) else if x1 = 9 then (Option.bind (f_X3_howMany 4 60 (ww_texts w)) (fun q143 => some q143)) else if x1 = 10 then (Option.bind (f_X5_keptOnes w) (fun q148 => some q148)) else if x1 = 11 then (Option.bind (f_X4_lengthThere (ct_wheel (ww_cart w))) (fun q153 => some q153)) else Option.bind (f_X4_ironOnes (ct_wheel (ww_cart w))) (fun q158 => some q158)
set_option maxRecDepth 100000 in
set_option maxHeartbeats 400000 in
theorem c_X5_counted (l : Launch) (G : GG) (a : Nat → Nat) (o : Nat) (w : Ww) (x1 : Int32) (out : Int32) (hf : f_X5_counted w x1 = some out) : Cn l G 2 yX5_counted cX5_counted 3 (some .int) [.ref (a o), .int x1] (bWw G a o w) (some (.int out)) (bWw G a o w) := by
  refine cn_start (by decide) (Nat.le_of_ble_eq_true rfl) ?_
  intro p e s m below meth c A ls C0 hW hl
  have hx := C0.1
  have hb := C0.2.1
  have hl : lv_has ls 3 [(0, .ref (a o)), (1, .int x1)] := hl
  obtain ⟨r, hr⟩ : ∃ r, f_X5_counted w x1 = some r ∧ r = out := ⟨out, hf, rfl⟩
  replace hf := hr.1
  have hF := hr.2
  clear hr
  unfold f_X5_counted at hf
  refine lv_aload_n hx hb dX5_counted_0 rfl (lv_at hl 0 rfl) ?_
  refine k_get C0 hW 5 3 0 (v := .ref (a (o + 27))) rfl (by decide) inX5 mf_X5_31 rfl rfl dX5_counted_1 ?_
  refine k_get C0 hW 1 0 27 (v := .ref (a (o + 30))) rfl (by decide) inX1 mf_X5_45 rfl rfl dX5_counted_4 ?_
  refine lv_astore_n (lv' := [(2, .ref (a (o + 30))), (0, .ref (a o)), (1, .int x1)]) hx hb dX5_counted_7 rfl hl (by decide) rfl (fun ls hl => ?_)
  refine lv_iload_n hx hb dX5_counted_8 rfl (lv_at hl 2 rfl) ?_
  by_cases c9_1 : x1 = 0
  · replace hf := if_t c9_1 hf
    refine lv_tableIn (off := 63) (tgt := 72) hx hb dX5_counted_9 (by rw [c9_1]; decide) (by rw [c9_1]; decide) (by rw [c9_1]; rfl) (by decide) ?_
    refine lv_aload_n hx hb dX5_counted_72 rfl (lv_at hl 0 rfl) ?_
    refine k_get C0 hW 4 5 30 (v := .int (wh_spokes (ct_wheel (ww_cart w)))) rfl (by decide) inX4 mf_X5_131 rfl rfl dX5_counted_73 ?_
    have e1 := Option.some.inj hf
    subst e1
    have hF : ((wh_spokes (ct_wheel (ww_cart w))) : Int32) = out := hF
    subst hF
    exact k_iret C0 hW dX5_counted_76
  replace hf := if_f c9_1 hf
  by_cases c9_2 : x1 = 1
  · replace hf := if_t c9_2 hf
    refine lv_tableIn (off := 68) (tgt := 77) hx hb dX5_counted_9 (by rw [c9_2]; decide) (by rw [c9_2]; decide) (by rw [c9_2]; rfl) (by decide) ?_
    refine lv_aload_n hx hb dX5_counted_77 rfl (lv_at hl 0 rfl) ?_
    refine k_get C0 hW 4 8 30 (v := .int (wh_rut (ct_wheel (ww_cart w)))) rfl (by decide) inX4 mf_X5_254 rfl rfl dX5_counted_78 ?_
    have e1 := Option.some.inj hf
    subst e1
    have hF : ((wh_rut (ct_wheel (ww_cart w))) : Int32) = out := hF
    subst hF
    exact k_iret C0 hW dX5_counted_81
  replace hf := if_f c9_2 hf
  by_cases c9_3 : x1 = 2
  · replace hf := if_t c9_3 hf
    refine lv_tableIn (off := 73) (tgt := 82) hx hb dX5_counted_9 (by rw [c9_3]; decide) (by rw [c9_3]; decide) (by rw [c9_3]; rfl) (by decide) ?_
    refine lv_aload_n hx hb dX5_counted_82 rfl (lv_at hl 1 rfl) ?_
    refine k_get C0 hW 5 3 0 (v := .ref (a (o + 27))) rfl (by decide) inX5 mf_X5_31 rfl rfl dX5_counted_83 ?_
    refine k_get C0 hW 1 3 27 (v := .int (ct_done (ww_cart w))) rfl (by decide) inX1 mf_X5_39 rfl rfl dX5_counted_86 ?_
    have e1 := Option.some.inj hf
    subst e1
    have hF : ((ct_done (ww_cart w)) : Int32) = out := hF
    subst hF
    exact k_iret C0 hW dX5_counted_89
  replace hf := if_f c9_3 hf
  by_cases c9_4 : x1 = 3
  · replace hf := if_t c9_4 hf
    refine lv_tableIn (off := 81) (tgt := 90) hx hb dX5_counted_9 (by rw [c9_4]; decide) (by rw [c9_4]; decide) (by rw [c9_4]; rfl) (by decide) ?_
    refine lv_aload_n hx hb dX5_counted_90 rfl (lv_at hl 0 rfl) ?_
    refine k_get C0 hW 4 7 30 (v := .int (wh_stand (ct_wheel (ww_cart w)))) rfl (by decide) inX4 mf_X5_317 rfl rfl dX5_counted_91 ?_
    have e1 := Option.some.inj hf
    subst e1
    have hF : ((wh_stand (ct_wheel (ww_cart w))) : Int32) = out := hF
    subst hF
    exact k_iret C0 hW dX5_counted_94
  replace hf := if_f c9_4 hf
  by_cases c9_5 : x1 = 4
  · replace hf := if_t c9_5 hf
    refine lv_tableIn (off := 86) (tgt := 95) hx hb dX5_counted_9 (by rw [c9_5]; decide) (by rw [c9_5]; decide) (by rw [c9_5]; rfl) (by decide) ?_
    refine lv_aload_n hx hb dX5_counted_95 rfl (lv_at hl 0 rfl) ?_
    refine k_get C0 hW 4 9 30 (v := .int (wh_there (ct_wheel (ww_cart w)))) rfl (by decide) inX4 mf_X5_228 rfl rfl dX5_counted_96 ?_
    have e1 := Option.some.inj hf
    subst e1
    have hF : ((wh_there (ct_wheel (ww_cart w))) : Int32) = out := hF
    subst hF
    exact k_iret C0 hW dX5_counted_99
  replace hf := if_f c9_5 hf
  by_cases c9_6 : x1 = 5
  · replace hf := if_t c9_6 hf
    refine lv_tableIn (off := 91) (tgt := 100) hx hb dX5_counted_9 (by rw [c9_6]; decide) (by rw [c9_6]; decide) (by rw [c9_6]; rfl) (by decide) ?_
    refine lv_aload_n hx hb dX5_counted_100 rfl (lv_at hl 0 rfl) ?_
    refine k_get C0 hW 4 10 30 (v := .int (wh_dry (ct_wheel (ww_cart w)))) rfl (by decide) inX4 mf_X5_155 rfl rfl dX5_counted_101 ?_
    refine lv_if_eq (tgt := 111) hx hb dX5_counted_104 (by decide) (fun c104_7 => ?_) (fun c104_7 => ?_)
    · replace hf := if_t c104_7 hf
      refine lv_iconst (v := 0) hx hb dX5_counted_111 (by decide) ?_
      have e1 := Option.some.inj hf
      subst e1
      have hF : ((0 : Int32) : Int32) = out := hF
      subst hF
      exact k_iret C0 hW dX5_counted_112
    · replace hf := if_f c104_7 hf
      refine lv_iconst (v := 1) hx hb dX5_counted_107 (by decide) ?_
      refine lv_goto (tgt := 112) hx hb dX5_counted_108 (by decide) ?_
      have e1 := Option.some.inj hf
      subst e1
      have hF : ((1 : Int32) : Int32) = out := hF
      subst hF
      exact k_iret C0 hW dX5_counted_112
  replace hf := if_f c9_6 hf
  by_cases c9_8 : x1 = 6
  · replace hf := if_t c9_8 hf
    refine lv_tableIn (off := 104) (tgt := 113) hx hb dX5_counted_9 (by rw [c9_8]; decide) (by rw [c9_8]; decide) (by rw [c9_8]; rfl) (by decide) ?_
    refine lv_aload_n hx hb dX5_counted_113 rfl (lv_at hl 0 rfl) ?_
    obtain ⟨q114, hq114⟩ := ob_s hf
    replace hf := hq114.2
    replace hq114 := hq114.1
    refine bV1 (rest := []) (bs := bsWw G a o w) (bs1 := bsWw G a o w) (st1 := [.int q114]) C0 hW hl.1 (c_X4_isOver l G a (o + 30) (ct_wheel (ww_cart w)) _ hq114) cb_X4_isOver mm_X5_167 ([16]) ([0, 1, 2, 3, 4, 5, 6, 7, 8, 9, 10, 11, 12, 13, 14, 15, 17, 18, 19, 20, 21, 22, 23, 24]) (ap_16) (ac_16) (ac_16) rfl rfl rfl 0 4 rfl rfl rfl (by decide) rfl rfl (Nat.le_of_ble_eq_true rfl) ⟨Nat.zero_le _, Nat.zero_le _⟩ dX5_counted_114 rfl (fun H locs hW => ?_)
    refine lv_if_eq (tgt := 124) hx hb dX5_counted_117 (by decide) (fun c117_9 => ?_) (fun c117_9 => ?_)
    · replace hf := if_t c117_9 hf
      refine lv_iconst (v := 0) hx hb dX5_counted_124 (by decide) ?_
      have e1 := Option.some.inj hf
      subst e1
      have hF : ((0 : Int32) : Int32) = out := hF
      subst hF
      exact k_iret C0 hW dX5_counted_125
    · replace hf := if_f c117_9 hf
      refine lv_iconst (v := 1) hx hb dX5_counted_120 (by decide) ?_
      refine lv_goto (tgt := 125) hx hb dX5_counted_121 (by decide) ?_
      have e1 := Option.some.inj hf
      subst e1
      have hF : ((1 : Int32) : Int32) = out := hF
      subst hF
      exact k_iret C0 hW dX5_counted_125
  replace hf := if_f c9_8 hf
  by_cases c9_10 : x1 = 7
  · replace hf := if_t c9_10 hf
    refine lv_tableIn (off := 117) (tgt := 126) hx hb dX5_counted_9 (by rw [c9_10]; decide) (by rw [c9_10]; decide) (by rw [c9_10]; rfl) (by decide) ?_
    refine lv_aload_n hx hb dX5_counted_126 rfl (lv_at hl 0 rfl) ?_
    refine k_get C0 hW 4 6 30 (v := .int (wh_gateRut (ct_wheel (ww_cart w)))) rfl (by decide) inX4 mf_X5_320 rfl rfl dX5_counted_127 ?_
    have e1 := Option.some.inj hf
    subst e1
    have hF : ((wh_gateRut (ct_wheel (ww_cart w))) : Int32) = out := hF
    subst hF
    exact k_iret C0 hW dX5_counted_130
  replace hf := if_f c9_10 hf
  by_cases c9_11 : x1 = 8
  · replace hf := if_t c9_11 hf
    refine lv_tableIn (off := 122) (tgt := 131) hx hb dX5_counted_9 (by rw [c9_11]; decide) (by rw [c9_11]; decide) (by rw [c9_11]; rfl) (by decide) ?_
    refine lv_aload_n hx hb dX5_counted_131 rfl (lv_at hl 1 rfl) ?_
    refine k_get C0 hW 5 0 0 (v := .ref (a (o + 3))) rfl (by decide) inX5 mf_X5_14 rfl rfl dX5_counted_132 ?_
    obtain ⟨q135, hq135⟩ := ob_s hf
    replace hf := hq135.2
    replace hq135 := hq135.1
    refine bV1 (rest := []) (bs := bsWw G a o w) (bs1 := bsWw G a o w) (st1 := [.int q135]) C0 hW hl.1 (c_X3_howMany l G a (o + 3) 6 40 (ww_rows w) _ hq135) cb_X3_howMany mm_X5_323 ([1, 2, 3, 4, 5, 6, 7]) ([0, 8, 9, 10, 11, 12, 13, 14, 15, 16, 17, 18, 19, 20, 21, 22, 23, 24]) (ap_1_2_3_4_5_6_7) (ac_1_2_3_4_5_6_7) (ac_1_2_3_4_5_6_7) rfl rfl rfl 0 3 rfl rfl rfl (by decide) rfl rfl (Nat.le_of_ble_eq_true rfl) ⟨Nat.zero_le _, Nat.zero_le _⟩ dX5_counted_135 rfl (fun H locs hW => ?_)
    have e1 := Option.some.inj hf
    subst e1
    have hF : (q135 : Int32) = out := hF
    subst hF
    exact k_iret C0 hW dX5_counted_138
  replace hf := if_f c9_11 hf
  by_cases c9_12 : x1 = 9
  · replace hf := if_t c9_12 hf
    refine lv_tableIn (off := 130) (tgt := 139) hx hb dX5_counted_9 (by rw [c9_12]; decide) (by rw [c9_12]; decide) (by rw [c9_12]; rfl) (by decide) ?_
    refine lv_aload_n hx hb dX5_counted_139 rfl (lv_at hl 1 rfl) ?_
    refine k_get C0 hW 5 1 0 (v := .ref (a (o + 12))) rfl (by decide) inX5 mf_X5_18 rfl rfl dX5_counted_140 ?_
    obtain ⟨q143, hq143⟩ := ob_s hf
    replace hf := hq143.2
    replace hq143 := hq143.1
    refine bV1 (rest := []) (bs := bsWw G a o w) (bs1 := bsWw G a o w) (st1 := [.int q143]) C0 hW hl.1 (c_X3_howMany l G a (o + 12) 4 60 (ww_texts w) _ hq143) cb_X3_howMany mm_X5_323 ([8, 9, 10, 11, 12]) ([0, 1, 2, 3, 4, 5, 6, 7, 13, 14, 15, 16, 17, 18, 19, 20, 21, 22, 23, 24]) (ap_8_9_10_11_12) (ac_8_9_10_11_12) (ac_8_9_10_11_12) rfl rfl rfl 0 3 rfl rfl rfl (by decide) rfl rfl (Nat.le_of_ble_eq_true rfl) ⟨Nat.zero_le _, Nat.zero_le _⟩ dX5_counted_143 rfl (fun H locs hW => ?_)
    have e1 := Option.some.inj hf
    subst e1
    have hF : (q143 : Int32) = out := hF
    subst hF
    exact k_iret C0 hW dX5_counted_146
  replace hf := if_f c9_12 hf
  by_cases c9_13 : x1 = 10
  · replace hf := if_t c9_13 hf
    refine lv_tableIn (off := 138) (tgt := 147) hx hb dX5_counted_9 (by rw [c9_13]; decide) (by rw [c9_13]; decide) (by rw [c9_13]; rfl) (by decide) ?_
    refine lv_aload_n hx hb dX5_counted_147 rfl (lv_at hl 1 rfl) ?_
    obtain ⟨q148, hq148⟩ := ob_s hf
    replace hf := hq148.2
    replace hq148 := hq148.1
    refine cW1 (rest := []) (ws1 := (bWw G a o w)) (st1 := [.int q148]) C0 hW hl.1 (c_X5_keptOnes l G a o w _ hq148) cb_X5_keptOnes mm_X5_326 fst_Ww 0 5 rfl rfl rfl (by decide) rfl rfl (Nat.le_of_ble_eq_true rfl) ⟨Nat.zero_le _, Nat.zero_le _⟩ dX5_counted_148 rfl (fun H locs hW => ?_)
    have e1 := Option.some.inj hf
    subst e1
    have hF : (q148 : Int32) = out := hF
    subst hF
    exact k_iret C0 hW dX5_counted_151
  replace hf := if_f c9_13 hf
  by_cases c9_14 : x1 = 11
  · replace hf := if_t c9_14 hf
    refine lv_tableIn (off := 143) (tgt := 152) hx hb dX5_counted_9 (by rw [c9_14]; decide) (by rw [c9_14]; decide) (by rw [c9_14]; rfl) (by decide) ?_
    refine lv_aload_n hx hb dX5_counted_152 rfl (lv_at hl 0 rfl) ?_
    obtain ⟨q153, hq153⟩ := ob_s hf
    replace hf := hq153.2
    replace hq153 := hq153.1
    refine bV1 (rest := []) (bs := bsWw G a o w) (bs1 := bsWw G a o w) (st1 := [.int q153]) C0 hW hl.1 (c_X4_lengthThere l G a (o + 30) (ct_wheel (ww_cart w)) _ hq153) cb_X4_lengthThere mm_X5_329 ([16]) ([0, 1, 2, 3, 4, 5, 6, 7, 8, 9, 10, 11, 12, 13, 14, 15, 17, 18, 19, 20, 21, 22, 23, 24]) (ap_16) (ac_16) (ac_16) rfl rfl rfl 0 4 rfl rfl rfl (by decide) rfl rfl (Nat.le_of_ble_eq_true rfl) ⟨Nat.zero_le _, Nat.zero_le _⟩ dX5_counted_153 rfl (fun H locs hW => ?_)
    have e1 := Option.some.inj hf
    subst e1
    have hF : (q153 : Int32) = out := hF
    subst hF
    exact k_iret C0 hW dX5_counted_156
  replace hf := if_f c9_14 hf
  refine lv_tableOut (tgt := 157) hx hb dX5_counted_9 (by have := lv_neT c9_1 (show (0 : Int32).toInt = 0 from rfl); have := lv_neT c9_2 (show (1 : Int32).toInt = 1 from rfl); have := lv_neT c9_3 (show (2 : Int32).toInt = 2 from rfl); have := lv_neT c9_4 (show (3 : Int32).toInt = 3 from rfl); have := lv_neT c9_5 (show (4 : Int32).toInt = 4 from rfl); have := lv_neT c9_6 (show (5 : Int32).toInt = 5 from rfl); have := lv_neT c9_8 (show (6 : Int32).toInt = 6 from rfl); have := lv_neT c9_10 (show (7 : Int32).toInt = 7 from rfl); have := lv_neT c9_11 (show (8 : Int32).toInt = 8 from rfl); have := lv_neT c9_12 (show (9 : Int32).toInt = 9 from rfl); have := lv_neT c9_13 (show (10 : Int32).toInt = 10 from rfl); have := lv_neT c9_14 (show (11 : Int32).toInt = 11 from rfl); omega) (by decide) ?_
  refine lv_aload_n hx hb dX5_counted_157 rfl (lv_at hl 0 rfl) ?_
  obtain ⟨q158, hq158⟩ := ob_s hf
  replace hf := hq158.2
  replace hq158 := hq158.1
  refine bV1 (rest := []) (bs := bsWw G a o w) (bs1 := bsWw G a o w) (st1 := [.int q158]) C0 hW hl.1 (c_X4_ironOnes l G a (o + 30) (ct_wheel (ww_cart w)) _ hq158) cb_X4_ironOnes mm_X5_332 ([16]) ([0, 1, 2, 3, 4, 5, 6, 7, 8, 9, 10, 11, 12, 13, 14, 15, 17, 18, 19, 20, 21, 22, 23, 24]) (ap_16) (ac_16) (ac_16) rfl rfl rfl 0 4 rfl rfl rfl (by decide) rfl rfl (Nat.le_of_ble_eq_true rfl) ⟨Nat.zero_le _, Nat.zero_le _⟩ dX5_counted_158 rfl (fun H locs hW => ?_)
  have e1 := Option.some.inj hf
  subst e1
  have hF : (q158 : Int32) = out := hF
  subst hF
  exact k_iret C0 hW dX5_counted_161

def f_X5_count_J10 (w : Ww) : Option (Int32) :=
  some (-1 : Int32)
def f_X5_count (w : Ww) (x1 : Int32) : Option (Int32) :=
  if x1 < 0 then (f_X5_count_J10 w) else (if x1 ≤ (12 : Int32) then (Option.bind (f_X5_counted w x1) (fun q16 => some q16)) else (f_X5_count_J10 w))
set_option maxRecDepth 100000 in
set_option maxHeartbeats 400000 in
theorem c_X5_count (l : Launch) (G : GG) (a : Nat → Nat) (o : Nat) (w : Ww) (x1 : Int32) (out : Int32) (hf : f_X5_count w x1 = some out) : Cn l G 3 yX5_count cX5_count 2 (some .int) [.ref (a o), .int x1] (bWw G a o w) (some (.int out)) (bWw G a o w) := by
  refine cn_start (by decide) (Nat.le_of_ble_eq_true rfl) ?_
  intro p e s m below meth c A ls C0 hW hl
  have hx := C0.1
  have hb := C0.2.1
  have hl : lv_has ls 2 [(0, .ref (a o)), (1, .int x1)] := hl
  have J10 : ∀ (r : Int32), f_X5_count_J10 w = some r → (fun (r : Int32) => r = out) r → ∀ (H : Heap) (locs : List Loc) (ls : Array Slot), Wd G A s.heap H (bWw G a o w) locs → lv_has ls 2 [] → WW p l e 3 s m [.ref (a o), .int x1] below meth c G A (some (.int out)) ((bWw G a o w)) H locs 10 ls [] := by
    intro r hf hF H locs ls hW hl
    unfold f_X5_count_J10 at hf
    refine lv_iconst (v := -1) hx hb dX5_count_10 (by decide) ?_
    refine lv_goto (tgt := 19) hx hb dX5_count_11 (by decide) ?_
    have e1 := Option.some.inj hf
    subst e1
    have hF : ((-1 : Int32) : Int32) = out := hF
    subst hF
    exact k_iret C0 hW dX5_count_19
  obtain ⟨r, hr⟩ : ∃ r, f_X5_count w x1 = some r ∧ r = out := ⟨out, hf, rfl⟩
  replace hf := hr.1
  have hF := hr.2
  clear hr
  unfold f_X5_count at hf
  refine lv_iload_n hx hb dX5_count_0 rfl (lv_at hl 1 rfl) ?_
  refine lv_if_lt (tgt := 10) hx hb dX5_count_1 (by decide) (fun c1_1 => ?_) (fun c1_1 => ?_)
  · replace hf := if_t c1_1 hf
    exact J10  _ hf hF _ _ _ hW (lv_sub hl [] rfl)
  · replace hf := if_f c1_1 hf
    refine lv_iload_n hx hb dX5_count_4 rfl (lv_at hl 1 rfl) ?_
    refine lv_bipush (v := 12) hx hb dX5_count_5 (by decide) ?_
    refine lv_icmp_le (tgt := 14) hx hb dX5_count_7 (by decide) (fun c7_2 => ?_) (fun c7_2 => ?_)
    · replace hf := if_t c7_2 hf
      refine lv_aload_n hx hb dX5_count_14 rfl (lv_at hl 0 rfl) ?_
      refine lv_iload_n hx hb dX5_count_15 rfl (lv_at hl 1 rfl) ?_
      obtain ⟨q16, hq16⟩ := ob_s hf
      replace hf := hq16.2
      replace hq16 := hq16.1
      refine cW1 (rest := []) (ws1 := (bWw G a o w)) (st1 := [.int q16]) C0 hW hl.1 (c_X5_counted l G a o w x1 _ hq16) cb_X5_counted mm_X5_263 fst_Ww 0 5 rfl rfl rfl (by decide) rfl rfl (Nat.le_of_ble_eq_true rfl) ⟨Nat.zero_le _, Nat.zero_le _⟩ dX5_count_16 rfl (fun H locs hW => ?_)
      have e1 := Option.some.inj hf
      subst e1
      have hF : (q16 : Int32) = out := hF
      subst hF
      exact k_iret C0 hW dX5_count_19
    · replace hf := if_f c7_2 hf
      exact J10  _ hf hF _ _ _ hW (lv_sub hl [] rfl)

def f_X5_digest_J73 (w : Ww) (x1 : Int64) : Option (Int64) :=
  Option.bind (f_X3_mix 6 40 (ww_rows w) x1) (fun q82 => Option.bind (f_X3_mix 4 60 (ww_texts w) q82) (fun q85 => some q85))
def f_X5_digest_B45 (w : Ww) (x1 : Int64) (x3 : Int32) : Option ((Int64 × Int32) ⊕ (Int64)) :=
  if (3 : Int32) ≤ x3 then (Option.map Sum.inr (f_X5_digest_J73 w x1)) else (if x3 = 0 then (nm (((31 : Int64) * x1) + ((ct_done (ww_kept w 0)).toInt64)) (fun v66 => some (Sum.inl (v66, (x3 + (1 : Int32)))))) else if x3 = 1 then (nm (((31 : Int64) * x1) + ((ct_done (ww_kept w 1)).toInt64)) (fun v66 => some (Sum.inl (v66, (x3 + (1 : Int32)))))) else if x3 = 2 then (nm (((31 : Int64) * x1) + ((ct_done (ww_kept w 2)).toInt64)) (fun v66 => some (Sum.inl (v66, (x3 + (1 : Int32)))))) else none)
def f_X5_digest_L45 (w : Ww) (sg : Int64 × Int32) : Option ((Int64 × Int32) ⊕ (Int64)) := f_X5_digest_B45 w sg.1 sg.2
def f_X5_digest_J31 (w : Ww) (x1 : Int64) : Option (Int64) :=
  Option.bind (f_X4_mix (ct_wheel (ww_cart w)) x1) (fun q39 => lp (f_X5_digest_L45 w) fuel (q39, (0 : Int32)))
def f_X5_digest_B6 (w : Ww) (x1 : Int64) (x3 : Int32) : Option ((Int64 × Int32) ⊕ (Int64)) :=
  if (12 : Int32) < x3 then (Option.map Sum.inr (f_X5_digest_J31 w x1)) else (Option.bind (f_X5_counted w x3) (fun q19 => nm (((31 : Int64) * x1) + (q19.toInt64)) (fun v24 => some (Sum.inl (v24, (x3 + (1 : Int32)))))))
def f_X5_digest_L6 (w : Ww) (sg : Int64 × Int32) : Option ((Int64 × Int32) ⊕ (Int64)) := f_X5_digest_B6 w sg.1 sg.2
def f_X5_digest (w : Ww) : Option (Int64) :=
  lp (f_X5_digest_L6 w) fuel ((17 : Int64), (0 : Int32))
set_option maxRecDepth 100000 in
set_option maxHeartbeats 400000 in
theorem c_X5_digest (l : Launch) (G : GG) (a : Nat → Nat) (o : Nat) (w : Ww) (out : Int64) (hf : f_X5_digest w = some out) : Cn l G 5 yX5_digest cX5_digest 4 (some .long) [.ref (a o)] (bWw G a o w) (some (.long out)) (bWw G a o w) := by
  refine cn_start (by decide) (Nat.le_of_ble_eq_true rfl) ?_
  intro p e s m below meth c A ls C0 hW hl
  have hx := C0.1
  have hb := C0.2.1
  have hl : lv_has ls 4 [(0, .ref (a o))] := hl
  have J73 : ∀ (x1 : Int64) (r : Int64), f_X5_digest_J73 w x1 = some r → (fun (r : Int64) => r = out) r → ∀ (H : Heap) (locs : List Loc) (ls : Array Slot), Wd G A s.heap H (bWw G a o w) locs → lv_has ls 4 [(0, .ref (a o)), (1, .long x1)] → WW p l e 5 s m [.ref (a o)] below meth c G A (some (.long out)) ((bWw G a o w)) H locs 73 ls [] := by
    intro x1 r hf hF H locs ls hW hl
    unfold f_X5_digest_J73 at hf
    refine lv_aload_n hx hb dX5_digest_73 rfl (lv_at hl 0 rfl) ?_
    refine k_get C0 hW 5 1 0 (v := .ref (a (o + 12))) rfl (by decide) inX5 mf_X5_18 rfl rfl dX5_digest_74 ?_
    refine lv_aload_n hx hb dX5_digest_77 rfl (lv_at hl 0 rfl) ?_
    refine k_get C0 hW 5 0 0 (v := .ref (a (o + 3))) rfl (by decide) inX5 mf_X5_14 rfl rfl dX5_digest_78 ?_
    refine lv_lload_n hx hb dX5_digest_81 rfl (lv_at hl 1 rfl) ?_
    obtain ⟨q82, hq82⟩ := ob_s hf
    replace hf := hq82.2
    replace hq82 := hq82.1
    refine bV1 (rest := [.ref (a (o + 12))]) (bs := bsWw G a o w) (bs1 := bsWw G a o w) (st1 := [.long q82, .ref (a (o + 12))]) C0 hW hl.1 (c_X3_mix l G a (o + 3) 6 40 (ww_rows w) x1 _ hq82) cb_X3_mix mm_X5_277 ([1, 2, 3, 4, 5, 6, 7]) ([0, 8, 9, 10, 11, 12, 13, 14, 15, 16, 17, 18, 19, 20, 21, 22, 23, 24]) (ap_1_2_3_4_5_6_7) (ac_1_2_3_4_5_6_7) (ac_1_2_3_4_5_6_7) rfl rfl rfl 0 3 rfl rfl rfl (by decide) rfl rfl (Nat.le_of_ble_eq_true rfl) ⟨Nat.zero_le _, Nat.zero_le _⟩ dX5_digest_82 rfl (fun H locs hW => ?_)
    obtain ⟨q85, hq85⟩ := ob_s hf
    replace hf := hq85.2
    replace hq85 := hq85.1
    refine bV1 (rest := []) (bs := bsWw G a o w) (bs1 := bsWw G a o w) (st1 := [.long q85]) C0 hW hl.1 (c_X3_mix l G a (o + 12) 4 60 (ww_texts w) q82 _ hq85) cb_X3_mix mm_X5_277 ([8, 9, 10, 11, 12]) ([0, 1, 2, 3, 4, 5, 6, 7, 13, 14, 15, 16, 17, 18, 19, 20, 21, 22, 23, 24]) (ap_8_9_10_11_12) (ac_8_9_10_11_12) (ac_8_9_10_11_12) rfl rfl rfl 0 3 rfl rfl rfl (by decide) rfl rfl (Nat.le_of_ble_eq_true rfl) ⟨Nat.zero_le _, Nat.zero_le _⟩ dX5_digest_85 rfl (fun H locs hW => ?_)
    have e1 := Option.some.inj hf
    subst e1
    have hF : (q85 : Int64) = out := hF
    subst hF
    exact k_lret C0 hW dX5_digest_88
  have L45 : ∀ (k8 : Nat) (sg : Int64 × Int32) (o9 : Int64), lp (f_X5_digest_L45 w) k8 sg = some o9 → (fun (r : Int64) => r = out) o9 → (fun (sg : Int64 × Int32) => ∀ (H : Heap) (locs : List Loc) (ls : Array Slot), Wd G A s.heap H (bWw G a o w) locs → lv_has ls 4 [(0, .ref (a o)), (1, .long sg.1), (3, .int sg.2)] → WW p l e 5 s m [.ref (a o)] below meth c G A (some (.long out)) ((bWw G a o w)) H locs 45 ls []) sg := by
    have B45 : ∀ (x1 : Int64) (x3 : Int32) (r : (Int64 × Int32) ⊕ (Int64)), f_X5_digest_B45 w x1 x3 = some r → (Sum.elim (fun (sg : Int64 × Int32) => ∀ (H : Heap) (locs : List Loc) (ls : Array Slot), Wd G A s.heap H (bWw G a o w) locs → lv_has ls 4 [(0, .ref (a o)), (1, .long sg.1), (3, .int sg.2)] → WW p l e 5 s m [.ref (a o)] below meth c G A (some (.long out)) ((bWw G a o w)) H locs 45 ls []) (fun (r : Int64) => r = out)) r → ∀ (H : Heap) (locs : List Loc) (ls : Array Slot), Wd G A s.heap H (bWw G a o w) locs → lv_has ls 4 [(0, .ref (a o)), (1, .long x1), (3, .int x3)] → WW p l e 5 s m [.ref (a o)] below meth c G A (some (.long out)) ((bWw G a o w)) H locs 45 ls [] := by
      intro x1 x3 r hf hF H locs ls hW hl
      unfold f_X5_digest_B45 at hf
      refine lv_iload_n hx hb dX5_digest_45 rfl (lv_at hl 2 rfl) ?_
      refine lv_iconst (v := 3) hx hb dX5_digest_46 (by decide) ?_
      refine lv_icmp_ge (tgt := 73) hx hb dX5_digest_47 (by decide) (fun c47_2 => ?_) (fun c47_2 => ?_)
      · replace hf := if_t c47_2 hf
        obtain ⟨r2, e2⟩ := om_s hf
        replace hf := e2.1
        replace e2 := e2.2
        subst e2
        replace hF := elim_r hF
        exact J73 _ _ hf hF _ _ _ hW (lv_sub hl [0, 1] rfl)
      · replace hf := if_f c47_2 hf
        refine lv_ldc2 hx hb C0.2.2.2.2.2.1 (C0.2.2.2.2.2.2.1 _ mk_X5_271) dX5_digest_50 ?_
        refine lv_lload_n hx hb dX5_digest_53 rfl (lv_at hl 1 rfl) ?_
        refine lv_lmul hx hb dX5_digest_54 ?_
        refine lv_aload_n hx hb dX5_digest_55 rfl (lv_at hl 0 rfl) ?_
        refine k_get C0 hW 5 4 0 (v := .ref (a (o + 2))) rfl (by decide) inX5 mf_X5_35 rfl rfl dX5_digest_56 ?_
        refine lv_iload_n hx hb dX5_digest_59 rfl (lv_at hl 2 rfl) ?_
        by_cases hk9 : x3 = 0
        · replace hf := if_t hk9 hf
          refine k_aaldC C0 hW 2 (b := a (o + 36)) rfl (by rw [hk9]; exact inb_in rfl) (by rw [hk9]; rfl) dX5_digest_60 ?_
          refine k_get C0 hW 1 3 36 (v := .int (ct_done (ww_kept w 0))) rfl (by decide) inX1 mf_X5_39 rfl rfl dX5_digest_61 ?_
          refine lv_i2l (v := (ct_done (ww_kept w 0)).toInt64) hx hb dX5_digest_64 rfl ?_
          refine lv_ladd hx hb dX5_digest_65 ?_
          refine lv_topl (fun v66 ev66 => ?_)
          replace hf := nm_s ev66 hf
          refine lv_lstore_n (lv' := [(1, .long v66), (0, .ref (a o)), (3, .int x3)]) hx hb dX5_digest_66 rfl hl (by decide) rfl (fun ls hl => ?_)
          refine lv_iinc (v := (x3 + (1 : Int32))) (lv' := [(3, .int (x3 + (1 : Int32))), (1, .long v66), (0, .ref (a o))]) hx hb dX5_digest_67 hl (k := 2) rfl rfl (by decide) rfl (fun ls hl => ?_)
          refine lv_goto (tgt := 45) hx hb dX5_digest_70 (by decide) ?_
          have e1 := Option.some.inj hf
          subst e1
          exact (elim_l hF) _ _ _ hW (lv_sub hl [2, 1, 0] rfl)
        replace hf := if_f hk9 hf
        by_cases hk9 : x3 = 1
        · replace hf := if_t hk9 hf
          refine k_aaldC C0 hW 2 (b := a (o + 45)) rfl (by rw [hk9]; exact inb_in rfl) (by rw [hk9]; rfl) dX5_digest_60 ?_
          refine k_get C0 hW 1 3 45 (v := .int (ct_done (ww_kept w 1))) rfl (by decide) inX1 mf_X5_39 rfl rfl dX5_digest_61 ?_
          refine lv_i2l (v := (ct_done (ww_kept w 1)).toInt64) hx hb dX5_digest_64 rfl ?_
          refine lv_ladd hx hb dX5_digest_65 ?_
          refine lv_topl (fun v66 ev66 => ?_)
          replace hf := nm_s ev66 hf
          refine lv_lstore_n (lv' := [(1, .long v66), (0, .ref (a o)), (3, .int x3)]) hx hb dX5_digest_66 rfl hl (by decide) rfl (fun ls hl => ?_)
          refine lv_iinc (v := (x3 + (1 : Int32))) (lv' := [(3, .int (x3 + (1 : Int32))), (1, .long v66), (0, .ref (a o))]) hx hb dX5_digest_67 hl (k := 2) rfl rfl (by decide) rfl (fun ls hl => ?_)
          refine lv_goto (tgt := 45) hx hb dX5_digest_70 (by decide) ?_
          have e1 := Option.some.inj hf
          subst e1
          exact (elim_l hF) _ _ _ hW (lv_sub hl [2, 1, 0] rfl)
        replace hf := if_f hk9 hf
        by_cases hk9 : x3 = 2
        · replace hf := if_t hk9 hf
          refine k_aaldC C0 hW 2 (b := a (o + 54)) rfl (by rw [hk9]; exact inb_in rfl) (by rw [hk9]; rfl) dX5_digest_60 ?_
          refine k_get C0 hW 1 3 54 (v := .int (ct_done (ww_kept w 2))) rfl (by decide) inX1 mf_X5_39 rfl rfl dX5_digest_61 ?_
          refine lv_i2l (v := (ct_done (ww_kept w 2)).toInt64) hx hb dX5_digest_64 rfl ?_
          refine lv_ladd hx hb dX5_digest_65 ?_
          refine lv_topl (fun v66 ev66 => ?_)
          replace hf := nm_s ev66 hf
          refine lv_lstore_n (lv' := [(1, .long v66), (0, .ref (a o)), (3, .int x3)]) hx hb dX5_digest_66 rfl hl (by decide) rfl (fun ls hl => ?_)
          refine lv_iinc (v := (x3 + (1 : Int32))) (lv' := [(3, .int (x3 + (1 : Int32))), (1, .long v66), (0, .ref (a o))]) hx hb dX5_digest_67 hl (k := 2) rfl rfl (by decide) rfl (fun ls hl => ?_)
          refine lv_goto (tgt := 45) hx hb dX5_digest_70 (by decide) ?_
          have e1 := Option.some.inj hf
          subst e1
          exact (elim_l hF) _ _ _ hW (lv_sub hl [2, 1, 0] rfl)
        replace hf := if_f hk9 hf
        cases hf
    exact lp_sound (fun sg r hb hz => B45 sg.1 sg.2 r hb hz)
  have J31 : ∀ (x1 : Int64) (r : Int64), f_X5_digest_J31 w x1 = some r → (fun (r : Int64) => r = out) r → ∀ (H : Heap) (locs : List Loc) (ls : Array Slot), Wd G A s.heap H (bWw G a o w) locs → lv_has ls 4 [(0, .ref (a o)), (1, .long x1)] → WW p l e 5 s m [.ref (a o)] below meth c G A (some (.long out)) ((bWw G a o w)) H locs 31 ls [] := by
    intro x1 r hf hF H locs ls hW hl
    unfold f_X5_digest_J31 at hf
    refine lv_aload_n hx hb dX5_digest_31 rfl (lv_at hl 0 rfl) ?_
    refine k_get C0 hW 5 3 0 (v := .ref (a (o + 27))) rfl (by decide) inX5 mf_X5_31 rfl rfl dX5_digest_32 ?_
    refine k_get C0 hW 1 0 27 (v := .ref (a (o + 30))) rfl (by decide) inX1 mf_X5_45 rfl rfl dX5_digest_35 ?_
    refine lv_lload_n hx hb dX5_digest_38 rfl (lv_at hl 1 rfl) ?_
    obtain ⟨q39, hq39⟩ := ob_s hf
    replace hf := hq39.2
    replace hq39 := hq39.1
    refine bV1 (rest := []) (bs := bsWw G a o w) (bs1 := bsWw G a o w) (st1 := [.long q39]) C0 hW hl.1 (c_X4_mix l G a (o + 30) (ct_wheel (ww_cart w)) x1 _ hq39) cb_X4_mix mm_X5_273 ([16]) ([0, 1, 2, 3, 4, 5, 6, 7, 8, 9, 10, 11, 12, 13, 14, 15, 17, 18, 19, 20, 21, 22, 23, 24]) (ap_16) (ac_16) (ac_16) rfl rfl rfl 0 4 rfl rfl rfl (by decide) rfl rfl (Nat.le_of_ble_eq_true rfl) ⟨Nat.zero_le _, Nat.zero_le _⟩ dX5_digest_39 rfl (fun H locs hW => ?_)
    refine lv_lstore_n (lv' := [(1, .long q39), (0, .ref (a o))]) hx hb dX5_digest_42 rfl hl (by decide) rfl (fun ls hl => ?_)
    refine lv_iconst (v := 0) hx hb dX5_digest_43 (by decide) ?_
    refine lv_istore_n (lv' := [(3, .int (0 : Int32)), (1, .long q39), (0, .ref (a o))]) hx hb dX5_digest_44 rfl hl (by decide) rfl (fun ls hl => ?_)
    exact L45  fuel (q39, (0 : Int32)) _ hf hF _ _ _ hW (lv_sub hl [2, 1, 0] rfl)
  have L6 : ∀ (k8 : Nat) (sg : Int64 × Int32) (o9 : Int64), lp (f_X5_digest_L6 w) k8 sg = some o9 → (fun (r : Int64) => r = out) o9 → (fun (sg : Int64 × Int32) => ∀ (H : Heap) (locs : List Loc) (ls : Array Slot), Wd G A s.heap H (bWw G a o w) locs → lv_has ls 4 [(0, .ref (a o)), (1, .long sg.1), (3, .int sg.2)] → WW p l e 5 s m [.ref (a o)] below meth c G A (some (.long out)) ((bWw G a o w)) H locs 6 ls []) sg := by
    have B6 : ∀ (x1 : Int64) (x3 : Int32) (r : (Int64 × Int32) ⊕ (Int64)), f_X5_digest_B6 w x1 x3 = some r → (Sum.elim (fun (sg : Int64 × Int32) => ∀ (H : Heap) (locs : List Loc) (ls : Array Slot), Wd G A s.heap H (bWw G a o w) locs → lv_has ls 4 [(0, .ref (a o)), (1, .long sg.1), (3, .int sg.2)] → WW p l e 5 s m [.ref (a o)] below meth c G A (some (.long out)) ((bWw G a o w)) H locs 6 ls []) (fun (r : Int64) => r = out)) r → ∀ (H : Heap) (locs : List Loc) (ls : Array Slot), Wd G A s.heap H (bWw G a o w) locs → lv_has ls 4 [(0, .ref (a o)), (1, .long x1), (3, .int x3)] → WW p l e 5 s m [.ref (a o)] below meth c G A (some (.long out)) ((bWw G a o w)) H locs 6 ls [] := by
      intro x1 x3 r hf hF H locs ls hW hl
      unfold f_X5_digest_B6 at hf
      refine lv_iload_n hx hb dX5_digest_6 rfl (lv_at hl 2 rfl) ?_
      refine lv_bipush (v := 12) hx hb dX5_digest_7 (by decide) ?_
      refine lv_icmp_gt (tgt := 31) hx hb dX5_digest_9 (by decide) (fun c9_1 => ?_) (fun c9_1 => ?_)
      · replace hf := if_t c9_1 hf
        obtain ⟨r2, e2⟩ := om_s hf
        replace hf := e2.1
        replace e2 := e2.2
        subst e2
        replace hF := elim_r hF
        exact J31 _ _ hf hF _ _ _ hW (lv_sub hl [0, 1] rfl)
      · replace hf := if_f c9_1 hf
        refine lv_ldc2 hx hb C0.2.2.2.2.2.1 (C0.2.2.2.2.2.2.1 _ mk_X5_271) dX5_digest_12 ?_
        refine lv_lload_n hx hb dX5_digest_15 rfl (lv_at hl 1 rfl) ?_
        refine lv_lmul hx hb dX5_digest_16 ?_
        refine lv_aload_n hx hb dX5_digest_17 rfl (lv_at hl 0 rfl) ?_
        refine lv_iload_n hx hb dX5_digest_18 rfl (lv_at hl 2 rfl) ?_
        obtain ⟨q19, hq19⟩ := ob_s hf
        replace hf := hq19.2
        replace hq19 := hq19.1
        refine cW1 (rest := [.long ((31 : Int64) * x1)]) (ws1 := (bWw G a o w)) (st1 := [.int q19, .long ((31 : Int64) * x1)]) C0 hW hl.1 (c_X5_counted l G a o w x3 _ hq19) cb_X5_counted mm_X5_263 fst_Ww 0 5 rfl rfl rfl (by decide) rfl rfl (Nat.le_of_ble_eq_true rfl) ⟨Nat.zero_le _, Nat.zero_le _⟩ dX5_digest_19 rfl (fun H locs hW => ?_)
        refine lv_i2l (v := q19.toInt64) hx hb dX5_digest_22 rfl ?_
        refine lv_ladd hx hb dX5_digest_23 ?_
        refine lv_topl (fun v24 ev24 => ?_)
        replace hf := nm_s ev24 hf
        refine lv_lstore_n (lv' := [(1, .long v24), (0, .ref (a o)), (3, .int x3)]) hx hb dX5_digest_24 rfl hl (by decide) rfl (fun ls hl => ?_)
        refine lv_iinc (v := (x3 + (1 : Int32))) (lv' := [(3, .int (x3 + (1 : Int32))), (1, .long v24), (0, .ref (a o))]) hx hb dX5_digest_25 hl (k := 2) rfl rfl (by decide) rfl (fun ls hl => ?_)
        refine lv_goto (tgt := 6) hx hb dX5_digest_28 (by decide) ?_
        have e1 := Option.some.inj hf
        subst e1
        exact (elim_l hF) _ _ _ hW (lv_sub hl [2, 1, 0] rfl)
    exact lp_sound (fun sg r hb hz => B6 sg.1 sg.2 r hb hz)
  obtain ⟨r, hr⟩ : ∃ r, f_X5_digest w = some r ∧ r = out := ⟨out, hf, rfl⟩
  replace hf := hr.1
  have hF := hr.2
  clear hr
  unfold f_X5_digest at hf
  refine lv_ldc2 hx hb C0.2.2.2.2.2.1 (C0.2.2.2.2.2.2.1 _ mk_X5_269) dX5_digest_0 ?_
  refine lv_lstore_n (lv' := [(1, .long (17 : Int64)), (0, .ref (a o))]) hx hb dX5_digest_3 rfl hl (by decide) rfl (fun ls hl => ?_)
  refine lv_iconst (v := 0) hx hb dX5_digest_4 (by decide) ?_
  refine lv_istore_n (lv' := [(3, .int (0 : Int32)), (1, .long (17 : Int64)), (0, .ref (a o))]) hx hb dX5_digest_5 rfl hl (by decide) rfl (fun ls hl => ?_)
  exact L6  fuel ((17 : Int64), (0 : Int32)) _ hf hF _ _ _ hW (lv_sub hl [2, 1, 0] rfl)

def f_X5_doDeed (w : Ww) (x1 : Int32) (x2 : Int32) : Option (Int32 × Ww) :=
  if (ct_done (ww_cart w)) < (40 : Int32) then (Option.bind (f_X1_add (ww_cart w) x1 x2) (fun q23 => some (q23.1, (ww_set_cart w q23.2)))) else (some ((-2 : Int32), w))
set_option maxRecDepth 100000 in
set_option maxHeartbeats 400000 in
theorem c_X5_doDeed (l : Launch) (G : GG) (a : Nat → Nat) (o : Nat) (w : Ww) (x1 : Int32) (x2 : Int32) (out : Int32 × Ww) (hf : f_X5_doDeed w x1 x2 = some out) : Cn l G 5 yX5_doDeed cX5_doDeed 3 (some .int) [.ref (a o), .int x1, .int x2] (bWw G a o w) (some (.int out.1)) (bWw G a o out.2) := by
  refine cn_start (by decide) (Nat.le_of_ble_eq_true rfl) ?_
  intro p e s m below meth c A ls C0 hW hl
  have hx := C0.1
  have hb := C0.2.1
  have hl : lv_has ls 3 [(0, .ref (a o)), (1, .int x1), (2, .int x2)] := hl
  obtain ⟨r, hr⟩ : ∃ r, f_X5_doDeed w x1 x2 = some r ∧ r = out := ⟨out, hf, rfl⟩
  replace hf := hr.1
  have hF := hr.2
  clear hr
  unfold f_X5_doDeed at hf
  refine lv_aload_n hx hb dX5_doDeed_0 rfl (lv_at hl 0 rfl) ?_
  refine k_get C0 hW 5 3 0 (v := .ref (a (o + 27))) rfl (by decide) inX5 mf_X5_31 rfl rfl dX5_doDeed_1 ?_
  refine k_get C0 hW 1 3 27 (v := .int (ct_done (ww_cart w))) rfl (by decide) inX1 mf_X5_39 rfl rfl dX5_doDeed_4 ?_
  refine lv_bipush (v := 40) hx hb dX5_doDeed_7 (by decide) ?_
  refine lv_icmp_lt (tgt := 17) hx hb dX5_doDeed_9 (by decide) (fun c9_1 => ?_) (fun c9_1 => ?_)
  · replace hf := if_t c9_1 hf
    refine lv_aload_n hx hb dX5_doDeed_17 rfl (lv_at hl 0 rfl) ?_
    refine k_get C0 hW 5 3 0 (v := .ref (a (o + 27))) rfl (by decide) inX5 mf_X5_31 rfl rfl dX5_doDeed_18 ?_
    refine lv_iload_n hx hb dX5_doDeed_21 rfl (lv_at hl 1 rfl) ?_
    refine lv_iload_n hx hb dX5_doDeed_22 rfl (lv_at hl 2 rfl) ?_
    obtain ⟨q23, hq23⟩ := ob_s hf
    replace hf := hq23.2
    replace hq23 := hq23.1
    refine bV1 (rest := []) (bs := bsWw G a o w) (bs1 := bsWw G a o (ww_set_cart w q23.2)) (st1 := [.int q23.1]) C0 hW hl.1 (c_X1_add l G a (o + 27) (ww_cart w) x1 x2 _ hq23) cb_X1_add mm_X5_305 ([15, 16]) ([0, 1, 2, 3, 4, 5, 6, 7, 8, 9, 10, 11, 12, 13, 14, 17, 18, 19, 20, 21, 22, 23, 24]) (ap_15_16) (ac_15_16) (ad_15_16_w) (ar_15_16_w) rfl (as_15_16_w) 0 1 rfl rfl rfl (by decide) rfl rfl (Nat.le_of_ble_eq_true rfl) ⟨Nat.zero_le _, Nat.zero_le _⟩ dX5_doDeed_23 rfl (fun H locs hW => ?_)
    have e1 := Option.some.inj hf
    subst e1
    have hF : ((q23.1, (ww_set_cart w q23.2)) : Int32 × Ww) = out := hF
    subst hF
    exact k_iret C0 hW dX5_doDeed_26
  · replace hf := if_f c9_1 hf
    refine lv_bipush (v := -2) hx hb dX5_doDeed_12 (by decide) ?_
    refine lv_goto (tgt := 26) hx hb dX5_doDeed_14 (by decide) ?_
    have e1 := Option.some.inj hf
    subst e1
    have hF : (((-2 : Int32), w) : Int32 × Ww) = out := hF
    subst hF
    exact k_iret C0 hW dX5_doDeed_26
