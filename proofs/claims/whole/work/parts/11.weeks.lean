def f_X5_asked (w : Ww) : Option (Int32) :=
  some (ww_askedLast w)
set_option maxRecDepth 100000 in
set_option maxHeartbeats 8000000 in
theorem c_X5_asked (l : Launch) (G : GG) (a : Nat → Nat) (o : Nat) (w : Ww) (out : Int32) (hf : f_X5_asked w = some out) : Cn l G 0 yX5_asked cX5_asked 1 (some .int) [.ref (a o)] (bWw G a o w) (some (.int out)) (bWw G a o w) := by
  refine cn_start (by decide) (Nat.le_of_ble_eq_true rfl) ?_
  intro p e s m below meth c A ls C0 hW hl
  have hx := C0.1
  have hb := C0.2.1
  have hl : lv_has ls 1 [(0, .ref (a o))] := hl
  obtain ⟨r, hr⟩ : ∃ r, f_X5_asked w = some r ∧ r = out := ⟨out, hf, rfl⟩
  replace hf := hr.1
  have hF := hr.2
  clear hr
  unfold f_X5_asked at hf
  refine lv_aload_n hx hb dX5_asked_0 rfl (lv_at hl 0 rfl) ?_
  refine k_get C0 hW 5 8 0 (v := .int (ww_askedLast w)) rfl (by decide) inX5 mf_X5_257 rfl rfl dX5_asked_1 ?_
  have e1 := Option.some.inj hf
  subst e1
  have hF : ((ww_askedLast w) : Int32) = out := hF
  subst hF
  exact k_iret C0 hW dX5_asked_4

def f_X5_refuse (w : Ww) (x1 : Int32) : Option (Int32 × Ww) :=
  gd (inb x1 6) (gd (inb x1 6) (some ((-3 : Int32), (ww_set_findingLast (ww_set_tallies w (upd (ww_tallies w) (ix x1) (((ww_tallies w) (ix x1)) + (1 : Int32)))) x1))))
set_option maxRecDepth 100000 in
set_option maxHeartbeats 8000000 in
theorem c_X5_refuse (l : Launch) (G : GG) (a : Nat → Nat) (o : Nat) (w : Ww) (x1 : Int32) (out : Int32 × Ww) (hf : f_X5_refuse w x1 = some out) : Cn l G 0 yX5_refuse cX5_refuse 2 (some .int) [.ref (a o), .int x1] (bWw G a o w) (some (.int out.1)) (bWw G a o out.2) := by
  refine cn_start (by decide) (Nat.le_of_ble_eq_true rfl) ?_
  intro p e s m below meth c A ls C0 hW hl
  have hx := C0.1
  have hb := C0.2.1
  have hl : lv_has ls 2 [(0, .ref (a o)), (1, .int x1)] := hl
  obtain ⟨r, hr⟩ : ∃ r, f_X5_refuse w x1 = some r ∧ r = out := ⟨out, hf, rfl⟩
  replace hf := hr.1
  have hF := hr.2
  clear hr
  unfold f_X5_refuse at hf
  refine lv_aload_n hx hb dX5_refuse_0 rfl (lv_at hl 0 rfl) ?_
  refine lv_iload_n hx hb dX5_refuse_1 rfl (lv_at hl 1 rfl) ?_
  refine k_put C0 hW 5 7 0 rfl (by decide) inX5 tyX5_ok nmX5 mf_X5_266 rfl rfl rfl rfl (Nat.le_of_ble_eq_true rfl) dX5_refuse_2 (fun H locs hW => ?_)
  have hW : Wd G A s.heap H (bWw G a o (ww_set_findingLast w x1)) locs := hW
  refine lv_aload_n hx hb dX5_refuse_5 rfl (lv_at hl 0 rfl) ?_
  refine k_get C0 hW 5 6 0 (v := .ref (a (o + 1))) rfl (by decide) inX5 mf_X5_56 rfl rfl dX5_refuse_6 ?_
  refine lv_iload_n hx hb dX5_refuse_9 rfl (lv_at hl 1 rfl) ?_
  refine lv_dup2_11 hx hb dX5_refuse_10 rfl rfl ?_
  have g11_1 := (gd_some hf).1; replace hf := (gd_some hf).2
  refine k_iald C0 hW 1 (ix x1) rfl (inb_in g11_1) rfl dX5_refuse_11 ?_
  refine lv_iconst (v := 1) hx hb dX5_refuse_12 (by decide) ?_
  refine lv_iadd hx hb dX5_refuse_13 ?_
  have g14_2 := (gd_some hf).1; replace hf := (gd_some hf).2
  refine k_iast C0 hW 1 (ix x1) rfl (inb_in g14_2) rfl dX5_refuse_14 (fun H locs hW => ?_)
  have hW : Wd G A s.heap H (bWw G a o (ww_set_findingLast (ww_set_tallies w (upd (ww_tallies w) (ix x1) (((ww_tallies w) (ix x1)) + (1 : Int32)))) x1)) locs := hW
  refine lv_bipush (v := -3) hx hb dX5_refuse_15 (by decide) ?_
  have e1 := Option.some.inj hf
  subst e1
  have hF : (((-3 : Int32), (ww_set_findingLast (ww_set_tallies w (upd (ww_tallies w) (ix x1) (((ww_tallies w) (ix x1)) + (1 : Int32)))) x1)) : Int32 × Ww) = out := hF
  subst hF
  exact k_iret C0 hW dX5_refuse_17

def f_X5_refuseMissing_rows (w : Ww) (x2 : Int32) : Option (Int32 × Ww) :=
  Option.bind (f_X3_isNumber 6 40 (ww_rows w) x2) (fun q2 => if q2 = 0 then (some ((-1 : Int32), w)) else (Option.bind (f_X3_isMissing 6 40 (ww_rows w) x2) (fun q12 => if q12 = 0 then (some ((0 : Int32), w)) else (Option.bind (f_X5_refuse w (1 : Int32)) (fun q20 => some (q20.1, q20.2))))))
set_option maxRecDepth 100000 in
set_option maxHeartbeats 8000000 in
theorem c_X5_refuseMissing_rows (l : Launch) (G : GG) (a : Nat → Nat) (o : Nat) (w : Ww) (x2 : Int32) (out : Int32 × Ww) (hf : f_X5_refuseMissing_rows w x2 = some out) : Cn l G 1 yX5_refuseMissing cX5_refuseMissing 3 (some .int) [.ref (a o), .ref (a (o + 3)), .int x2] (bWw G a o w) (some (.int out.1)) (bWw G a o out.2) := by
  refine cn_start (by decide) (Nat.le_of_ble_eq_true rfl) ?_
  intro p e s m below meth c A ls C0 hW hl
  have hx := C0.1
  have hb := C0.2.1
  have hl : lv_has ls 3 [(0, .ref (a o)), (1, .ref (a (o + 3))), (2, .int x2)] := hl
  obtain ⟨r, hr⟩ : ∃ r, f_X5_refuseMissing_rows w x2 = some r ∧ r = out := ⟨out, hf, rfl⟩
  replace hf := hr.1
  have hF := hr.2
  clear hr
  unfold f_X5_refuseMissing_rows at hf
  refine lv_aload_n hx hb dX5_refuseMissing_0 rfl (lv_at hl 1 rfl) ?_
  refine lv_iload_n hx hb dX5_refuseMissing_1 rfl (lv_at hl 2 rfl) ?_
  obtain ⟨q2, hq2⟩ := ob_s hf
  replace hf := hq2.2
  replace hq2 := hq2.1
  refine bV1 (rest := []) (bs := bsWw G a o w) (bs1 := bsWw G a o w) (st1 := [.int q2]) C0 hW hl.1 (c_X3_isNumber l G a (o + 3) 6 40 (ww_rows w) x2 _ hq2) cb_X3_isNumber mm_X5_92 ([1, 2, 3, 4, 5, 6, 7]) ([0, 8, 9, 10, 11, 12, 13, 14, 15, 16, 17, 18, 19, 20, 21, 22, 23, 24]) (ap_1_2_3_4_5_6_7) (ac_1_2_3_4_5_6_7 (w := w)) (ac_1_2_3_4_5_6_7 (w := w)) rfl rfl rfl 0 3 rfl rfl rfl (by decide) rfl rfl (Nat.le_of_ble_eq_true rfl) ⟨Nat.zero_le _, Nat.zero_le _⟩ dX5_refuseMissing_2 rfl (fun H locs hW => ?_)
  refine lv_if_ne (tgt := 10) hx hb dX5_refuseMissing_5 (by decide) (fun c5_1 => ?_) (fun c5_1 => ?_)
  · replace hf := if_f c5_1 hf
    refine lv_aload_n hx hb dX5_refuseMissing_10 rfl (lv_at hl 1 rfl) ?_
    refine lv_iload_n hx hb dX5_refuseMissing_11 rfl (lv_at hl 2 rfl) ?_
    obtain ⟨q12, hq12⟩ := ob_s hf
    replace hf := hq12.2
    replace hq12 := hq12.1
    refine bV1 (rest := []) (bs := bsWw G a o w) (bs1 := bsWw G a o w) (st1 := [.int q12]) C0 hW hl.1 (c_X3_isMissing l G a (o + 3) 6 40 (ww_rows w) x2 _ hq12) cb_X3_isMissing mm_X5_99 ([1, 2, 3, 4, 5, 6, 7]) ([0, 8, 9, 10, 11, 12, 13, 14, 15, 16, 17, 18, 19, 20, 21, 22, 23, 24]) (ap_1_2_3_4_5_6_7) (ac_1_2_3_4_5_6_7 (w := w)) (ac_1_2_3_4_5_6_7 (w := w)) rfl rfl rfl 0 3 rfl rfl rfl (by decide) rfl rfl (Nat.le_of_ble_eq_true rfl) ⟨Nat.zero_le _, Nat.zero_le _⟩ dX5_refuseMissing_12 rfl (fun H locs hW => ?_)
    refine lv_if_eq (tgt := 26) hx hb dX5_refuseMissing_15 (by decide) (fun c15_2 => ?_) (fun c15_2 => ?_)
    · replace hf := if_t c15_2 hf
      refine lv_iconst (v := 0) hx hb dX5_refuseMissing_26 (by decide) ?_
      have e1 := Option.some.inj hf
      subst e1
      have hF : (((0 : Int32), w) : Int32 × Ww) = out := hF
      subst hF
      exact k_iret C0 hW dX5_refuseMissing_27
    · replace hf := if_f c15_2 hf
      refine lv_aload_n hx hb dX5_refuseMissing_18 rfl (lv_at hl 0 rfl) ?_
      refine lv_iconst (v := 1) hx hb dX5_refuseMissing_19 (by decide) ?_
      obtain ⟨q20, hq20⟩ := ob_s hf
      replace hf := hq20.2
      replace hq20 := hq20.1
      refine cW1 (rest := []) (ws1 := (bWw G a o q20.2)) (st1 := [.int q20.1]) C0 hW hl.1 (c_X5_refuse l G a o w (1 : Int32) _ hq20) cb_X5_refuse mm_X5_96 fst_Ww 0 5 rfl rfl rfl (by decide) rfl rfl (Nat.le_of_ble_eq_true rfl) ⟨Nat.zero_le _, Nat.zero_le _⟩ dX5_refuseMissing_20 rfl (fun H locs hW => ?_)
      refine lv_goto (tgt := 27) hx hb dX5_refuseMissing_23 (by decide) ?_
      have e1 := Option.some.inj hf
      subst e1
      have hF : ((q20.1, q20.2) : Int32 × Ww) = out := hF
      subst hF
      exact k_iret C0 hW dX5_refuseMissing_27
  · replace hf := if_t c5_1 hf
    refine lv_iconst (v := -1) hx hb dX5_refuseMissing_8 (by decide) ?_
    have e1 := Option.some.inj hf
    subst e1
    have hF : (((-1 : Int32), w) : Int32 × Ww) = out := hF
    subst hF
    exact k_iret C0 hW dX5_refuseMissing_9

def f_X5_refusePlace_rows (w : Ww) (x2 : Int32) (x3 : Int32) : Option (Int32 × Ww) :=
  Option.bind (f_X5_refuseMissing_rows w x2) (fun q3 => if q3.1 = 0 then (Option.bind (f_X3_isPlace 6 40 (ww_rows q3.2) x2 x3) (fun q19 => if q19 = 0 then (Option.bind (f_X5_refuse q3.2 (2 : Int32)) (fun q31 => some (q31.1, q31.2))) else (some ((0 : Int32), q3.2)))) else (some (q3.1, q3.2)))
set_option maxRecDepth 100000 in
set_option maxHeartbeats 8000000 in
theorem c_X5_refusePlace_rows (l : Launch) (G : GG) (a : Nat → Nat) (o : Nat) (w : Ww) (x2 : Int32) (x3 : Int32) (out : Int32 × Ww) (hf : f_X5_refusePlace_rows w x2 x3 = some out) : Cn l G 2 yX5_refusePlace cX5_refusePlace 5 (some .int) [.ref (a o), .ref (a (o + 3)), .int x2, .int x3] (bWw G a o w) (some (.int out.1)) (bWw G a o out.2) := by
  refine cn_start (by decide) (Nat.le_of_ble_eq_true rfl) ?_
  intro p e s m below meth c A ls C0 hW hl
  have hx := C0.1
  have hb := C0.2.1
  have hl : lv_has ls 5 [(0, .ref (a o)), (1, .ref (a (o + 3))), (2, .int x2), (3, .int x3)] := hl
  obtain ⟨r, hr⟩ : ∃ r, f_X5_refusePlace_rows w x2 x3 = some r ∧ r = out := ⟨out, hf, rfl⟩
  replace hf := hr.1
  have hF := hr.2
  clear hr
  unfold f_X5_refusePlace_rows at hf
  refine lv_aload_n hx hb dX5_refusePlace_0 rfl (lv_at hl 0 rfl) ?_
  refine lv_aload_n hx hb dX5_refusePlace_1 rfl (lv_at hl 1 rfl) ?_
  refine lv_iload_n hx hb dX5_refusePlace_2 rfl (lv_at hl 2 rfl) ?_
  obtain ⟨q3, hq3⟩ := ob_s hf
  replace hf := hq3.2
  replace hq3 := hq3.1
  refine cW1 (rest := []) (ws1 := (bWw G a o q3.2)) (st1 := [.int q3.1]) C0 hW hl.1 (c_X5_refuseMissing_rows l G a o w x2 _ hq3) cb_X5_refuseMissing mm_X5_84 fst_Ww 0 5 rfl rfl rfl (by decide) rfl rfl (Nat.le_of_ble_eq_true rfl) ⟨Nat.zero_le _, Nat.zero_le _⟩ dX5_refusePlace_3 rfl (fun H locs hW => ?_)
  refine lv_istore (lv' := [(4, .int q3.1), (0, .ref (a o)), (1, .ref (a (o + 3))), (2, .int x2), (3, .int x3)]) hx hb dX5_refusePlace_6 hl (by decide) rfl (fun ls hl => ?_)
  refine lv_iload hx hb dX5_refusePlace_8 (lv_at hl 0 rfl) ?_
  refine lv_if_eq (tgt := 16) hx hb dX5_refusePlace_10 (by decide) (fun c10_1 => ?_) (fun c10_1 => ?_)
  · replace hf := if_t c10_1 hf
    refine lv_aload_n hx hb dX5_refusePlace_16 rfl (lv_at hl 2 rfl) ?_
    refine lv_iload_n hx hb dX5_refusePlace_17 rfl (lv_at hl 3 rfl) ?_
    refine lv_iload_n hx hb dX5_refusePlace_18 rfl (lv_at hl 4 rfl) ?_
    obtain ⟨q19, hq19⟩ := ob_s hf
    replace hf := hq19.2
    replace hq19 := hq19.1
    refine bV1 (rest := []) (bs := bsWw G a o q3.2) (bs1 := bsWw G a o q3.2) (st1 := [.int q19]) C0 hW hl.1 (c_X3_isPlace l G a (o + 3) 6 40 (ww_rows q3.2) x2 x3 _ hq19) cb_X3_isPlace mm_X5_278 ([1, 2, 3, 4, 5, 6, 7]) ([0, 8, 9, 10, 11, 12, 13, 14, 15, 16, 17, 18, 19, 20, 21, 22, 23, 24]) (ap_1_2_3_4_5_6_7) (ac_1_2_3_4_5_6_7 (w := q3.2)) (ac_1_2_3_4_5_6_7 (w := q3.2)) rfl rfl rfl 0 3 rfl rfl rfl (by decide) rfl rfl (Nat.le_of_ble_eq_true rfl) ⟨Nat.zero_le _, Nat.zero_le _⟩ dX5_refusePlace_19 rfl (fun H locs hW => ?_)
    refine lv_if_eq (tgt := 29) hx hb dX5_refusePlace_22 (by decide) (fun c22_2 => ?_) (fun c22_2 => ?_)
    · replace hf := if_t c22_2 hf
      refine lv_aload_n hx hb dX5_refusePlace_29 rfl (lv_at hl 1 rfl) ?_
      refine lv_iconst (v := 2) hx hb dX5_refusePlace_30 (by decide) ?_
      obtain ⟨q31, hq31⟩ := ob_s hf
      replace hf := hq31.2
      replace hq31 := hq31.1
      refine cW1 (rest := []) (ws1 := (bWw G a o q31.2)) (st1 := [.int q31.1]) C0 hW hl.1 (c_X5_refuse l G a o q3.2 (2 : Int32) _ hq31) cb_X5_refuse mm_X5_96 fst_Ww 0 5 rfl rfl rfl (by decide) rfl rfl (Nat.le_of_ble_eq_true rfl) ⟨Nat.zero_le _, Nat.zero_le _⟩ dX5_refusePlace_31 rfl (fun H locs hW => ?_)
      have e1 := Option.some.inj hf
      subst e1
      have hF : ((q31.1, q31.2) : Int32 × Ww) = out := hF
      subst hF
      exact k_iret C0 hW dX5_refusePlace_34
    · replace hf := if_f c22_2 hf
      refine lv_iconst (v := 0) hx hb dX5_refusePlace_25 (by decide) ?_
      refine lv_goto (tgt := 34) hx hb dX5_refusePlace_26 (by decide) ?_
      have e1 := Option.some.inj hf
      subst e1
      have hF : (((0 : Int32), q3.2) : Int32 × Ww) = out := hF
      subst hF
      exact k_iret C0 hW dX5_refusePlace_34
  · replace hf := if_f c10_1 hf
    refine lv_iload hx hb dX5_refusePlace_13 (lv_at hl 0 rfl) ?_
    have e1 := Option.some.inj hf
    subst e1
    have hF : ((q3.1, q3.2) : Int32 × Ww) = out := hF
    subst hF
    exact k_iret C0 hW dX5_refusePlace_15

def f_X5_tell (w : Ww) (x1 : Int32) : Option (Int32 × Ww) :=
  some ((1 : Int32), (ww_set_askedLast w x1))
set_option maxRecDepth 100000 in
set_option maxHeartbeats 8000000 in
theorem c_X5_tell (l : Launch) (G : GG) (a : Nat → Nat) (o : Nat) (w : Ww) (x1 : Int32) (out : Int32 × Ww) (hf : f_X5_tell w x1 = some out) : Cn l G 0 yX5_tell cX5_tell 2 (some .int) [.ref (a o), .int x1] (bWw G a o w) (some (.int out.1)) (bWw G a o out.2) := by
  refine cn_start (by decide) (Nat.le_of_ble_eq_true rfl) ?_
  intro p e s m below meth c A ls C0 hW hl
  have hx := C0.1
  have hb := C0.2.1
  have hl : lv_has ls 2 [(0, .ref (a o)), (1, .int x1)] := hl
  obtain ⟨r, hr⟩ : ∃ r, f_X5_tell w x1 = some r ∧ r = out := ⟨out, hf, rfl⟩
  replace hf := hr.1
  have hF := hr.2
  clear hr
  unfold f_X5_tell at hf
  refine lv_aload_n hx hb dX5_tell_0 rfl (lv_at hl 0 rfl) ?_
  refine lv_iload_n hx hb dX5_tell_1 rfl (lv_at hl 1 rfl) ?_
  refine k_put C0 hW 5 8 0 rfl (by decide) inX5 tyX5_ok nmX5 mf_X5_257 rfl rfl rfl rfl (Nat.le_of_ble_eq_true rfl) dX5_tell_2 (fun H locs hW => ?_)
  have hW : Wd G A s.heap H (bWw G a o (ww_set_askedLast w x1)) locs := hW
  refine lv_iconst (v := 1) hx hb dX5_tell_5 (by decide) ?_
  have e1 := Option.some.inj hf
  subst e1
  have hF : (((1 : Int32), (ww_set_askedLast w x1)) : Int32 × Ww) = out := hF
  subst hF
  exact k_iret C0 hW dX5_tell_6

def f_X5_at (w : Ww) (x1 : Int32) (x2 : Int32) : Option (Int32 × Ww) :=
  Option.bind (f_X5_refusePlace_rows w x1 x2) (fun q7 => if q7.1 = 0 then (Option.bind (f_X3_get 6 40 (ww_rows q7.2) x1 x2) (fun q24 => Option.bind (f_X5_tell q7.2 q24) (fun q27 => some (q27.1, q27.2)))) else (some (q7.1, q7.2)))
set_option maxRecDepth 100000 in
set_option maxHeartbeats 8000000 in
theorem c_X5_at (l : Launch) (G : GG) (a : Nat → Nat) (o : Nat) (w : Ww) (x1 : Int32) (x2 : Int32) (out : Int32 × Ww) (hf : f_X5_at w x1 x2 = some out) : Cn l G 3 yX5_at cX5_at 4 (some .int) [.ref (a o), .int x1, .int x2] (bWw G a o w) (some (.int out.1)) (bWw G a o out.2) := by
  refine cn_start (by decide) (Nat.le_of_ble_eq_true rfl) ?_
  intro p e s m below meth c A ls C0 hW hl
  have hx := C0.1
  have hb := C0.2.1
  have hl : lv_has ls 4 [(0, .ref (a o)), (1, .int x1), (2, .int x2)] := hl
  obtain ⟨r, hr⟩ : ∃ r, f_X5_at w x1 x2 = some r ∧ r = out := ⟨out, hf, rfl⟩
  replace hf := hr.1
  have hF := hr.2
  clear hr
  unfold f_X5_at at hf
  refine lv_aload_n hx hb dX5_at_0 rfl (lv_at hl 0 rfl) ?_
  refine lv_aload_n hx hb dX5_at_1 rfl (lv_at hl 0 rfl) ?_
  refine k_get C0 hW 5 0 0 (v := .ref (a (o + 3))) rfl (by decide) inX5 mf_X5_14 rfl rfl dX5_at_2 ?_
  refine lv_iload_n hx hb dX5_at_5 rfl (lv_at hl 1 rfl) ?_
  refine lv_iload_n hx hb dX5_at_6 rfl (lv_at hl 2 rfl) ?_
  obtain ⟨q7, hq7⟩ := ob_s hf
  replace hf := hq7.2
  replace hq7 := hq7.1
  refine cW1 (rest := []) (ws1 := (bWw G a o q7.2)) (st1 := [.int q7.1]) C0 hW hl.1 (c_X5_refusePlace_rows l G a o w x1 x2 _ hq7) cb_X5_refusePlace mm_X5_68 fst_Ww 0 5 rfl rfl rfl (by decide) rfl rfl (Nat.le_of_ble_eq_true rfl) ⟨Nat.zero_le _, Nat.zero_le _⟩ dX5_at_7 rfl (fun H locs hW => ?_)
  refine lv_istore_n (lv' := [(3, .int q7.1), (0, .ref (a o)), (1, .int x1), (2, .int x2)]) hx hb dX5_at_10 rfl hl (by decide) rfl (fun ls hl => ?_)
  refine lv_iload_n hx hb dX5_at_11 rfl (lv_at hl 0 rfl) ?_
  refine lv_if_eq (tgt := 17) hx hb dX5_at_12 (by decide) (fun c12_1 => ?_) (fun c12_1 => ?_)
  · replace hf := if_t c12_1 hf
    refine lv_aload_n hx hb dX5_at_17 rfl (lv_at hl 1 rfl) ?_
    refine lv_aload_n hx hb dX5_at_18 rfl (lv_at hl 1 rfl) ?_
    refine k_get C0 hW 5 0 0 (v := .ref (a (o + 3))) rfl (by decide) inX5 mf_X5_14 rfl rfl dX5_at_19 ?_
    refine lv_iload_n hx hb dX5_at_22 rfl (lv_at hl 2 rfl) ?_
    refine lv_iload_n hx hb dX5_at_23 rfl (lv_at hl 3 rfl) ?_
    obtain ⟨q24, hq24⟩ := ob_s hf
    replace hf := hq24.2
    replace hq24 := hq24.1
    refine bV1 (rest := [.ref (a o)]) (bs := bsWw G a o q7.2) (bs1 := bsWw G a o q7.2) (st1 := [.int q24, .ref (a o)]) C0 hW hl.1 (c_X3_get l G a (o + 3) 6 40 (ww_rows q7.2) x1 x2 _ hq24) cb_X3_get mm_X5_80 ([1, 2, 3, 4, 5, 6, 7]) ([0, 8, 9, 10, 11, 12, 13, 14, 15, 16, 17, 18, 19, 20, 21, 22, 23, 24]) (ap_1_2_3_4_5_6_7) (ac_1_2_3_4_5_6_7 (w := q7.2)) (ac_1_2_3_4_5_6_7 (w := q7.2)) rfl rfl rfl 0 3 rfl rfl rfl (by decide) rfl rfl (Nat.le_of_ble_eq_true rfl) ⟨Nat.zero_le _, Nat.zero_le _⟩ dX5_at_24 rfl (fun H locs hW => ?_)
    obtain ⟨q27, hq27⟩ := ob_s hf
    replace hf := hq27.2
    replace hq27 := hq27.1
    refine cW1 (rest := []) (ws1 := (bWw G a o q27.2)) (st1 := [.int q27.1]) C0 hW hl.1 (c_X5_tell l G a o q7.2 q24 _ hq27) cb_X5_tell mm_X5_76 fst_Ww 0 5 rfl rfl rfl (by decide) rfl rfl (Nat.le_of_ble_eq_true rfl) ⟨Nat.zero_le _, Nat.zero_le _⟩ dX5_at_27 rfl (fun H locs hW => ?_)
    have e1 := Option.some.inj hf
    subst e1
    have hF : ((q27.1, q27.2) : Int32 × Ww) = out := hF
    subst hF
    exact k_iret C0 hW dX5_at_30
  · replace hf := if_f c12_1 hf
    refine lv_iload_n hx hb dX5_at_15 rfl (lv_at hl 0 rfl) ?_
    have e1 := Option.some.inj hf
    subst e1
    have hF : ((q7.1, q7.2) : Int32 × Ww) = out := hF
    subst hF
    exact k_iret C0 hW dX5_at_16

def f_X5_bears (w : Ww) (x1 : Int32) (x2 : Int32) (x3 : Int32) : Option (Int32) :=
  Option.bind (f_X4_isSpoke (ct_wheel (ww_cart w)) x1) (fun q8 => if q8 = 0 then (some (-1 : Int32)) else (if x2 < 0 then (some (-1 : Int32)) else (if (9 : Int32) < x2 then (some (-1 : Int32)) else (if x3 < 0 then (some (-1 : Int32)) else (if x3 ≤ (30 : Int32) then (gd (inb x1 8) (gd (inb x1 8) (Option.bind (f_X5_bearing ((wh_kind (ct_wheel (ww_cart w))) (ix x1)) ((wh_strong (ct_wheel (ww_cart w))) (ix x1)) x3 x2 (wh_dry (ct_wheel (ww_cart w)))) (fun q72 => some q72)))) else (some (-1 : Int32)))))))
set_option maxRecDepth 100000 in
set_option maxHeartbeats 8000000 in
theorem c_X5_bears (l : Launch) (G : GG) (a : Nat → Nat) (o : Nat) (w : Ww) (x1 : Int32) (x2 : Int32) (x3 : Int32) (out : Int32) (hf : f_X5_bears w x1 x2 x3 = some out) : Cn l G 2 yX5_bears cX5_bears 4 (some .int) [.ref (a o), .int x1, .int x2, .int x3] (bWw G a o w) (some (.int out)) (bWw G a o w) := by
  refine cn_start (by decide) (Nat.le_of_ble_eq_true rfl) ?_
  intro p e s m below meth c A ls C0 hW hl
  have hx := C0.1
  have hb := C0.2.1
  have hl : lv_has ls 4 [(0, .ref (a o)), (1, .int x1), (2, .int x2), (3, .int x3)] := hl
  obtain ⟨r, hr⟩ : ∃ r, f_X5_bears w x1 x2 x3 = some r ∧ r = out := ⟨out, hf, rfl⟩
  replace hf := hr.1
  have hF := hr.2
  clear hr
  unfold f_X5_bears at hf
  refine lv_aload_n hx hb dX5_bears_0 rfl (lv_at hl 0 rfl) ?_
  refine k_get C0 hW 5 3 0 (v := .ref (a (o + 27))) rfl (by decide) inX5 mf_X5_31 rfl rfl dX5_bears_1 ?_
  refine k_get C0 hW 1 0 27 (v := .ref (a (o + 30))) rfl (by decide) inX1 mf_X5_45 rfl rfl dX5_bears_4 ?_
  refine lv_iload_n hx hb dX5_bears_7 rfl (lv_at hl 1 rfl) ?_
  obtain ⟨q8, hq8⟩ := ob_s hf
  replace hf := hq8.2
  replace hq8 := hq8.1
  refine bV1 (rest := []) (bs := bsWw G a o w) (bs1 := bsWw G a o w) (st1 := [.int q8]) C0 hW hl.1 (c_X4_isSpoke l G a (o + 30) (ct_wheel (ww_cart w)) x1 _ hq8) cb_X4_isSpoke mm_X5_136 ([16]) ([0, 1, 2, 3, 4, 5, 6, 7, 8, 9, 10, 11, 12, 13, 14, 15, 17, 18, 19, 20, 21, 22, 23, 24]) (ap_16) (ac_16 (w := w)) (ac_16 (w := w)) rfl rfl rfl 0 4 rfl rfl rfl (by decide) rfl rfl (Nat.le_of_ble_eq_true rfl) ⟨Nat.zero_le _, Nat.zero_le _⟩ dX5_bears_8 rfl (fun H locs hW => ?_)
  refine lv_if_eq (tgt := 34) hx hb dX5_bears_11 (by decide) (fun c11_1 => ?_) (fun c11_1 => ?_)
  · replace hf := if_t c11_1 hf
    refine lv_iconst (v := -1) hx hb dX5_bears_34 (by decide) ?_
    have e1 := Option.some.inj hf
    subst e1
    have hF : ((-1 : Int32) : Int32) = out := hF
    subst hF
    exact k_iret C0 hW dX5_bears_35
  · replace hf := if_f c11_1 hf
    refine lv_iload_n hx hb dX5_bears_14 rfl (lv_at hl 2 rfl) ?_
    refine lv_if_lt (tgt := 34) hx hb dX5_bears_15 (by decide) (fun c15_2 => ?_) (fun c15_2 => ?_)
    · replace hf := if_t c15_2 hf
      refine lv_iconst (v := -1) hx hb dX5_bears_34 (by decide) ?_
      have e1 := Option.some.inj hf
      subst e1
      have hF : ((-1 : Int32) : Int32) = out := hF
      subst hF
      exact k_iret C0 hW dX5_bears_35
    · replace hf := if_f c15_2 hf
      refine lv_iload_n hx hb dX5_bears_18 rfl (lv_at hl 2 rfl) ?_
      refine lv_bipush (v := 9) hx hb dX5_bears_19 (by decide) ?_
      refine lv_icmp_gt (tgt := 34) hx hb dX5_bears_21 (by decide) (fun c21_3 => ?_) (fun c21_3 => ?_)
      · replace hf := if_t c21_3 hf
        refine lv_iconst (v := -1) hx hb dX5_bears_34 (by decide) ?_
        have e1 := Option.some.inj hf
        subst e1
        have hF : ((-1 : Int32) : Int32) = out := hF
        subst hF
        exact k_iret C0 hW dX5_bears_35
      · replace hf := if_f c21_3 hf
        refine lv_iload_n hx hb dX5_bears_24 rfl (lv_at hl 3 rfl) ?_
        refine lv_if_lt (tgt := 34) hx hb dX5_bears_25 (by decide) (fun c25_4 => ?_) (fun c25_4 => ?_)
        · replace hf := if_t c25_4 hf
          refine lv_iconst (v := -1) hx hb dX5_bears_34 (by decide) ?_
          have e1 := Option.some.inj hf
          subst e1
          have hF : ((-1 : Int32) : Int32) = out := hF
          subst hF
          exact k_iret C0 hW dX5_bears_35
        · replace hf := if_f c25_4 hf
          refine lv_iload_n hx hb dX5_bears_28 rfl (lv_at hl 3 rfl) ?_
          refine lv_bipush (v := 30) hx hb dX5_bears_29 (by decide) ?_
          refine lv_icmp_le (tgt := 36) hx hb dX5_bears_31 (by decide) (fun c31_5 => ?_) (fun c31_5 => ?_)
          · replace hf := if_t c31_5 hf
            refine lv_aload_n hx hb dX5_bears_36 rfl (lv_at hl 0 rfl) ?_
            refine k_get C0 hW 5 3 0 (v := .ref (a (o + 27))) rfl (by decide) inX5 mf_X5_31 rfl rfl dX5_bears_37 ?_
            refine k_get C0 hW 1 0 27 (v := .ref (a (o + 30))) rfl (by decide) inX1 mf_X5_45 rfl rfl dX5_bears_40 ?_
            refine k_get C0 hW 4 1 30 (v := .ref (a (o + 32))) rfl (by decide) inX4 mf_X5_142 rfl rfl dX5_bears_43 ?_
            refine lv_iload_n hx hb dX5_bears_46 rfl (lv_at hl 1 rfl) ?_
            have g47_6 := (gd_some hf).1; replace hf := (gd_some hf).2
            refine k_iald C0 hW 32 (ix x1) rfl (inb_in g47_6) rfl dX5_bears_47 ?_
            refine lv_aload_n hx hb dX5_bears_48 rfl (lv_at hl 0 rfl) ?_
            refine k_get C0 hW 5 3 0 (v := .ref (a (o + 27))) rfl (by decide) inX5 mf_X5_31 rfl rfl dX5_bears_49 ?_
            refine k_get C0 hW 1 0 27 (v := .ref (a (o + 30))) rfl (by decide) inX1 mf_X5_45 rfl rfl dX5_bears_52 ?_
            refine k_get C0 hW 4 3 30 (v := .ref (a (o + 34))) rfl (by decide) inX4 mf_X5_152 rfl rfl dX5_bears_55 ?_
            refine lv_iload_n hx hb dX5_bears_58 rfl (lv_at hl 1 rfl) ?_
            have g59_7 := (gd_some hf).1; replace hf := (gd_some hf).2
            refine k_iald C0 hW 34 (ix x1) rfl (inb_in g59_7) rfl dX5_bears_59 ?_
            refine lv_iload_n hx hb dX5_bears_60 rfl (lv_at hl 3 rfl) ?_
            refine lv_iload_n hx hb dX5_bears_61 rfl (lv_at hl 2 rfl) ?_
            refine lv_aload_n hx hb dX5_bears_62 rfl (lv_at hl 0 rfl) ?_
            refine k_get C0 hW 5 3 0 (v := .ref (a (o + 27))) rfl (by decide) inX5 mf_X5_31 rfl rfl dX5_bears_63 ?_
            refine k_get C0 hW 1 0 27 (v := .ref (a (o + 30))) rfl (by decide) inX1 mf_X5_45 rfl rfl dX5_bears_66 ?_
            refine k_get C0 hW 4 10 30 (v := .int (wh_dry (ct_wheel (ww_cart w)))) rfl (by decide) inX4 mf_X5_155 rfl rfl dX5_bears_69 ?_
            obtain ⟨q72, hq72⟩ := ob_s hf
            replace hf := hq72.2
            replace hq72 := hq72.1
            refine cS0 (rest := []) (st1 := [.int q72]) C0 hW hl.1 (c_X5_bearing l G ((wh_kind (ct_wheel (ww_cart w))) (ix x1)) ((wh_strong (ct_wheel (ww_cart w))) (ix x1)) x3 x2 (wh_dry (ct_wheel (ww_cart w))) _ hq72) cb_X5_bearing mm_X5_159 [] rfl rfl (by decide) rfl rfl (Nat.le_of_ble_eq_true rfl) ⟨Nat.zero_le _, Nat.zero_le _⟩ dX5_bears_72 rfl (fun H locs hW => ?_)
            have e1 := Option.some.inj hf
            subst e1
            have hF : (q72 : Int32) = out := hF
            subst hF
            exact k_iret C0 hW dX5_bears_75
          · replace hf := if_f c31_5 hf
            refine lv_iconst (v := -1) hx hb dX5_bears_34 (by decide) ?_
            have e1 := Option.some.inj hf
            subst e1
            have hF : ((-1 : Int32) : Int32) = out := hF
            subst hF
            exact k_iret C0 hW dX5_bears_35

def f_X5_tellBeside (w : Ww) (x1 : Int32) : Option (Int32 × Ww) :=
  if x1 = (-9 : Int32) then (some (x1, w)) else (some (x1, (ww_set_askedLast w (as_found (ww_aside w)))))
set_option maxRecDepth 100000 in
set_option maxHeartbeats 8000000 in
theorem c_X5_tellBeside (l : Launch) (G : GG) (a : Nat → Nat) (o : Nat) (w : Ww) (x1 : Int32) (out : Int32 × Ww) (hf : f_X5_tellBeside w x1 = some out) : Cn l G 0 yX5_tellBeside cX5_tellBeside 2 (some .int) [.ref (a o), .int x1] (bWw G a o w) (some (.int out.1)) (bWw G a o out.2) := by
  refine cn_start (by decide) (Nat.le_of_ble_eq_true rfl) ?_
  intro p e s m below meth c A ls C0 hW hl
  have hx := C0.1
  have hb := C0.2.1
  have hl : lv_has ls 2 [(0, .ref (a o)), (1, .int x1)] := hl
  obtain ⟨r, hr⟩ : ∃ r, f_X5_tellBeside w x1 = some r ∧ r = out := ⟨out, hf, rfl⟩
  replace hf := hr.1
  have hF := hr.2
  clear hr
  unfold f_X5_tellBeside at hf
  refine lv_iload_n hx hb dX5_tellBeside_0 rfl (lv_at hl 1 rfl) ?_
  refine lv_bipush (v := -9) hx hb dX5_tellBeside_1 (by decide) ?_
  refine lv_icmp_eq (tgt := 17) hx hb dX5_tellBeside_3 (by decide) (fun c3_1 => ?_) (fun c3_1 => ?_)
  · replace hf := if_t c3_1 hf
    refine lv_iload_n hx hb dX5_tellBeside_17 rfl (lv_at hl 1 rfl) ?_
    have e1 := Option.some.inj hf
    subst e1
    have hF : ((x1, w) : Int32 × Ww) = out := hF
    subst hF
    exact k_iret C0 hW dX5_tellBeside_18
  · replace hf := if_f c3_1 hf
    refine lv_aload_n hx hb dX5_tellBeside_6 rfl (lv_at hl 0 rfl) ?_
    refine lv_aload_n hx hb dX5_tellBeside_7 rfl (lv_at hl 0 rfl) ?_
    refine k_get C0 hW 5 5 0 (v := .ref (a (o + 63))) rfl (by decide) inX5 mf_X5_52 rfl rfl dX5_tellBeside_8 ?_
    refine k_get C0 hW 0 0 63 (v := .int (as_found (ww_aside w))) rfl (by decide) inX0 mf_X5_287 rfl rfl dX5_tellBeside_11 ?_
    refine k_put C0 hW 5 8 0 rfl (by decide) inX5 tyX5_ok nmX5 mf_X5_257 rfl rfl rfl rfl (Nat.le_of_ble_eq_true rfl) dX5_tellBeside_14 (fun H locs hW => ?_)
    have hW : Wd G A s.heap H (bWw G a o (ww_set_askedLast w (as_found (ww_aside w)))) locs := hW
    refine lv_iload_n hx hb dX5_tellBeside_17 rfl (lv_at hl 1 rfl) ?_
    have e1 := Option.some.inj hf
    subst e1
    have hF : ((x1, (ww_set_askedLast w (as_found (ww_aside w)))) : Int32 × Ww) = out := hF
    subst hF
    exact k_iret C0 hW dX5_tellBeside_18

def f_X5_change (w : Ww) : Option (Int32 × Ww) :=
  Option.bind (f_X4_isEmpty (ct_wheel (ww_cart w))) (fun q7 => if q7 = 0 then (Option.bind (f_X0_bestChange (ww_aside w) (ct_wheel (ww_cart w))) (fun q23 => Option.bind (f_X5_tellBeside (ww_set_aside w q23.2) q23.1) (fun q26 => some (q26.1, q26.2)))) else (some ((-4 : Int32), w)))
set_option maxRecDepth 100000 in
set_option maxHeartbeats 8000000 in
theorem c_X5_change (l : Launch) (G : GG) (a : Nat → Nat) (o : Nat) (w : Ww) (out : Int32 × Ww) (hf : f_X5_change w = some out) : Cn l G 5 yX5_change cX5_change 1 (some .int) [.ref (a o)] (bWw G a o w) (some (.int out.1)) (bWw G a o out.2) := by
  refine cn_start (by decide) (Nat.le_of_ble_eq_true rfl) ?_
  intro p e s m below meth c A ls C0 hW hl
  have hx := C0.1
  have hb := C0.2.1
  have hl : lv_has ls 1 [(0, .ref (a o))] := hl
  obtain ⟨r, hr⟩ : ∃ r, f_X5_change w = some r ∧ r = out := ⟨out, hf, rfl⟩
  replace hf := hr.1
  have hF := hr.2
  clear hr
  unfold f_X5_change at hf
  refine lv_aload_n hx hb dX5_change_0 rfl (lv_at hl 0 rfl) ?_
  refine k_get C0 hW 5 3 0 (v := .ref (a (o + 27))) rfl (by decide) inX5 mf_X5_31 rfl rfl dX5_change_1 ?_
  refine k_get C0 hW 1 0 27 (v := .ref (a (o + 30))) rfl (by decide) inX1 mf_X5_45 rfl rfl dX5_change_4 ?_
  obtain ⟨q7, hq7⟩ := ob_s hf
  replace hf := hq7.2
  replace hq7 := hq7.1
  refine bV1 (rest := []) (bs := bsWw G a o w) (bs1 := bsWw G a o w) (st1 := [.int q7]) C0 hW hl.1 (c_X4_isEmpty l G a (o + 30) (ct_wheel (ww_cart w)) _ hq7) cb_X4_isEmpty mm_X5_163 ([16]) ([0, 1, 2, 3, 4, 5, 6, 7, 8, 9, 10, 11, 12, 13, 14, 15, 17, 18, 19, 20, 21, 22, 23, 24]) (ap_16) (ac_16 (w := w)) (ac_16 (w := w)) rfl rfl rfl 0 4 rfl rfl rfl (by decide) rfl rfl (Nat.le_of_ble_eq_true rfl) ⟨Nat.zero_le _, Nat.zero_le _⟩ dX5_change_7 rfl (fun H locs hW => ?_)
  refine lv_if_eq (tgt := 18) hx hb dX5_change_10 (by decide) (fun c10_1 => ?_) (fun c10_1 => ?_)
  · replace hf := if_t c10_1 hf
    refine lv_aload_n hx hb dX5_change_18 rfl (lv_at hl 0 rfl) ?_
    refine lv_aload_n hx hb dX5_change_19 rfl (lv_at hl 0 rfl) ?_
    refine k_get C0 hW 5 5 0 (v := .ref (a (o + 63))) rfl (by decide) inX5 mf_X5_52 rfl rfl dX5_change_20 ?_
    obtain ⟨q23, hq23⟩ := ob_s hf
    replace hf := hq23.2
    replace hq23 := hq23.1
    refine bV1 (rest := [.ref (a o)]) (bs := bsWw G a o w) (bs1 := bsWw G a o (ww_set_aside w q23.2)) (st1 := [.int q23.1, .ref (a o)]) C0 hW hl.1 (c_X0_bestChange l G a (o + 63) a (o + 30) (ww_aside w) (ct_wheel (ww_cart w)) _ hq23) cb_X0_bestChange mm_X5_206 ([23, 24, 16]) ([0, 1, 2, 3, 4, 5, 6, 7, 8, 9, 10, 11, 12, 13, 14, 15, 17, 18, 19, 20, 21, 22]) (ap_23_24_16) (ac_23_24_16 (w := w)) (ad_23_24_16_w (w := w)) (ar_23_24_16_w (w := w)) rfl (as_23_24_16_w (w := w)) 0 0 rfl rfl rfl (by decide) rfl rfl (Nat.le_of_ble_eq_true rfl) ⟨Nat.zero_le _, Nat.zero_le _⟩ dX5_change_23 rfl (fun H locs hW => ?_)
    obtain ⟨q26, hq26⟩ := ob_s hf
    replace hf := hq26.2
    replace hq26 := hq26.1
    refine cW1 (rest := []) (ws1 := (bWw G a o q26.2)) (st1 := [.int q26.1]) C0 hW hl.1 (c_X5_tellBeside l G a o (ww_set_aside w q23.2) q23.1 _ hq26) cb_X5_tellBeside mm_X5_186 fst_Ww 0 5 rfl rfl rfl (by decide) rfl rfl (Nat.le_of_ble_eq_true rfl) ⟨Nat.zero_le _, Nat.zero_le _⟩ dX5_change_26 rfl (fun H locs hW => ?_)
    have e1 := Option.some.inj hf
    subst e1
    have hF : ((q26.1, q26.2) : Int32 × Ww) = out := hF
    subst hF
    exact k_iret C0 hW dX5_change_29
  · replace hf := if_f c10_1 hf
    refine lv_bipush (v := -4) hx hb dX5_change_13 (by decide) ?_
    refine lv_goto (tgt := 29) hx hb dX5_change_15 (by decide) ?_
    have e1 := Option.some.inj hf
    subst e1
    have hF : (((-4 : Int32), w) : Int32 × Ww) = out := hF
    subst hF
    exact k_iret C0 hW dX5_change_29

def f_X5_copy_J57 (w : Ww) : Option (Int32 × Ww) :=
  Option.bind (f_X5_refuse w (1 : Int32)) (fun q59 => some (q59.1, q59.2))
def f_X5_copy_J92 (w : Ww) : Option (Int32 × Ww) :=
  Option.bind (f_X5_refuse w (2 : Int32)) (fun q94 => some (q94.1, q94.2))
def f_X5_copy (w : Ww) (x1 : Int32) (x2 : Int32) (x3 : Int32) (x4 : Int32) (x5 : Int32) : Option (Int32 × Ww) :=
  Option.bind (f_X3_isNumber 6 40 (ww_rows w) x1) (fun q5 => if q5 = 0 then (some ((-1 : Int32), w)) else (Option.bind (f_X3_isNumber 6 40 (ww_rows w) x3) (fun q16 => if q16 = 0 then (some ((-1 : Int32), w)) else (if 0 ≤ x5 then (Option.bind (f_X3_isMissing 6 40 (ww_rows w) x1) (fun q40 => if q40 = 0 then (Option.bind (f_X3_isMissing 6 40 (ww_rows w) x3) (fun q51 => if q51 = 0 then (Option.bind (f_X3_hasPart 6 40 (ww_rows w) x1 x2 x5) (fun q71 => if q71 = 0 then (f_X5_copy_J92 w) else (Option.bind (f_X3_hasPart 6 40 (ww_rows w) x3 x4 x5) (fun q86 => if q86 = 0 then (f_X5_copy_J92 w) else (Option.bind (f_X3_move 6 40 (ww_rows w) x1 x2 x3 x4 x5) (fun q109 => some ((1 : Int32), (ww_set_rows w q109)))))))) else (f_X5_copy_J57 w))) else (f_X5_copy_J57 w))) else (Option.bind (f_X5_refuse w (5 : Int32)) (fun q31 => some (q31.1, q31.2)))))))
set_option maxRecDepth 100000 in
set_option maxHeartbeats 8000000 in
theorem c_X5_copy (l : Launch) (G : GG) (a : Nat → Nat) (o : Nat) (w : Ww) (x1 : Int32) (x2 : Int32) (x3 : Int32) (x4 : Int32) (x5 : Int32) (out : Int32 × Ww) (hf : f_X5_copy w x1 x2 x3 x4 x5 = some out) : Cn l G 2 yX5_copy cX5_copy 6 (some .int) [.ref (a o), .int x1, .int x2, .int x3, .int x4, .int x5] (bWw G a o w) (some (.int out.1)) (bWw G a o out.2) := by
  refine cn_start (by decide) (Nat.le_of_ble_eq_true rfl) ?_
  intro p e s m below meth c A ls C0 hW hl
  have hx := C0.1
  have hb := C0.2.1
  have hl : lv_has ls 6 [(0, .ref (a o)), (1, .int x1), (2, .int x2), (3, .int x3), (4, .int x4), (5, .int x5)] := hl
  have J57 : ∀ (w : Ww) (r : Int32 × Ww), f_X5_copy_J57 w = some r → (fun (r : Int32 × Ww) => r = out) r → ∀ (H : Heap) (locs : List Loc) (ls : Array Slot), Wd G A s.heap H (bWw G a o w) locs → lv_has ls 6 [(0, .ref (a o))] → WW p l e 2 s m [.ref (a o), .int x1, .int x2, .int x3, .int x4, .int x5] below meth c G A (some (.int out.1)) ((bWw G a o out.2)) H locs 57 ls [] := by
    intro w r hf hF H locs ls hW hl
    unfold f_X5_copy_J57 at hf
    refine lv_aload_n hx hb dX5_copy_57 rfl (lv_at hl 0 rfl) ?_
    refine lv_iconst (v := 1) hx hb dX5_copy_58 (by decide) ?_
    obtain ⟨q59, hq59⟩ := ob_s hf
    replace hf := hq59.2
    replace hq59 := hq59.1
    refine cW1 (rest := []) (ws1 := (bWw G a o q59.2)) (st1 := [.int q59.1]) C0 hW hl.1 (c_X5_refuse l G a o w (1 : Int32) _ hq59) cb_X5_refuse mm_X5_96 fst_Ww 0 5 rfl rfl rfl (by decide) rfl rfl (Nat.le_of_ble_eq_true rfl) ⟨Nat.zero_le _, Nat.zero_le _⟩ dX5_copy_59 rfl (fun H locs hW => ?_)
    have e1 := Option.some.inj hf
    subst e1
    have hF : ((q59.1, q59.2) : Int32 × Ww) = out := hF
    subst hF
    exact k_iret C0 hW dX5_copy_62
  have J92 : ∀ (w : Ww) (r : Int32 × Ww), f_X5_copy_J92 w = some r → (fun (r : Int32 × Ww) => r = out) r → ∀ (H : Heap) (locs : List Loc) (ls : Array Slot), Wd G A s.heap H (bWw G a o w) locs → lv_has ls 6 [(0, .ref (a o))] → WW p l e 2 s m [.ref (a o), .int x1, .int x2, .int x3, .int x4, .int x5] below meth c G A (some (.int out.1)) ((bWw G a o out.2)) H locs 92 ls [] := by
    intro w r hf hF H locs ls hW hl
    unfold f_X5_copy_J92 at hf
    refine lv_aload_n hx hb dX5_copy_92 rfl (lv_at hl 0 rfl) ?_
    refine lv_iconst (v := 2) hx hb dX5_copy_93 (by decide) ?_
    obtain ⟨q94, hq94⟩ := ob_s hf
    replace hf := hq94.2
    replace hq94 := hq94.1
    refine cW1 (rest := []) (ws1 := (bWw G a o q94.2)) (st1 := [.int q94.1]) C0 hW hl.1 (c_X5_refuse l G a o w (2 : Int32) _ hq94) cb_X5_refuse mm_X5_96 fst_Ww 0 5 rfl rfl rfl (by decide) rfl rfl (Nat.le_of_ble_eq_true rfl) ⟨Nat.zero_le _, Nat.zero_le _⟩ dX5_copy_94 rfl (fun H locs hW => ?_)
    have e1 := Option.some.inj hf
    subst e1
    have hF : ((q94.1, q94.2) : Int32 × Ww) = out := hF
    subst hF
    exact k_iret C0 hW dX5_copy_97
  obtain ⟨r, hr⟩ : ∃ r, f_X5_copy w x1 x2 x3 x4 x5 = some r ∧ r = out := ⟨out, hf, rfl⟩
  replace hf := hr.1
  have hF := hr.2
  clear hr
  unfold f_X5_copy at hf
  refine lv_aload_n hx hb dX5_copy_0 rfl (lv_at hl 0 rfl) ?_
  refine k_get C0 hW 5 0 0 (v := .ref (a (o + 3))) rfl (by decide) inX5 mf_X5_14 rfl rfl dX5_copy_1 ?_
  refine lv_iload_n hx hb dX5_copy_4 rfl (lv_at hl 1 rfl) ?_
  obtain ⟨q5, hq5⟩ := ob_s hf
  replace hf := hq5.2
  replace hq5 := hq5.1
  refine bV1 (rest := []) (bs := bsWw G a o w) (bs1 := bsWw G a o w) (st1 := [.int q5]) C0 hW hl.1 (c_X3_isNumber l G a (o + 3) 6 40 (ww_rows w) x1 _ hq5) cb_X3_isNumber mm_X5_92 ([1, 2, 3, 4, 5, 6, 7]) ([0, 8, 9, 10, 11, 12, 13, 14, 15, 16, 17, 18, 19, 20, 21, 22, 23, 24]) (ap_1_2_3_4_5_6_7) (ac_1_2_3_4_5_6_7 (w := w)) (ac_1_2_3_4_5_6_7 (w := w)) rfl rfl rfl 0 3 rfl rfl rfl (by decide) rfl rfl (Nat.le_of_ble_eq_true rfl) ⟨Nat.zero_le _, Nat.zero_le _⟩ dX5_copy_5 rfl (fun H locs hW => ?_)
  refine lv_if_eq (tgt := 22) hx hb dX5_copy_8 (by decide) (fun c8_1 => ?_) (fun c8_1 => ?_)
  · replace hf := if_t c8_1 hf
    refine lv_iconst (v := -1) hx hb dX5_copy_22 (by decide) ?_
    have e1 := Option.some.inj hf
    subst e1
    have hF : (((-1 : Int32), w) : Int32 × Ww) = out := hF
    subst hF
    exact k_iret C0 hW dX5_copy_23
  · replace hf := if_f c8_1 hf
    refine lv_aload_n hx hb dX5_copy_11 rfl (lv_at hl 0 rfl) ?_
    refine k_get C0 hW 5 0 0 (v := .ref (a (o + 3))) rfl (by decide) inX5 mf_X5_14 rfl rfl dX5_copy_12 ?_
    refine lv_iload_n hx hb dX5_copy_15 rfl (lv_at hl 3 rfl) ?_
    obtain ⟨q16, hq16⟩ := ob_s hf
    replace hf := hq16.2
    replace hq16 := hq16.1
    refine bV1 (rest := []) (bs := bsWw G a o w) (bs1 := bsWw G a o w) (st1 := [.int q16]) C0 hW hl.1 (c_X3_isNumber l G a (o + 3) 6 40 (ww_rows w) x3 _ hq16) cb_X3_isNumber mm_X5_92 ([1, 2, 3, 4, 5, 6, 7]) ([0, 8, 9, 10, 11, 12, 13, 14, 15, 16, 17, 18, 19, 20, 21, 22, 23, 24]) (ap_1_2_3_4_5_6_7) (ac_1_2_3_4_5_6_7 (w := w)) (ac_1_2_3_4_5_6_7 (w := w)) rfl rfl rfl 0 3 rfl rfl rfl (by decide) rfl rfl (Nat.le_of_ble_eq_true rfl) ⟨Nat.zero_le _, Nat.zero_le _⟩ dX5_copy_16 rfl (fun H locs hW => ?_)
    refine lv_if_ne (tgt := 24) hx hb dX5_copy_19 (by decide) (fun c19_2 => ?_) (fun c19_2 => ?_)
    · replace hf := if_f c19_2 hf
      refine lv_iload hx hb dX5_copy_24 (lv_at hl 5 rfl) ?_
      refine lv_if_ge (tgt := 35) hx hb dX5_copy_26 (by decide) (fun c26_3 => ?_) (fun c26_3 => ?_)
      · replace hf := if_t c26_3 hf
        refine lv_aload_n hx hb dX5_copy_35 rfl (lv_at hl 0 rfl) ?_
        refine k_get C0 hW 5 0 0 (v := .ref (a (o + 3))) rfl (by decide) inX5 mf_X5_14 rfl rfl dX5_copy_36 ?_
        refine lv_iload_n hx hb dX5_copy_39 rfl (lv_at hl 1 rfl) ?_
        obtain ⟨q40, hq40⟩ := ob_s hf
        replace hf := hq40.2
        replace hq40 := hq40.1
        refine bV1 (rest := []) (bs := bsWw G a o w) (bs1 := bsWw G a o w) (st1 := [.int q40]) C0 hW hl.1 (c_X3_isMissing l G a (o + 3) 6 40 (ww_rows w) x1 _ hq40) cb_X3_isMissing mm_X5_99 ([1, 2, 3, 4, 5, 6, 7]) ([0, 8, 9, 10, 11, 12, 13, 14, 15, 16, 17, 18, 19, 20, 21, 22, 23, 24]) (ap_1_2_3_4_5_6_7) (ac_1_2_3_4_5_6_7 (w := w)) (ac_1_2_3_4_5_6_7 (w := w)) rfl rfl rfl 0 3 rfl rfl rfl (by decide) rfl rfl (Nat.le_of_ble_eq_true rfl) ⟨Nat.zero_le _, Nat.zero_le _⟩ dX5_copy_40 rfl (fun H locs hW => ?_)
        refine lv_if_ne (tgt := 57) hx hb dX5_copy_43 (by decide) (fun c43_4 => ?_) (fun c43_4 => ?_)
        · replace hf := if_f c43_4 hf
          exact J57 _ _ hf hF _ _ _ hW (lv_sub hl [0] rfl)
        · replace hf := if_t c43_4 hf
          refine lv_aload_n hx hb dX5_copy_46 rfl (lv_at hl 0 rfl) ?_
          refine k_get C0 hW 5 0 0 (v := .ref (a (o + 3))) rfl (by decide) inX5 mf_X5_14 rfl rfl dX5_copy_47 ?_
          refine lv_iload_n hx hb dX5_copy_50 rfl (lv_at hl 3 rfl) ?_
          obtain ⟨q51, hq51⟩ := ob_s hf
          replace hf := hq51.2
          replace hq51 := hq51.1
          refine bV1 (rest := []) (bs := bsWw G a o w) (bs1 := bsWw G a o w) (st1 := [.int q51]) C0 hW hl.1 (c_X3_isMissing l G a (o + 3) 6 40 (ww_rows w) x3 _ hq51) cb_X3_isMissing mm_X5_99 ([1, 2, 3, 4, 5, 6, 7]) ([0, 8, 9, 10, 11, 12, 13, 14, 15, 16, 17, 18, 19, 20, 21, 22, 23, 24]) (ap_1_2_3_4_5_6_7) (ac_1_2_3_4_5_6_7 (w := w)) (ac_1_2_3_4_5_6_7 (w := w)) rfl rfl rfl 0 3 rfl rfl rfl (by decide) rfl rfl (Nat.le_of_ble_eq_true rfl) ⟨Nat.zero_le _, Nat.zero_le _⟩ dX5_copy_51 rfl (fun H locs hW => ?_)
          refine lv_if_eq (tgt := 63) hx hb dX5_copy_54 (by decide) (fun c54_5 => ?_) (fun c54_5 => ?_)
          · replace hf := if_t c54_5 hf
            refine lv_aload_n hx hb dX5_copy_63 rfl (lv_at hl 0 rfl) ?_
            refine k_get C0 hW 5 0 0 (v := .ref (a (o + 3))) rfl (by decide) inX5 mf_X5_14 rfl rfl dX5_copy_64 ?_
            refine lv_iload_n hx hb dX5_copy_67 rfl (lv_at hl 1 rfl) ?_
            refine lv_iload_n hx hb dX5_copy_68 rfl (lv_at hl 2 rfl) ?_
            refine lv_iload hx hb dX5_copy_69 (lv_at hl 5 rfl) ?_
            obtain ⟨q71, hq71⟩ := ob_s hf
            replace hf := hq71.2
            replace hq71 := hq71.1
            refine bV1 (rest := []) (bs := bsWw G a o w) (bs1 := bsWw G a o w) (st1 := [.int q71]) C0 hW hl.1 (c_X3_hasPart l G a (o + 3) 6 40 (ww_rows w) x1 x2 x5 _ hq71) cb_X3_hasPart mm_X5_102 ([1, 2, 3, 4, 5, 6, 7]) ([0, 8, 9, 10, 11, 12, 13, 14, 15, 16, 17, 18, 19, 20, 21, 22, 23, 24]) (ap_1_2_3_4_5_6_7) (ac_1_2_3_4_5_6_7 (w := w)) (ac_1_2_3_4_5_6_7 (w := w)) rfl rfl rfl 0 3 rfl rfl rfl (by decide) rfl rfl (Nat.le_of_ble_eq_true rfl) ⟨Nat.zero_le _, Nat.zero_le _⟩ dX5_copy_71 rfl (fun H locs hW => ?_)
            refine lv_if_eq (tgt := 92) hx hb dX5_copy_74 (by decide) (fun c74_6 => ?_) (fun c74_6 => ?_)
            · replace hf := if_t c74_6 hf
              exact J92 _ _ hf hF _ _ _ hW (lv_sub hl [0] rfl)
            · replace hf := if_f c74_6 hf
              refine lv_aload_n hx hb dX5_copy_77 rfl (lv_at hl 0 rfl) ?_
              refine k_get C0 hW 5 0 0 (v := .ref (a (o + 3))) rfl (by decide) inX5 mf_X5_14 rfl rfl dX5_copy_78 ?_
              refine lv_iload_n hx hb dX5_copy_81 rfl (lv_at hl 3 rfl) ?_
              refine lv_iload hx hb dX5_copy_82 (lv_at hl 4 rfl) ?_
              refine lv_iload hx hb dX5_copy_84 (lv_at hl 5 rfl) ?_
              obtain ⟨q86, hq86⟩ := ob_s hf
              replace hf := hq86.2
              replace hq86 := hq86.1
              refine bV1 (rest := []) (bs := bsWw G a o w) (bs1 := bsWw G a o w) (st1 := [.int q86]) C0 hW hl.1 (c_X3_hasPart l G a (o + 3) 6 40 (ww_rows w) x3 x4 x5 _ hq86) cb_X3_hasPart mm_X5_102 ([1, 2, 3, 4, 5, 6, 7]) ([0, 8, 9, 10, 11, 12, 13, 14, 15, 16, 17, 18, 19, 20, 21, 22, 23, 24]) (ap_1_2_3_4_5_6_7) (ac_1_2_3_4_5_6_7 (w := w)) (ac_1_2_3_4_5_6_7 (w := w)) rfl rfl rfl 0 3 rfl rfl rfl (by decide) rfl rfl (Nat.le_of_ble_eq_true rfl) ⟨Nat.zero_le _, Nat.zero_le _⟩ dX5_copy_86 rfl (fun H locs hW => ?_)
              refine lv_if_ne (tgt := 98) hx hb dX5_copy_89 (by decide) (fun c89_7 => ?_) (fun c89_7 => ?_)
              · replace hf := if_f c89_7 hf
                refine lv_aload_n hx hb dX5_copy_98 rfl (lv_at hl 0 rfl) ?_
                refine k_get C0 hW 5 0 0 (v := .ref (a (o + 3))) rfl (by decide) inX5 mf_X5_14 rfl rfl dX5_copy_99 ?_
                refine lv_iload_n hx hb dX5_copy_102 rfl (lv_at hl 1 rfl) ?_
                refine lv_iload_n hx hb dX5_copy_103 rfl (lv_at hl 2 rfl) ?_
                refine lv_iload_n hx hb dX5_copy_104 rfl (lv_at hl 3 rfl) ?_
                refine lv_iload hx hb dX5_copy_105 (lv_at hl 4 rfl) ?_
                refine lv_iload hx hb dX5_copy_107 (lv_at hl 5 rfl) ?_
                obtain ⟨q109, hq109⟩ := ob_s hf
                replace hf := hq109.2
                replace hq109 := hq109.1
                refine bV1 (rest := []) (bs := bsWw G a o w) (bs1 := bsWw G a o (ww_set_rows w q109)) (st1 := []) C0 hW hl.1 (c_X3_move l G a (o + 3) 6 40 (ww_rows w) x1 x2 x3 x4 x5 _ hq109) cb_X3_move mm_X5_106 ([1, 2, 3, 4, 5, 6, 7]) ([0, 8, 9, 10, 11, 12, 13, 14, 15, 16, 17, 18, 19, 20, 21, 22, 23, 24]) (ap_1_2_3_4_5_6_7) (ac_1_2_3_4_5_6_7 (w := w)) (ad_1_2_3_4_5_6_7_w (w := w)) (ar_1_2_3_4_5_6_7_w (w := w)) rfl (as_1_2_3_4_5_6_7_w (w := w)) 0 3 rfl rfl rfl (by decide) rfl rfl (Nat.le_of_ble_eq_true rfl) ⟨Nat.zero_le _, Nat.zero_le _⟩ dX5_copy_109 rfl (fun H locs hW => ?_)
                refine lv_iconst (v := 1) hx hb dX5_copy_112 (by decide) ?_
                have e1 := Option.some.inj hf
                subst e1
                have hF : (((1 : Int32), (ww_set_rows w q109)) : Int32 × Ww) = out := hF
                subst hF
                exact k_iret C0 hW dX5_copy_113
              · replace hf := if_t c89_7 hf
                exact J92 _ _ hf hF _ _ _ hW (lv_sub hl [0] rfl)
          · replace hf := if_f c54_5 hf
            exact J57 _ _ hf hF _ _ _ hW (lv_sub hl [0] rfl)
      · replace hf := if_f c26_3 hf
        refine lv_aload_n hx hb dX5_copy_29 rfl (lv_at hl 0 rfl) ?_
        refine lv_iconst (v := 5) hx hb dX5_copy_30 (by decide) ?_
        obtain ⟨q31, hq31⟩ := ob_s hf
        replace hf := hq31.2
        replace hq31 := hq31.1
        refine cW1 (rest := []) (ws1 := (bWw G a o q31.2)) (st1 := [.int q31.1]) C0 hW hl.1 (c_X5_refuse l G a o w (5 : Int32) _ hq31) cb_X5_refuse mm_X5_96 fst_Ww 0 5 rfl rfl rfl (by decide) rfl rfl (Nat.le_of_ble_eq_true rfl) ⟨Nat.zero_le _, Nat.zero_le _⟩ dX5_copy_31 rfl (fun H locs hW => ?_)
        have e1 := Option.some.inj hf
        subst e1
        have hF : ((q31.1, q31.2) : Int32 × Ww) = out := hF
        subst hF
        exact k_iret C0 hW dX5_copy_34
    · replace hf := if_t c19_2 hf
      refine lv_iconst (v := -1) hx hb dX5_copy_22 (by decide) ?_
      have e1 := Option.some.inj hf
      subst e1
      have hF : (((-1 : Int32), w) : Int32 × Ww) = out := hF
      subst hF
      exact k_iret C0 hW dX5_copy_23

def f_X5_keptOnes_J25 (w : Ww) (x1 : Int32) (x2 : Int32) : Option ((Int32 × Int32) ⊕ (Int32)) :=
  some (Sum.inl (x1, (x2 + (1 : Int32))))
def f_X5_keptOnes_B4 (w : Ww) (x1 : Int32) (x2 : Int32) : Option ((Int32 × Int32) ⊕ (Int32)) :=
  if (3 : Int32) ≤ x2 then (Option.map Sum.inr (some x1)) else (if x2 = 0 then (if (ct_done (ww_kept w 0)) = (-1 : Int32) then (f_X5_keptOnes_J25 w x1 x2) else (f_X5_keptOnes_J25 w (x1 + (1 : Int32)) x2)) else if x2 = 1 then (if (ct_done (ww_kept w 1)) = (-1 : Int32) then (f_X5_keptOnes_J25 w x1 x2) else (f_X5_keptOnes_J25 w (x1 + (1 : Int32)) x2)) else if x2 = 2 then (if (ct_done (ww_kept w 2)) = (-1 : Int32) then (f_X5_keptOnes_J25 w x1 x2) else (f_X5_keptOnes_J25 w (x1 + (1 : Int32)) x2)) else none)
def f_X5_keptOnes_L4 (w : Ww) (sg : Int32 × Int32) : Option ((Int32 × Int32) ⊕ (Int32)) := f_X5_keptOnes_B4 w sg.1 sg.2
def f_X5_keptOnes (w : Ww) : Option (Int32) :=
  lp (f_X5_keptOnes_L4 w) fuel ((0 : Int32), (0 : Int32))
set_option maxRecDepth 100000 in
set_option maxHeartbeats 8000000 in
theorem c_X5_keptOnes (l : Launch) (G : GG) (a : Nat → Nat) (o : Nat) (w : Ww) (out : Int32) (hf : f_X5_keptOnes w = some out) : Cn l G 0 yX5_keptOnes cX5_keptOnes 3 (some .int) [.ref (a o)] (bWw G a o w) (some (.int out)) (bWw G a o w) := by
  refine cn_start (by decide) (Nat.le_of_ble_eq_true rfl) ?_
  intro p e s m below meth c A ls C0 hW hl
  have hx := C0.1
  have hb := C0.2.1
  have hl : lv_has ls 3 [(0, .ref (a o))] := hl
  have L4 : ∀ (k8 : Nat) (sg : Int32 × Int32) (o9 : Int32), lp (f_X5_keptOnes_L4 w) k8 sg = some o9 → (fun (r : Int32) => r = out) o9 → (fun (sg : Int32 × Int32) => ∀ (H : Heap) (locs : List Loc) (ls : Array Slot), Wd G A s.heap H (bWw G a o w) locs → lv_has ls 3 [(0, .ref (a o)), (1, .int sg.1), (2, .int sg.2)] → WW p l e 0 s m [.ref (a o)] below meth c G A (some (.int out)) ((bWw G a o w)) H locs 4 ls []) sg := by
    have J25 : ∀ (x1 : Int32) (x2 : Int32) (r : (Int32 × Int32) ⊕ (Int32)), f_X5_keptOnes_J25 w x1 x2 = some r → (Sum.elim (fun (sg : Int32 × Int32) => ∀ (H : Heap) (locs : List Loc) (ls : Array Slot), Wd G A s.heap H (bWw G a o w) locs → lv_has ls 3 [(0, .ref (a o)), (1, .int sg.1), (2, .int sg.2)] → WW p l e 0 s m [.ref (a o)] below meth c G A (some (.int out)) ((bWw G a o w)) H locs 4 ls []) (fun (r : Int32) => r = out)) r → ∀ (H : Heap) (locs : List Loc) (ls : Array Slot), Wd G A s.heap H (bWw G a o w) locs → lv_has ls 3 [(0, .ref (a o)), (1, .int x1), (2, .int x2)] → WW p l e 0 s m [.ref (a o)] below meth c G A (some (.int out)) ((bWw G a o w)) H locs 25 ls [] := by
      intro x1 x2 r hf hF H locs ls hW hl
      unfold f_X5_keptOnes_J25 at hf
      refine lv_iinc (v := (x2 + (1 : Int32))) (lv' := [(2, .int (x2 + (1 : Int32))), (0, .ref (a o)), (1, .int x1)]) hx hb dX5_keptOnes_25 hl (k := 2) rfl rfl (by decide) rfl (fun ls hl => ?_)
      refine lv_goto (tgt := 4) hx hb dX5_keptOnes_28 (by decide) ?_
      have e1 := Option.some.inj hf
      subst e1
      exact (elim_l hF) _ _ _ hW (lv_sub hl [1, 2, 0] rfl)
    have B4 : ∀ (x1 : Int32) (x2 : Int32) (r : (Int32 × Int32) ⊕ (Int32)), f_X5_keptOnes_B4 w x1 x2 = some r → (Sum.elim (fun (sg : Int32 × Int32) => ∀ (H : Heap) (locs : List Loc) (ls : Array Slot), Wd G A s.heap H (bWw G a o w) locs → lv_has ls 3 [(0, .ref (a o)), (1, .int sg.1), (2, .int sg.2)] → WW p l e 0 s m [.ref (a o)] below meth c G A (some (.int out)) ((bWw G a o w)) H locs 4 ls []) (fun (r : Int32) => r = out)) r → ∀ (H : Heap) (locs : List Loc) (ls : Array Slot), Wd G A s.heap H (bWw G a o w) locs → lv_has ls 3 [(0, .ref (a o)), (1, .int x1), (2, .int x2)] → WW p l e 0 s m [.ref (a o)] below meth c G A (some (.int out)) ((bWw G a o w)) H locs 4 ls [] := by
      intro x1 x2 r hf hF H locs ls hW hl
      unfold f_X5_keptOnes_B4 at hf
      refine lv_iload_n hx hb dX5_keptOnes_4 rfl (lv_at hl 2 rfl) ?_
      refine lv_iconst (v := 3) hx hb dX5_keptOnes_5 (by decide) ?_
      refine lv_icmp_ge (tgt := 31) hx hb dX5_keptOnes_6 (by decide) (fun c6_1 => ?_) (fun c6_1 => ?_)
      · replace hf := if_t c6_1 hf
        obtain ⟨r2, e2⟩ := om_s hf
        replace hf := e2.1
        replace e2 := e2.2
        subst e2
        replace hF := elim_r hF
        refine lv_iload_n hx hb dX5_keptOnes_31 rfl (lv_at hl 1 rfl) ?_
        have e1 := Option.some.inj hf
        subst e1
        have hF : (x1 : Int32) = out := hF
        subst hF
        exact k_iret C0 hW dX5_keptOnes_32
      · replace hf := if_f c6_1 hf
        refine lv_aload_n hx hb dX5_keptOnes_9 rfl (lv_at hl 0 rfl) ?_
        refine k_get C0 hW 5 4 0 (v := .ref (a (o + 2))) rfl (by decide) inX5 mf_X5_35 rfl rfl dX5_keptOnes_10 ?_
        refine lv_iload_n hx hb dX5_keptOnes_13 rfl (lv_at hl 2 rfl) ?_
        by_cases hk9 : x2 = 0
        · replace hf := if_t hk9 hf
          refine k_aaldC C0 hW 2 (b := a (o + 36)) rfl (by rw [hk9]; exact inb_in rfl) (by rw [hk9]; rfl) dX5_keptOnes_14 ?_
          refine k_get C0 hW 1 3 36 (v := .int (ct_done (ww_kept w 0))) rfl (by decide) inX1 mf_X5_39 rfl rfl dX5_keptOnes_15 ?_
          refine lv_iconst (v := -1) hx hb dX5_keptOnes_18 (by decide) ?_
          refine lv_icmp_eq (tgt := 25) hx hb dX5_keptOnes_19 (by decide) (fun c19_2 => ?_) (fun c19_2 => ?_)
          · replace hf := if_t c19_2 hf
            exact J25 _ _ _ hf hF _ _ _ hW (lv_sub hl [0, 1, 2] rfl)
          · replace hf := if_f c19_2 hf
            refine lv_iinc (v := (x1 + (1 : Int32))) (lv' := [(1, .int (x1 + (1 : Int32))), (0, .ref (a o)), (2, .int x2)]) hx hb dX5_keptOnes_22 hl (k := 1) rfl rfl (by decide) rfl (fun ls hl => ?_)
            exact J25 _ _ _ hf hF _ _ _ hW (lv_sub hl [1, 0, 2] rfl)
        replace hf := if_f hk9 hf
        by_cases hk9 : x2 = 1
        · replace hf := if_t hk9 hf
          refine k_aaldC C0 hW 2 (b := a (o + 45)) rfl (by rw [hk9]; exact inb_in rfl) (by rw [hk9]; rfl) dX5_keptOnes_14 ?_
          refine k_get C0 hW 1 3 45 (v := .int (ct_done (ww_kept w 1))) rfl (by decide) inX1 mf_X5_39 rfl rfl dX5_keptOnes_15 ?_
          refine lv_iconst (v := -1) hx hb dX5_keptOnes_18 (by decide) ?_
          refine lv_icmp_eq (tgt := 25) hx hb dX5_keptOnes_19 (by decide) (fun c19_3 => ?_) (fun c19_3 => ?_)
          · replace hf := if_t c19_3 hf
            exact J25 _ _ _ hf hF _ _ _ hW (lv_sub hl [0, 1, 2] rfl)
          · replace hf := if_f c19_3 hf
            refine lv_iinc (v := (x1 + (1 : Int32))) (lv' := [(1, .int (x1 + (1 : Int32))), (0, .ref (a o)), (2, .int x2)]) hx hb dX5_keptOnes_22 hl (k := 1) rfl rfl (by decide) rfl (fun ls hl => ?_)
            exact J25 _ _ _ hf hF _ _ _ hW (lv_sub hl [1, 0, 2] rfl)
        replace hf := if_f hk9 hf
        by_cases hk9 : x2 = 2
        · replace hf := if_t hk9 hf
          refine k_aaldC C0 hW 2 (b := a (o + 54)) rfl (by rw [hk9]; exact inb_in rfl) (by rw [hk9]; rfl) dX5_keptOnes_14 ?_
          refine k_get C0 hW 1 3 54 (v := .int (ct_done (ww_kept w 2))) rfl (by decide) inX1 mf_X5_39 rfl rfl dX5_keptOnes_15 ?_
          refine lv_iconst (v := -1) hx hb dX5_keptOnes_18 (by decide) ?_
          refine lv_icmp_eq (tgt := 25) hx hb dX5_keptOnes_19 (by decide) (fun c19_4 => ?_) (fun c19_4 => ?_)
          · replace hf := if_t c19_4 hf
            exact J25 _ _ _ hf hF _ _ _ hW (lv_sub hl [0, 1, 2] rfl)
          · replace hf := if_f c19_4 hf
            refine lv_iinc (v := (x1 + (1 : Int32))) (lv' := [(1, .int (x1 + (1 : Int32))), (0, .ref (a o)), (2, .int x2)]) hx hb dX5_keptOnes_22 hl (k := 1) rfl rfl (by decide) rfl (fun ls hl => ?_)
            exact J25 _ _ _ hf hF _ _ _ hW (lv_sub hl [1, 0, 2] rfl)
        replace hf := if_f hk9 hf
        cases hf
    exact lp_sound (fun sg r hb hz => B4 sg.1 sg.2 r hb hz)
  obtain ⟨r, hr⟩ : ∃ r, f_X5_keptOnes w = some r ∧ r = out := ⟨out, hf, rfl⟩
  replace hf := hr.1
  have hF := hr.2
  clear hr
  unfold f_X5_keptOnes at hf
  refine lv_iconst (v := 0) hx hb dX5_keptOnes_0 (by decide) ?_
  refine lv_istore_n (lv' := [(1, .int (0 : Int32)), (0, .ref (a o))]) hx hb dX5_keptOnes_1 rfl hl (by decide) rfl (fun ls hl => ?_)
  refine lv_iconst (v := 0) hx hb dX5_keptOnes_2 (by decide) ?_
  refine lv_istore_n (lv' := [(2, .int (0 : Int32)), (1, .int (0 : Int32)), (0, .ref (a o))]) hx hb dX5_keptOnes_3 rfl hl (by decide) rfl (fun ls hl => ?_)
  exact L4  fuel ((0 : Int32), (0 : Int32)) _ hf hF _ _ _ hW (lv_sub hl [2, 1, 0] rfl)

def f_X5_counted (w : Ww) (x1 : Int32) : Option (Int32) :=
  if x1 = 0 then (some (wh_spokes (ct_wheel (ww_cart w)))) else if x1 = 1 then (some (wh_rut (ct_wheel (ww_cart w)))) else if x1 = 2 then (some (ct_done (ww_cart w))) else if x1 = 3 then (some (wh_stand (ct_wheel (ww_cart w)))) else if x1 = 4 then (some (wh_there (ct_wheel (ww_cart w)))) else if x1 = 5 then (if (wh_dry (ct_wheel (ww_cart w))) = 0 then (some (0 : Int32)) else (some (1 : Int32))) else if x1 = 6 then (Option.bind (f_X4_isOver (ct_wheel (ww_cart w))) (fun q114 => if q114 = 0 then (some (0 : Int32)) else (some (1 : Int32)))) else if x1 = 7 then (some (wh_gateRut (ct_wheel (ww_cart w)))) else if x1 = 8 then (Option.bind (f_X3_howMany 6 40 (ww_rows w)) (fun q135 => some q135)) else if x1 = 9 then (Option.bind (f_X3_howMany 4 60 (ww_texts w)) (fun q143 => some q143)) else if x1 = 10 then (Option.bind (f_X5_keptOnes w) (fun q148 => some q148)) else if x1 = 11 then (Option.bind (f_X4_lengthThere (ct_wheel (ww_cart w))) (fun q153 => some q153)) else Option.bind (f_X4_ironOnes (ct_wheel (ww_cart w))) (fun q158 => some q158)
set_option maxRecDepth 100000 in
set_option maxHeartbeats 8000000 in
theorem c_X5_counted (l : Launch) (G : GG) (a : Nat → Nat) (o : Nat) (w : Ww) (x1 : Int32) (out : Int32) (hf : f_X5_counted w x1 = some out) : Cn l G 2 yX5_counted cX5_counted 3 (some .int) [.ref (a o), .int x1] (bWw G a o w) (some (.int out)) (bWw G a o w) := by
  refine cn_start (by decide) (Nat.le_of_ble_eq_true rfl) ?_
  intro p e s m below meth c A ls C0 hW hl
  have hx := C0.1
  have hb := C0.2.1
  have hl : lv_has ls 3 [(0, .ref (a o)), (1, .int x1)] := hl
  obtain ⟨r, hr⟩ : ∃ r, f_X5_counted w x1 = some r ∧ r = out := ⟨out, hf, rfl⟩
  replace hf := hr.1
  have hF := hr.2
  clear hr
  unfold f_X5_counted at hf
  refine lv_aload_n hx hb dX5_counted_0 rfl (lv_at hl 0 rfl) ?_
  refine k_get C0 hW 5 3 0 (v := .ref (a (o + 27))) rfl (by decide) inX5 mf_X5_31 rfl rfl dX5_counted_1 ?_
  refine k_get C0 hW 1 0 27 (v := .ref (a (o + 30))) rfl (by decide) inX1 mf_X5_45 rfl rfl dX5_counted_4 ?_
  refine lv_astore_n (lv' := [(2, .ref (a (o + 30))), (0, .ref (a o)), (1, .int x1)]) hx hb dX5_counted_7 rfl hl (by decide) rfl (fun ls hl => ?_)
  refine lv_iload_n hx hb dX5_counted_8 rfl (lv_at hl 2 rfl) ?_
  by_cases c9_1 : x1 = 0
  · replace hf := if_t c9_1 hf
    refine lv_tableIn (off := 63) (tgt := 72) hx hb dX5_counted_9 (by rw [c9_1]; decide) (by rw [c9_1]; decide) (by rw [c9_1]; rfl) (by decide) ?_
    refine lv_aload_n hx hb dX5_counted_72 rfl (lv_at hl 0 rfl) ?_
    refine k_get C0 hW 4 5 30 (v := .int (wh_spokes (ct_wheel (ww_cart w)))) rfl (by decide) inX4 mf_X5_131 rfl rfl dX5_counted_73 ?_
    have e1 := Option.some.inj hf
    subst e1
    have hF : ((wh_spokes (ct_wheel (ww_cart w))) : Int32) = out := hF
    subst hF
    exact k_iret C0 hW dX5_counted_76
  replace hf := if_f c9_1 hf
  by_cases c9_2 : x1 = 1
  · replace hf := if_t c9_2 hf
    refine lv_tableIn (off := 68) (tgt := 77) hx hb dX5_counted_9 (by rw [c9_2]; decide) (by rw [c9_2]; decide) (by rw [c9_2]; rfl) (by decide) ?_
    refine lv_aload_n hx hb dX5_counted_77 rfl (lv_at hl 0 rfl) ?_
    refine k_get C0 hW 4 8 30 (v := .int (wh_rut (ct_wheel (ww_cart w)))) rfl (by decide) inX4 mf_X5_254 rfl rfl dX5_counted_78 ?_
    have e1 := Option.some.inj hf
    subst e1
    have hF : ((wh_rut (ct_wheel (ww_cart w))) : Int32) = out := hF
    subst hF
    exact k_iret C0 hW dX5_counted_81
  replace hf := if_f c9_2 hf
  by_cases c9_3 : x1 = 2
  · replace hf := if_t c9_3 hf
    refine lv_tableIn (off := 73) (tgt := 82) hx hb dX5_counted_9 (by rw [c9_3]; decide) (by rw [c9_3]; decide) (by rw [c9_3]; rfl) (by decide) ?_
    refine lv_aload_n hx hb dX5_counted_82 rfl (lv_at hl 1 rfl) ?_
    refine k_get C0 hW 5 3 0 (v := .ref (a (o + 27))) rfl (by decide) inX5 mf_X5_31 rfl rfl dX5_counted_83 ?_
    refine k_get C0 hW 1 3 27 (v := .int (ct_done (ww_cart w))) rfl (by decide) inX1 mf_X5_39 rfl rfl dX5_counted_86 ?_
    have e1 := Option.some.inj hf
    subst e1
    have hF : ((ct_done (ww_cart w)) : Int32) = out := hF
    subst hF
    exact k_iret C0 hW dX5_counted_89
  replace hf := if_f c9_3 hf
  by_cases c9_4 : x1 = 3
  · replace hf := if_t c9_4 hf
    refine lv_tableIn (off := 81) (tgt := 90) hx hb dX5_counted_9 (by rw [c9_4]; decide) (by rw [c9_4]; decide) (by rw [c9_4]; rfl) (by decide) ?_
    refine lv_aload_n hx hb dX5_counted_90 rfl (lv_at hl 0 rfl) ?_
    refine k_get C0 hW 4 7 30 (v := .int (wh_stand (ct_wheel (ww_cart w)))) rfl (by decide) inX4 mf_X5_317 rfl rfl dX5_counted_91 ?_
    have e1 := Option.some.inj hf
    subst e1
    have hF : ((wh_stand (ct_wheel (ww_cart w))) : Int32) = out := hF
    subst hF
    exact k_iret C0 hW dX5_counted_94
  replace hf := if_f c9_4 hf
  by_cases c9_5 : x1 = 4
  · replace hf := if_t c9_5 hf
    refine lv_tableIn (off := 86) (tgt := 95) hx hb dX5_counted_9 (by rw [c9_5]; decide) (by rw [c9_5]; decide) (by rw [c9_5]; rfl) (by decide) ?_
    refine lv_aload_n hx hb dX5_counted_95 rfl (lv_at hl 0 rfl) ?_
    refine k_get C0 hW 4 9 30 (v := .int (wh_there (ct_wheel (ww_cart w)))) rfl (by decide) inX4 mf_X5_228 rfl rfl dX5_counted_96 ?_
    have e1 := Option.some.inj hf
    subst e1
    have hF : ((wh_there (ct_wheel (ww_cart w))) : Int32) = out := hF
    subst hF
    exact k_iret C0 hW dX5_counted_99
  replace hf := if_f c9_5 hf
  by_cases c9_6 : x1 = 5
  · replace hf := if_t c9_6 hf
    refine lv_tableIn (off := 91) (tgt := 100) hx hb dX5_counted_9 (by rw [c9_6]; decide) (by rw [c9_6]; decide) (by rw [c9_6]; rfl) (by decide) ?_
    refine lv_aload_n hx hb dX5_counted_100 rfl (lv_at hl 0 rfl) ?_
    refine k_get C0 hW 4 10 30 (v := .int (wh_dry (ct_wheel (ww_cart w)))) rfl (by decide) inX4 mf_X5_155 rfl rfl dX5_counted_101 ?_
    refine lv_if_eq (tgt := 111) hx hb dX5_counted_104 (by decide) (fun c104_7 => ?_) (fun c104_7 => ?_)
    · replace hf := if_t c104_7 hf
      refine lv_iconst (v := 0) hx hb dX5_counted_111 (by decide) ?_
      have e1 := Option.some.inj hf
      subst e1
      have hF : ((0 : Int32) : Int32) = out := hF
      subst hF
      exact k_iret C0 hW dX5_counted_112
    · replace hf := if_f c104_7 hf
      refine lv_iconst (v := 1) hx hb dX5_counted_107 (by decide) ?_
      refine lv_goto (tgt := 112) hx hb dX5_counted_108 (by decide) ?_
      have e1 := Option.some.inj hf
      subst e1
      have hF : ((1 : Int32) : Int32) = out := hF
      subst hF
      exact k_iret C0 hW dX5_counted_112
  replace hf := if_f c9_6 hf
  by_cases c9_8 : x1 = 6
  · replace hf := if_t c9_8 hf
    refine lv_tableIn (off := 104) (tgt := 113) hx hb dX5_counted_9 (by rw [c9_8]; decide) (by rw [c9_8]; decide) (by rw [c9_8]; rfl) (by decide) ?_
    refine lv_aload_n hx hb dX5_counted_113 rfl (lv_at hl 0 rfl) ?_
    obtain ⟨q114, hq114⟩ := ob_s hf
    replace hf := hq114.2
    replace hq114 := hq114.1
    refine bV1 (rest := []) (bs := bsWw G a o w) (bs1 := bsWw G a o w) (st1 := [.int q114]) C0 hW hl.1 (c_X4_isOver l G a (o + 30) (ct_wheel (ww_cart w)) _ hq114) cb_X4_isOver mm_X5_167 ([16]) ([0, 1, 2, 3, 4, 5, 6, 7, 8, 9, 10, 11, 12, 13, 14, 15, 17, 18, 19, 20, 21, 22, 23, 24]) (ap_16) (ac_16 (w := w)) (ac_16 (w := w)) rfl rfl rfl 0 4 rfl rfl rfl (by decide) rfl rfl (Nat.le_of_ble_eq_true rfl) ⟨Nat.zero_le _, Nat.zero_le _⟩ dX5_counted_114 rfl (fun H locs hW => ?_)
    refine lv_if_eq (tgt := 124) hx hb dX5_counted_117 (by decide) (fun c117_9 => ?_) (fun c117_9 => ?_)
    · replace hf := if_t c117_9 hf
      refine lv_iconst (v := 0) hx hb dX5_counted_124 (by decide) ?_
      have e1 := Option.some.inj hf
      subst e1
      have hF : ((0 : Int32) : Int32) = out := hF
      subst hF
      exact k_iret C0 hW dX5_counted_125
    · replace hf := if_f c117_9 hf
      refine lv_iconst (v := 1) hx hb dX5_counted_120 (by decide) ?_
      refine lv_goto (tgt := 125) hx hb dX5_counted_121 (by decide) ?_
      have e1 := Option.some.inj hf
      subst e1
      have hF : ((1 : Int32) : Int32) = out := hF
      subst hF
      exact k_iret C0 hW dX5_counted_125
  replace hf := if_f c9_8 hf
  by_cases c9_10 : x1 = 7
  · replace hf := if_t c9_10 hf
    refine lv_tableIn (off := 117) (tgt := 126) hx hb dX5_counted_9 (by rw [c9_10]; decide) (by rw [c9_10]; decide) (by rw [c9_10]; rfl) (by decide) ?_
    refine lv_aload_n hx hb dX5_counted_126 rfl (lv_at hl 0 rfl) ?_
    refine k_get C0 hW 4 6 30 (v := .int (wh_gateRut (ct_wheel (ww_cart w)))) rfl (by decide) inX4 mf_X5_320 rfl rfl dX5_counted_127 ?_
    have e1 := Option.some.inj hf
    subst e1
    have hF : ((wh_gateRut (ct_wheel (ww_cart w))) : Int32) = out := hF
    subst hF
    exact k_iret C0 hW dX5_counted_130
  replace hf := if_f c9_10 hf
  by_cases c9_11 : x1 = 8
  · replace hf := if_t c9_11 hf
    refine lv_tableIn (off := 122) (tgt := 131) hx hb dX5_counted_9 (by rw [c9_11]; decide) (by rw [c9_11]; decide) (by rw [c9_11]; rfl) (by decide) ?_
    refine lv_aload_n hx hb dX5_counted_131 rfl (lv_at hl 1 rfl) ?_
    refine k_get C0 hW 5 0 0 (v := .ref (a (o + 3))) rfl (by decide) inX5 mf_X5_14 rfl rfl dX5_counted_132 ?_
    obtain ⟨q135, hq135⟩ := ob_s hf
    replace hf := hq135.2
    replace hq135 := hq135.1
    refine bV1 (rest := []) (bs := bsWw G a o w) (bs1 := bsWw G a o w) (st1 := [.int q135]) C0 hW hl.1 (c_X3_howMany l G a (o + 3) 6 40 (ww_rows w) _ hq135) cb_X3_howMany mm_X5_323 ([1, 2, 3, 4, 5, 6, 7]) ([0, 8, 9, 10, 11, 12, 13, 14, 15, 16, 17, 18, 19, 20, 21, 22, 23, 24]) (ap_1_2_3_4_5_6_7) (ac_1_2_3_4_5_6_7 (w := w)) (ac_1_2_3_4_5_6_7 (w := w)) rfl rfl rfl 0 3 rfl rfl rfl (by decide) rfl rfl (Nat.le_of_ble_eq_true rfl) ⟨Nat.zero_le _, Nat.zero_le _⟩ dX5_counted_135 rfl (fun H locs hW => ?_)
    have e1 := Option.some.inj hf
    subst e1
    have hF : (q135 : Int32) = out := hF
    subst hF
    exact k_iret C0 hW dX5_counted_138
  replace hf := if_f c9_11 hf
  by_cases c9_12 : x1 = 9
  · replace hf := if_t c9_12 hf
    refine lv_tableIn (off := 130) (tgt := 139) hx hb dX5_counted_9 (by rw [c9_12]; decide) (by rw [c9_12]; decide) (by rw [c9_12]; rfl) (by decide) ?_
    refine lv_aload_n hx hb dX5_counted_139 rfl (lv_at hl 1 rfl) ?_
    refine k_get C0 hW 5 1 0 (v := .ref (a (o + 12))) rfl (by decide) inX5 mf_X5_18 rfl rfl dX5_counted_140 ?_
    obtain ⟨q143, hq143⟩ := ob_s hf
    replace hf := hq143.2
    replace hq143 := hq143.1
    refine bV1 (rest := []) (bs := bsWw G a o w) (bs1 := bsWw G a o w) (st1 := [.int q143]) C0 hW hl.1 (c_X3_howMany l G a (o + 12) 4 60 (ww_texts w) _ hq143) cb_X3_howMany mm_X5_323 ([8, 9, 10, 11, 12]) ([0, 1, 2, 3, 4, 5, 6, 7, 13, 14, 15, 16, 17, 18, 19, 20, 21, 22, 23, 24]) (ap_8_9_10_11_12) (ac_8_9_10_11_12 (w := w)) (ac_8_9_10_11_12 (w := w)) rfl rfl rfl 0 3 rfl rfl rfl (by decide) rfl rfl (Nat.le_of_ble_eq_true rfl) ⟨Nat.zero_le _, Nat.zero_le _⟩ dX5_counted_143 rfl (fun H locs hW => ?_)
    have e1 := Option.some.inj hf
    subst e1
    have hF : (q143 : Int32) = out := hF
    subst hF
    exact k_iret C0 hW dX5_counted_146
  replace hf := if_f c9_12 hf
  by_cases c9_13 : x1 = 10
  · replace hf := if_t c9_13 hf
    refine lv_tableIn (off := 138) (tgt := 147) hx hb dX5_counted_9 (by rw [c9_13]; decide) (by rw [c9_13]; decide) (by rw [c9_13]; rfl) (by decide) ?_
    refine lv_aload_n hx hb dX5_counted_147 rfl (lv_at hl 1 rfl) ?_
    obtain ⟨q148, hq148⟩ := ob_s hf
    replace hf := hq148.2
    replace hq148 := hq148.1
    refine cW1 (rest := []) (ws1 := (bWw G a o w)) (st1 := [.int q148]) C0 hW hl.1 (c_X5_keptOnes l G a o w _ hq148) cb_X5_keptOnes mm_X5_326 fst_Ww 0 5 rfl rfl rfl (by decide) rfl rfl (Nat.le_of_ble_eq_true rfl) ⟨Nat.zero_le _, Nat.zero_le _⟩ dX5_counted_148 rfl (fun H locs hW => ?_)
    have e1 := Option.some.inj hf
    subst e1
    have hF : (q148 : Int32) = out := hF
    subst hF
    exact k_iret C0 hW dX5_counted_151
  replace hf := if_f c9_13 hf
  by_cases c9_14 : x1 = 11
  · replace hf := if_t c9_14 hf
    refine lv_tableIn (off := 143) (tgt := 152) hx hb dX5_counted_9 (by rw [c9_14]; decide) (by rw [c9_14]; decide) (by rw [c9_14]; rfl) (by decide) ?_
    refine lv_aload_n hx hb dX5_counted_152 rfl (lv_at hl 0 rfl) ?_
    obtain ⟨q153, hq153⟩ := ob_s hf
    replace hf := hq153.2
    replace hq153 := hq153.1
    refine bV1 (rest := []) (bs := bsWw G a o w) (bs1 := bsWw G a o w) (st1 := [.int q153]) C0 hW hl.1 (c_X4_lengthThere l G a (o + 30) (ct_wheel (ww_cart w)) _ hq153) cb_X4_lengthThere mm_X5_329 ([16]) ([0, 1, 2, 3, 4, 5, 6, 7, 8, 9, 10, 11, 12, 13, 14, 15, 17, 18, 19, 20, 21, 22, 23, 24]) (ap_16) (ac_16 (w := w)) (ac_16 (w := w)) rfl rfl rfl 0 4 rfl rfl rfl (by decide) rfl rfl (Nat.le_of_ble_eq_true rfl) ⟨Nat.zero_le _, Nat.zero_le _⟩ dX5_counted_153 rfl (fun H locs hW => ?_)
    have e1 := Option.some.inj hf
    subst e1
    have hF : (q153 : Int32) = out := hF
    subst hF
    exact k_iret C0 hW dX5_counted_156
  replace hf := if_f c9_14 hf
  refine lv_tableOut (tgt := 157) hx hb dX5_counted_9 (by have := lv_neT c9_1 (show (0 : Int32).toInt = 0 from rfl); have := lv_neT c9_2 (show (1 : Int32).toInt = 1 from rfl); have := lv_neT c9_3 (show (2 : Int32).toInt = 2 from rfl); have := lv_neT c9_4 (show (3 : Int32).toInt = 3 from rfl); have := lv_neT c9_5 (show (4 : Int32).toInt = 4 from rfl); have := lv_neT c9_6 (show (5 : Int32).toInt = 5 from rfl); have := lv_neT c9_8 (show (6 : Int32).toInt = 6 from rfl); have := lv_neT c9_10 (show (7 : Int32).toInt = 7 from rfl); have := lv_neT c9_11 (show (8 : Int32).toInt = 8 from rfl); have := lv_neT c9_12 (show (9 : Int32).toInt = 9 from rfl); have := lv_neT c9_13 (show (10 : Int32).toInt = 10 from rfl); have := lv_neT c9_14 (show (11 : Int32).toInt = 11 from rfl); omega) (by decide) ?_
  refine lv_aload_n hx hb dX5_counted_157 rfl (lv_at hl 0 rfl) ?_
  obtain ⟨q158, hq158⟩ := ob_s hf
  replace hf := hq158.2
  replace hq158 := hq158.1
  refine bV1 (rest := []) (bs := bsWw G a o w) (bs1 := bsWw G a o w) (st1 := [.int q158]) C0 hW hl.1 (c_X4_ironOnes l G a (o + 30) (ct_wheel (ww_cart w)) _ hq158) cb_X4_ironOnes mm_X5_332 ([16]) ([0, 1, 2, 3, 4, 5, 6, 7, 8, 9, 10, 11, 12, 13, 14, 15, 17, 18, 19, 20, 21, 22, 23, 24]) (ap_16) (ac_16 (w := w)) (ac_16 (w := w)) rfl rfl rfl 0 4 rfl rfl rfl (by decide) rfl rfl (Nat.le_of_ble_eq_true rfl) ⟨Nat.zero_le _, Nat.zero_le _⟩ dX5_counted_158 rfl (fun H locs hW => ?_)
  have e1 := Option.some.inj hf
  subst e1
  have hF : (q158 : Int32) = out := hF
  subst hF
  exact k_iret C0 hW dX5_counted_161

def f_X5_count_J10 (w : Ww) : Option (Int32) :=
  some (-1 : Int32)
def f_X5_count (w : Ww) (x1 : Int32) : Option (Int32) :=
  if x1 < 0 then (f_X5_count_J10 w) else (if x1 ≤ (12 : Int32) then (Option.bind (f_X5_counted w x1) (fun q16 => some q16)) else (f_X5_count_J10 w))
set_option maxRecDepth 100000 in
set_option maxHeartbeats 8000000 in
theorem c_X5_count (l : Launch) (G : GG) (a : Nat → Nat) (o : Nat) (w : Ww) (x1 : Int32) (out : Int32) (hf : f_X5_count w x1 = some out) : Cn l G 3 yX5_count cX5_count 2 (some .int) [.ref (a o), .int x1] (bWw G a o w) (some (.int out)) (bWw G a o w) := by
  refine cn_start (by decide) (Nat.le_of_ble_eq_true rfl) ?_
  intro p e s m below meth c A ls C0 hW hl
  have hx := C0.1
  have hb := C0.2.1
  have hl : lv_has ls 2 [(0, .ref (a o)), (1, .int x1)] := hl
  have J10 : ∀ (r : Int32), f_X5_count_J10 w = some r → (fun (r : Int32) => r = out) r → ∀ (H : Heap) (locs : List Loc) (ls : Array Slot), Wd G A s.heap H (bWw G a o w) locs → lv_has ls 2 [] → WW p l e 3 s m [.ref (a o), .int x1] below meth c G A (some (.int out)) ((bWw G a o w)) H locs 10 ls [] := by
    intro r hf hF H locs ls hW hl
    unfold f_X5_count_J10 at hf
    refine lv_iconst (v := -1) hx hb dX5_count_10 (by decide) ?_
    refine lv_goto (tgt := 19) hx hb dX5_count_11 (by decide) ?_
    have e1 := Option.some.inj hf
    subst e1
    have hF : ((-1 : Int32) : Int32) = out := hF
    subst hF
    exact k_iret C0 hW dX5_count_19
  obtain ⟨r, hr⟩ : ∃ r, f_X5_count w x1 = some r ∧ r = out := ⟨out, hf, rfl⟩
  replace hf := hr.1
  have hF := hr.2
  clear hr
  unfold f_X5_count at hf
  refine lv_iload_n hx hb dX5_count_0 rfl (lv_at hl 1 rfl) ?_
  refine lv_if_lt (tgt := 10) hx hb dX5_count_1 (by decide) (fun c1_1 => ?_) (fun c1_1 => ?_)
  · replace hf := if_t c1_1 hf
    exact J10  _ hf hF _ _ _ hW (lv_sub hl [] rfl)
  · replace hf := if_f c1_1 hf
    refine lv_iload_n hx hb dX5_count_4 rfl (lv_at hl 1 rfl) ?_
    refine lv_bipush (v := 12) hx hb dX5_count_5 (by decide) ?_
    refine lv_icmp_le (tgt := 14) hx hb dX5_count_7 (by decide) (fun c7_2 => ?_) (fun c7_2 => ?_)
    · replace hf := if_t c7_2 hf
      refine lv_aload_n hx hb dX5_count_14 rfl (lv_at hl 0 rfl) ?_
      refine lv_iload_n hx hb dX5_count_15 rfl (lv_at hl 1 rfl) ?_
      obtain ⟨q16, hq16⟩ := ob_s hf
      replace hf := hq16.2
      replace hq16 := hq16.1
      refine cW1 (rest := []) (ws1 := (bWw G a o w)) (st1 := [.int q16]) C0 hW hl.1 (c_X5_counted l G a o w x1 _ hq16) cb_X5_counted mm_X5_263 fst_Ww 0 5 rfl rfl rfl (by decide) rfl rfl (Nat.le_of_ble_eq_true rfl) ⟨Nat.zero_le _, Nat.zero_le _⟩ dX5_count_16 rfl (fun H locs hW => ?_)
      have e1 := Option.some.inj hf
      subst e1
      have hF : (q16 : Int32) = out := hF
      subst hF
      exact k_iret C0 hW dX5_count_19
    · replace hf := if_f c7_2 hf
      exact J10  _ hf hF _ _ _ hW (lv_sub hl [] rfl)

def f_X5_digest_J73 (w : Ww) (x1 : Int64) : Option (Int64) :=
  Option.bind (f_X3_mix 6 40 (ww_rows w) x1) (fun q82 => Option.bind (f_X3_mix 4 60 (ww_texts w) q82) (fun q85 => some q85))
def f_X5_digest_B45 (w : Ww) (x1 : Int64) (x3 : Int32) : Option ((Int64 × Int32) ⊕ (Int64)) :=
  if (3 : Int32) ≤ x3 then (Option.map Sum.inr (f_X5_digest_J73 w x1)) else (if x3 = 0 then (nm (((31 : Int64) * x1) + ((ct_done (ww_kept w 0)).toInt64)) (fun v66 => some (Sum.inl (v66, (x3 + (1 : Int32)))))) else if x3 = 1 then (nm (((31 : Int64) * x1) + ((ct_done (ww_kept w 1)).toInt64)) (fun v66 => some (Sum.inl (v66, (x3 + (1 : Int32)))))) else if x3 = 2 then (nm (((31 : Int64) * x1) + ((ct_done (ww_kept w 2)).toInt64)) (fun v66 => some (Sum.inl (v66, (x3 + (1 : Int32)))))) else none)
def f_X5_digest_L45 (w : Ww) (sg : Int64 × Int32) : Option ((Int64 × Int32) ⊕ (Int64)) := f_X5_digest_B45 w sg.1 sg.2
def f_X5_digest_J31 (w : Ww) (x1 : Int64) : Option (Int64) :=
  Option.bind (f_X4_mix (ct_wheel (ww_cart w)) x1) (fun q39 => lp (f_X5_digest_L45 w) fuel (q39, (0 : Int32)))
def f_X5_digest_B6 (w : Ww) (x1 : Int64) (x3 : Int32) : Option ((Int64 × Int32) ⊕ (Int64)) :=
  if (12 : Int32) < x3 then (Option.map Sum.inr (f_X5_digest_J31 w x1)) else (Option.bind (f_X5_counted w x3) (fun q19 => nm (((31 : Int64) * x1) + (q19.toInt64)) (fun v24 => some (Sum.inl (v24, (x3 + (1 : Int32)))))))
def f_X5_digest_L6 (w : Ww) (sg : Int64 × Int32) : Option ((Int64 × Int32) ⊕ (Int64)) := f_X5_digest_B6 w sg.1 sg.2
def f_X5_digest (w : Ww) : Option (Int64) :=
  lp (f_X5_digest_L6 w) fuel ((17 : Int64), (0 : Int32))
set_option maxRecDepth 100000 in
set_option maxHeartbeats 8000000 in
theorem c_X5_digest (l : Launch) (G : GG) (a : Nat → Nat) (o : Nat) (w : Ww) (out : Int64) (hf : f_X5_digest w = some out) : Cn l G 5 yX5_digest cX5_digest 4 (some .long) [.ref (a o)] (bWw G a o w) (some (.long out)) (bWw G a o w) := by
  refine cn_start (by decide) (Nat.le_of_ble_eq_true rfl) ?_
  intro p e s m below meth c A ls C0 hW hl
  have hx := C0.1
  have hb := C0.2.1
  have hl : lv_has ls 4 [(0, .ref (a o))] := hl
  have J73 : ∀ (x1 : Int64) (r : Int64), f_X5_digest_J73 w x1 = some r → (fun (r : Int64) => r = out) r → ∀ (H : Heap) (locs : List Loc) (ls : Array Slot), Wd G A s.heap H (bWw G a o w) locs → lv_has ls 4 [(0, .ref (a o)), (1, .long x1)] → WW p l e 5 s m [.ref (a o)] below meth c G A (some (.long out)) ((bWw G a o w)) H locs 73 ls [] := by
    intro x1 r hf hF H locs ls hW hl
    unfold f_X5_digest_J73 at hf
    refine lv_aload_n hx hb dX5_digest_73 rfl (lv_at hl 0 rfl) ?_
    refine k_get C0 hW 5 1 0 (v := .ref (a (o + 12))) rfl (by decide) inX5 mf_X5_18 rfl rfl dX5_digest_74 ?_
    refine lv_aload_n hx hb dX5_digest_77 rfl (lv_at hl 0 rfl) ?_
    refine k_get C0 hW 5 0 0 (v := .ref (a (o + 3))) rfl (by decide) inX5 mf_X5_14 rfl rfl dX5_digest_78 ?_
    refine lv_lload_n hx hb dX5_digest_81 rfl (lv_at hl 1 rfl) ?_
    obtain ⟨q82, hq82⟩ := ob_s hf
    replace hf := hq82.2
    replace hq82 := hq82.1
    refine bV1 (rest := [.ref (a (o + 12))]) (bs := bsWw G a o w) (bs1 := bsWw G a o w) (st1 := [.long q82, .ref (a (o + 12))]) C0 hW hl.1 (c_X3_mix l G a (o + 3) 6 40 (ww_rows w) x1 _ hq82) cb_X3_mix mm_X5_277 ([1, 2, 3, 4, 5, 6, 7]) ([0, 8, 9, 10, 11, 12, 13, 14, 15, 16, 17, 18, 19, 20, 21, 22, 23, 24]) (ap_1_2_3_4_5_6_7) (ac_1_2_3_4_5_6_7 (w := w)) (ac_1_2_3_4_5_6_7 (w := w)) rfl rfl rfl 0 3 rfl rfl rfl (by decide) rfl rfl (Nat.le_of_ble_eq_true rfl) ⟨Nat.zero_le _, Nat.zero_le _⟩ dX5_digest_82 rfl (fun H locs hW => ?_)
    obtain ⟨q85, hq85⟩ := ob_s hf
    replace hf := hq85.2
    replace hq85 := hq85.1
    refine bV1 (rest := []) (bs := bsWw G a o w) (bs1 := bsWw G a o w) (st1 := [.long q85]) C0 hW hl.1 (c_X3_mix l G a (o + 12) 4 60 (ww_texts w) q82 _ hq85) cb_X3_mix mm_X5_277 ([8, 9, 10, 11, 12]) ([0, 1, 2, 3, 4, 5, 6, 7, 13, 14, 15, 16, 17, 18, 19, 20, 21, 22, 23, 24]) (ap_8_9_10_11_12) (ac_8_9_10_11_12 (w := w)) (ac_8_9_10_11_12 (w := w)) rfl rfl rfl 0 3 rfl rfl rfl (by decide) rfl rfl (Nat.le_of_ble_eq_true rfl) ⟨Nat.zero_le _, Nat.zero_le _⟩ dX5_digest_85 rfl (fun H locs hW => ?_)
    have e1 := Option.some.inj hf
    subst e1
    have hF : (q85 : Int64) = out := hF
    subst hF
    exact k_lret C0 hW dX5_digest_88
  have L45 : ∀ (k8 : Nat) (sg : Int64 × Int32) (o9 : Int64), lp (f_X5_digest_L45 w) k8 sg = some o9 → (fun (r : Int64) => r = out) o9 → (fun (sg : Int64 × Int32) => ∀ (H : Heap) (locs : List Loc) (ls : Array Slot), Wd G A s.heap H (bWw G a o w) locs → lv_has ls 4 [(0, .ref (a o)), (1, .long sg.1), (3, .int sg.2)] → WW p l e 5 s m [.ref (a o)] below meth c G A (some (.long out)) ((bWw G a o w)) H locs 45 ls []) sg := by
    have B45 : ∀ (x1 : Int64) (x3 : Int32) (r : (Int64 × Int32) ⊕ (Int64)), f_X5_digest_B45 w x1 x3 = some r → (Sum.elim (fun (sg : Int64 × Int32) => ∀ (H : Heap) (locs : List Loc) (ls : Array Slot), Wd G A s.heap H (bWw G a o w) locs → lv_has ls 4 [(0, .ref (a o)), (1, .long sg.1), (3, .int sg.2)] → WW p l e 5 s m [.ref (a o)] below meth c G A (some (.long out)) ((bWw G a o w)) H locs 45 ls []) (fun (r : Int64) => r = out)) r → ∀ (H : Heap) (locs : List Loc) (ls : Array Slot), Wd G A s.heap H (bWw G a o w) locs → lv_has ls 4 [(0, .ref (a o)), (1, .long x1), (3, .int x3)] → WW p l e 5 s m [.ref (a o)] below meth c G A (some (.long out)) ((bWw G a o w)) H locs 45 ls [] := by
      intro x1 x3 r hf hF H locs ls hW hl
      unfold f_X5_digest_B45 at hf
      refine lv_iload_n hx hb dX5_digest_45 rfl (lv_at hl 2 rfl) ?_
      refine lv_iconst (v := 3) hx hb dX5_digest_46 (by decide) ?_
      refine lv_icmp_ge (tgt := 73) hx hb dX5_digest_47 (by decide) (fun c47_2 => ?_) (fun c47_2 => ?_)
      · replace hf := if_t c47_2 hf
        obtain ⟨r2, e2⟩ := om_s hf
        replace hf := e2.1
        replace e2 := e2.2
        subst e2
        replace hF := elim_r hF
        exact J73 _ _ hf hF _ _ _ hW (lv_sub hl [0, 1] rfl)
      · replace hf := if_f c47_2 hf
        refine lv_ldc2 hx hb C0.2.2.2.2.2.1 (C0.2.2.2.2.2.2.1 _ mk_X5_271) dX5_digest_50 ?_
        refine lv_lload_n hx hb dX5_digest_53 rfl (lv_at hl 1 rfl) ?_
        refine lv_lmul hx hb dX5_digest_54 ?_
        refine lv_aload_n hx hb dX5_digest_55 rfl (lv_at hl 0 rfl) ?_
        refine k_get C0 hW 5 4 0 (v := .ref (a (o + 2))) rfl (by decide) inX5 mf_X5_35 rfl rfl dX5_digest_56 ?_
        refine lv_iload_n hx hb dX5_digest_59 rfl (lv_at hl 2 rfl) ?_
        by_cases hk9 : x3 = 0
        · replace hf := if_t hk9 hf
          refine k_aaldC C0 hW 2 (b := a (o + 36)) rfl (by rw [hk9]; exact inb_in rfl) (by rw [hk9]; rfl) dX5_digest_60 ?_
          refine k_get C0 hW 1 3 36 (v := .int (ct_done (ww_kept w 0))) rfl (by decide) inX1 mf_X5_39 rfl rfl dX5_digest_61 ?_
          refine lv_i2l (v := (ct_done (ww_kept w 0)).toInt64) hx hb dX5_digest_64 rfl ?_
          refine lv_ladd hx hb dX5_digest_65 ?_
          refine lv_topl (fun v66 ev66 => ?_)
          replace hf := nm_s ev66 hf
          refine lv_lstore_n (lv' := [(1, .long v66), (0, .ref (a o)), (3, .int x3)]) hx hb dX5_digest_66 rfl hl (by decide) rfl (fun ls hl => ?_)
          refine lv_iinc (v := (x3 + (1 : Int32))) (lv' := [(3, .int (x3 + (1 : Int32))), (1, .long v66), (0, .ref (a o))]) hx hb dX5_digest_67 hl (k := 2) rfl rfl (by decide) rfl (fun ls hl => ?_)
          refine lv_goto (tgt := 45) hx hb dX5_digest_70 (by decide) ?_
          have e1 := Option.some.inj hf
          subst e1
          exact (elim_l hF) _ _ _ hW (lv_sub hl [2, 1, 0] rfl)
        replace hf := if_f hk9 hf
        by_cases hk9 : x3 = 1
        · replace hf := if_t hk9 hf
          refine k_aaldC C0 hW 2 (b := a (o + 45)) rfl (by rw [hk9]; exact inb_in rfl) (by rw [hk9]; rfl) dX5_digest_60 ?_
          refine k_get C0 hW 1 3 45 (v := .int (ct_done (ww_kept w 1))) rfl (by decide) inX1 mf_X5_39 rfl rfl dX5_digest_61 ?_
          refine lv_i2l (v := (ct_done (ww_kept w 1)).toInt64) hx hb dX5_digest_64 rfl ?_
          refine lv_ladd hx hb dX5_digest_65 ?_
          refine lv_topl (fun v66 ev66 => ?_)
          replace hf := nm_s ev66 hf
          refine lv_lstore_n (lv' := [(1, .long v66), (0, .ref (a o)), (3, .int x3)]) hx hb dX5_digest_66 rfl hl (by decide) rfl (fun ls hl => ?_)
          refine lv_iinc (v := (x3 + (1 : Int32))) (lv' := [(3, .int (x3 + (1 : Int32))), (1, .long v66), (0, .ref (a o))]) hx hb dX5_digest_67 hl (k := 2) rfl rfl (by decide) rfl (fun ls hl => ?_)
          refine lv_goto (tgt := 45) hx hb dX5_digest_70 (by decide) ?_
          have e1 := Option.some.inj hf
          subst e1
          exact (elim_l hF) _ _ _ hW (lv_sub hl [2, 1, 0] rfl)
        replace hf := if_f hk9 hf
        by_cases hk9 : x3 = 2
        · replace hf := if_t hk9 hf
          refine k_aaldC C0 hW 2 (b := a (o + 54)) rfl (by rw [hk9]; exact inb_in rfl) (by rw [hk9]; rfl) dX5_digest_60 ?_
          refine k_get C0 hW 1 3 54 (v := .int (ct_done (ww_kept w 2))) rfl (by decide) inX1 mf_X5_39 rfl rfl dX5_digest_61 ?_
          refine lv_i2l (v := (ct_done (ww_kept w 2)).toInt64) hx hb dX5_digest_64 rfl ?_
          refine lv_ladd hx hb dX5_digest_65 ?_
          refine lv_topl (fun v66 ev66 => ?_)
          replace hf := nm_s ev66 hf
          refine lv_lstore_n (lv' := [(1, .long v66), (0, .ref (a o)), (3, .int x3)]) hx hb dX5_digest_66 rfl hl (by decide) rfl (fun ls hl => ?_)
          refine lv_iinc (v := (x3 + (1 : Int32))) (lv' := [(3, .int (x3 + (1 : Int32))), (1, .long v66), (0, .ref (a o))]) hx hb dX5_digest_67 hl (k := 2) rfl rfl (by decide) rfl (fun ls hl => ?_)
          refine lv_goto (tgt := 45) hx hb dX5_digest_70 (by decide) ?_
          have e1 := Option.some.inj hf
          subst e1
          exact (elim_l hF) _ _ _ hW (lv_sub hl [2, 1, 0] rfl)
        replace hf := if_f hk9 hf
        cases hf
    exact lp_sound (fun sg r hb hz => B45 sg.1 sg.2 r hb hz)
  have J31 : ∀ (x1 : Int64) (r : Int64), f_X5_digest_J31 w x1 = some r → (fun (r : Int64) => r = out) r → ∀ (H : Heap) (locs : List Loc) (ls : Array Slot), Wd G A s.heap H (bWw G a o w) locs → lv_has ls 4 [(0, .ref (a o)), (1, .long x1)] → WW p l e 5 s m [.ref (a o)] below meth c G A (some (.long out)) ((bWw G a o w)) H locs 31 ls [] := by
    intro x1 r hf hF H locs ls hW hl
    unfold f_X5_digest_J31 at hf
    refine lv_aload_n hx hb dX5_digest_31 rfl (lv_at hl 0 rfl) ?_
    refine k_get C0 hW 5 3 0 (v := .ref (a (o + 27))) rfl (by decide) inX5 mf_X5_31 rfl rfl dX5_digest_32 ?_
    refine k_get C0 hW 1 0 27 (v := .ref (a (o + 30))) rfl (by decide) inX1 mf_X5_45 rfl rfl dX5_digest_35 ?_
    refine lv_lload_n hx hb dX5_digest_38 rfl (lv_at hl 1 rfl) ?_
    obtain ⟨q39, hq39⟩ := ob_s hf
    replace hf := hq39.2
    replace hq39 := hq39.1
    refine bV1 (rest := []) (bs := bsWw G a o w) (bs1 := bsWw G a o w) (st1 := [.long q39]) C0 hW hl.1 (c_X4_mix l G a (o + 30) (ct_wheel (ww_cart w)) x1 _ hq39) cb_X4_mix mm_X5_273 ([16]) ([0, 1, 2, 3, 4, 5, 6, 7, 8, 9, 10, 11, 12, 13, 14, 15, 17, 18, 19, 20, 21, 22, 23, 24]) (ap_16) (ac_16 (w := w)) (ac_16 (w := w)) rfl rfl rfl 0 4 rfl rfl rfl (by decide) rfl rfl (Nat.le_of_ble_eq_true rfl) ⟨Nat.zero_le _, Nat.zero_le _⟩ dX5_digest_39 rfl (fun H locs hW => ?_)
    refine lv_lstore_n (lv' := [(1, .long q39), (0, .ref (a o))]) hx hb dX5_digest_42 rfl hl (by decide) rfl (fun ls hl => ?_)
    refine lv_iconst (v := 0) hx hb dX5_digest_43 (by decide) ?_
    refine lv_istore_n (lv' := [(3, .int (0 : Int32)), (1, .long q39), (0, .ref (a o))]) hx hb dX5_digest_44 rfl hl (by decide) rfl (fun ls hl => ?_)
    exact L45  fuel (q39, (0 : Int32)) _ hf hF _ _ _ hW (lv_sub hl [2, 1, 0] rfl)
  have L6 : ∀ (k8 : Nat) (sg : Int64 × Int32) (o9 : Int64), lp (f_X5_digest_L6 w) k8 sg = some o9 → (fun (r : Int64) => r = out) o9 → (fun (sg : Int64 × Int32) => ∀ (H : Heap) (locs : List Loc) (ls : Array Slot), Wd G A s.heap H (bWw G a o w) locs → lv_has ls 4 [(0, .ref (a o)), (1, .long sg.1), (3, .int sg.2)] → WW p l e 5 s m [.ref (a o)] below meth c G A (some (.long out)) ((bWw G a o w)) H locs 6 ls []) sg := by
    have B6 : ∀ (x1 : Int64) (x3 : Int32) (r : (Int64 × Int32) ⊕ (Int64)), f_X5_digest_B6 w x1 x3 = some r → (Sum.elim (fun (sg : Int64 × Int32) => ∀ (H : Heap) (locs : List Loc) (ls : Array Slot), Wd G A s.heap H (bWw G a o w) locs → lv_has ls 4 [(0, .ref (a o)), (1, .long sg.1), (3, .int sg.2)] → WW p l e 5 s m [.ref (a o)] below meth c G A (some (.long out)) ((bWw G a o w)) H locs 6 ls []) (fun (r : Int64) => r = out)) r → ∀ (H : Heap) (locs : List Loc) (ls : Array Slot), Wd G A s.heap H (bWw G a o w) locs → lv_has ls 4 [(0, .ref (a o)), (1, .long x1), (3, .int x3)] → WW p l e 5 s m [.ref (a o)] below meth c G A (some (.long out)) ((bWw G a o w)) H locs 6 ls [] := by
      intro x1 x3 r hf hF H locs ls hW hl
      unfold f_X5_digest_B6 at hf
      refine lv_iload_n hx hb dX5_digest_6 rfl (lv_at hl 2 rfl) ?_
      refine lv_bipush (v := 12) hx hb dX5_digest_7 (by decide) ?_
      refine lv_icmp_gt (tgt := 31) hx hb dX5_digest_9 (by decide) (fun c9_1 => ?_) (fun c9_1 => ?_)
      · replace hf := if_t c9_1 hf
        obtain ⟨r2, e2⟩ := om_s hf
        replace hf := e2.1
        replace e2 := e2.2
        subst e2
        replace hF := elim_r hF
        exact J31 _ _ hf hF _ _ _ hW (lv_sub hl [0, 1] rfl)
      · replace hf := if_f c9_1 hf
        refine lv_ldc2 hx hb C0.2.2.2.2.2.1 (C0.2.2.2.2.2.2.1 _ mk_X5_271) dX5_digest_12 ?_
        refine lv_lload_n hx hb dX5_digest_15 rfl (lv_at hl 1 rfl) ?_
        refine lv_lmul hx hb dX5_digest_16 ?_
        refine lv_aload_n hx hb dX5_digest_17 rfl (lv_at hl 0 rfl) ?_
        refine lv_iload_n hx hb dX5_digest_18 rfl (lv_at hl 2 rfl) ?_
        obtain ⟨q19, hq19⟩ := ob_s hf
        replace hf := hq19.2
        replace hq19 := hq19.1
        refine cW1 (rest := [.long ((31 : Int64) * x1)]) (ws1 := (bWw G a o w)) (st1 := [.int q19, .long ((31 : Int64) * x1)]) C0 hW hl.1 (c_X5_counted l G a o w x3 _ hq19) cb_X5_counted mm_X5_263 fst_Ww 0 5 rfl rfl rfl (by decide) rfl rfl (Nat.le_of_ble_eq_true rfl) ⟨Nat.zero_le _, Nat.zero_le _⟩ dX5_digest_19 rfl (fun H locs hW => ?_)
        refine lv_i2l (v := q19.toInt64) hx hb dX5_digest_22 rfl ?_
        refine lv_ladd hx hb dX5_digest_23 ?_
        refine lv_topl (fun v24 ev24 => ?_)
        replace hf := nm_s ev24 hf
        refine lv_lstore_n (lv' := [(1, .long v24), (0, .ref (a o)), (3, .int x3)]) hx hb dX5_digest_24 rfl hl (by decide) rfl (fun ls hl => ?_)
        refine lv_iinc (v := (x3 + (1 : Int32))) (lv' := [(3, .int (x3 + (1 : Int32))), (1, .long v24), (0, .ref (a o))]) hx hb dX5_digest_25 hl (k := 2) rfl rfl (by decide) rfl (fun ls hl => ?_)
        refine lv_goto (tgt := 6) hx hb dX5_digest_28 (by decide) ?_
        have e1 := Option.some.inj hf
        subst e1
        exact (elim_l hF) _ _ _ hW (lv_sub hl [2, 1, 0] rfl)
    exact lp_sound (fun sg r hb hz => B6 sg.1 sg.2 r hb hz)
  obtain ⟨r, hr⟩ : ∃ r, f_X5_digest w = some r ∧ r = out := ⟨out, hf, rfl⟩
  replace hf := hr.1
  have hF := hr.2
  clear hr
  unfold f_X5_digest at hf
  refine lv_ldc2 hx hb C0.2.2.2.2.2.1 (C0.2.2.2.2.2.2.1 _ mk_X5_269) dX5_digest_0 ?_
  refine lv_lstore_n (lv' := [(1, .long (17 : Int64)), (0, .ref (a o))]) hx hb dX5_digest_3 rfl hl (by decide) rfl (fun ls hl => ?_)
  refine lv_iconst (v := 0) hx hb dX5_digest_4 (by decide) ?_
  refine lv_istore_n (lv' := [(3, .int (0 : Int32)), (1, .long (17 : Int64)), (0, .ref (a o))]) hx hb dX5_digest_5 rfl hl (by decide) rfl (fun ls hl => ?_)
  exact L6  fuel ((17 : Int64), (0 : Int32)) _ hf hF _ _ _ hW (lv_sub hl [2, 1, 0] rfl)

def f_X5_doDeed (w : Ww) (x1 : Int32) (x2 : Int32) : Option (Int32 × Ww) :=
  if (ct_done (ww_cart w)) < (40 : Int32) then (Option.bind (f_X1_add (ww_cart w) x1 x2) (fun q23 => some (q23.1, (ww_set_cart w q23.2)))) else (some ((-2 : Int32), w))
set_option maxRecDepth 100000 in
set_option maxHeartbeats 8000000 in
theorem c_X5_doDeed (l : Launch) (G : GG) (a : Nat → Nat) (o : Nat) (w : Ww) (x1 : Int32) (x2 : Int32) (out : Int32 × Ww) (hf : f_X5_doDeed w x1 x2 = some out) : Cn l G 5 yX5_doDeed cX5_doDeed 3 (some .int) [.ref (a o), .int x1, .int x2] (bWw G a o w) (some (.int out.1)) (bWw G a o out.2) := by
  refine cn_start (by decide) (Nat.le_of_ble_eq_true rfl) ?_
  intro p e s m below meth c A ls C0 hW hl
  have hx := C0.1
  have hb := C0.2.1
  have hl : lv_has ls 3 [(0, .ref (a o)), (1, .int x1), (2, .int x2)] := hl
  obtain ⟨r, hr⟩ : ∃ r, f_X5_doDeed w x1 x2 = some r ∧ r = out := ⟨out, hf, rfl⟩
  replace hf := hr.1
  have hF := hr.2
  clear hr
  unfold f_X5_doDeed at hf
  refine lv_aload_n hx hb dX5_doDeed_0 rfl (lv_at hl 0 rfl) ?_
  refine k_get C0 hW 5 3 0 (v := .ref (a (o + 27))) rfl (by decide) inX5 mf_X5_31 rfl rfl dX5_doDeed_1 ?_
  refine k_get C0 hW 1 3 27 (v := .int (ct_done (ww_cart w))) rfl (by decide) inX1 mf_X5_39 rfl rfl dX5_doDeed_4 ?_
  refine lv_bipush (v := 40) hx hb dX5_doDeed_7 (by decide) ?_
  refine lv_icmp_lt (tgt := 17) hx hb dX5_doDeed_9 (by decide) (fun c9_1 => ?_) (fun c9_1 => ?_)
  · replace hf := if_t c9_1 hf
    refine lv_aload_n hx hb dX5_doDeed_17 rfl (lv_at hl 0 rfl) ?_
    refine k_get C0 hW 5 3 0 (v := .ref (a (o + 27))) rfl (by decide) inX5 mf_X5_31 rfl rfl dX5_doDeed_18 ?_
    refine lv_iload_n hx hb dX5_doDeed_21 rfl (lv_at hl 1 rfl) ?_
    refine lv_iload_n hx hb dX5_doDeed_22 rfl (lv_at hl 2 rfl) ?_
    obtain ⟨q23, hq23⟩ := ob_s hf
    replace hf := hq23.2
    replace hq23 := hq23.1
    refine bV1 (rest := []) (bs := bsWw G a o w) (bs1 := bsWw G a o (ww_set_cart w q23.2)) (st1 := [.int q23.1]) C0 hW hl.1 (c_X1_add l G a (o + 27) (ww_cart w) x1 x2 _ hq23) cb_X1_add mm_X5_305 ([15, 16]) ([0, 1, 2, 3, 4, 5, 6, 7, 8, 9, 10, 11, 12, 13, 14, 17, 18, 19, 20, 21, 22, 23, 24]) (ap_15_16) (ac_15_16 (w := w)) (ad_15_16_w (w := w)) (ar_15_16_w (w := w)) rfl (as_15_16_w (w := w)) 0 1 rfl rfl rfl (by decide) rfl rfl (Nat.le_of_ble_eq_true rfl) ⟨Nat.zero_le _, Nat.zero_le _⟩ dX5_doDeed_23 rfl (fun H locs hW => ?_)
    have e1 := Option.some.inj hf
    subst e1
    have hF : ((q23.1, (ww_set_cart w q23.2)) : Int32 × Ww) = out := hF
    subst hF
    exact k_iret C0 hW dX5_doDeed_26
  · replace hf := if_f c9_1 hf
    refine lv_bipush (v := -2) hx hb dX5_doDeed_12 (by decide) ?_
    refine lv_goto (tgt := 26) hx hb dX5_doDeed_14 (by decide) ?_
    have e1 := Option.some.inj hf
    subst e1
    have hF : (((-2 : Int32), w) : Int32 × Ww) = out := hF
    subst hF
    exact k_iret C0 hW dX5_doDeed_26

def f_X5_doLot_J89 (w : Ww) (t1 : Int32) : Option (Ww) :=
  Option.bind (f_X1_add (ww_cart w) t1 (0 : Int32)) (fun q90 => some (ww_set_cart w q90.2))
def f_X5_doLot (w : Ww) (x1 : Int64) : Option (Ww) :=
  nm ((jremL x1 (6 : Int64)).toInt32) (fun v6 => if v6 = 0 then (Option.bind (f_X1_add (ww_cart w) (2 : Int32) (0 : Int32)) (fun q17 => some (ww_set_cart w q17.2))) else (if v6 = (1 : Int32) then (nm (jmax (1 : Int32) (wh_spokes (ct_wheel (ww_cart w)))) (fun v43 => gd (decide (¬ (v43.toInt64) = 0)) (Option.bind (f_X1_add (ww_cart w) (4 : Int32) ((jremL (x1 / (8 : Int64)) (v43.toInt64)).toInt32)) (fun q60 => some (ww_set_cart w q60.2))))) else (Option.bind (f_X4_isOver (ct_wheel (ww_cart w))) (fun q78 => if q78 = 0 then (f_X5_doLot_J89 w (0 : Int32)) else (f_X5_doLot_J89 w (1 : Int32))))))
set_option maxRecDepth 100000 in
set_option maxHeartbeats 8000000 in
theorem c_X5_doLot (l : Launch) (G : GG) (a : Nat → Nat) (o : Nat) (w : Ww) (x1 : Int64) (out : Ww) (hf : f_X5_doLot w x1 = some out) : Cn l G 5 yX5_doLot cX5_doLot 5 (none) [.ref (a o), .long x1] (bWw G a o w) (none) (bWw G a o out) := by
  refine cn_start (by decide) (Nat.le_of_ble_eq_true rfl) ?_
  intro p e s m below meth c A ls C0 hW hl
  have hx := C0.1
  have hb := C0.2.1
  have hl : lv_has ls 5 [(0, .ref (a o)), (1, .long x1)] := hl
  have J89 : ∀ (t1 : Int32) (w : Ww) (r : Ww), f_X5_doLot_J89 w t1 = some r → (fun (r : Ww) => r = out) r → ∀ (H : Heap) (locs : List Loc) (ls : Array Slot), Wd G A s.heap H (bWw G a o w) locs → lv_has ls 5 [] → WW p l e 5 s m [.ref (a o), .long x1] below meth c G A (none) ((bWw G a o out)) H locs 89 ls [.int t1, .ref (a (o + 27))] := by
    intro t1 w r hf hF H locs ls hW hl
    unfold f_X5_doLot_J89 at hf
    refine lv_iconst (v := 0) hx hb dX5_doLot_89 (by decide) ?_
    obtain ⟨q90, hq90⟩ := ob_s hf
    replace hf := hq90.2
    replace hq90 := hq90.1
    refine bV1 (rest := []) (bs := bsWw G a o w) (bs1 := bsWw G a o (ww_set_cart w q90.2)) (st1 := [.int q90.1]) C0 hW hl.1 (c_X1_add l G a (o + 27) (ww_cart w) t1 (0 : Int32) _ hq90) cb_X1_add mm_X5_305 ([15, 16]) ([0, 1, 2, 3, 4, 5, 6, 7, 8, 9, 10, 11, 12, 13, 14, 17, 18, 19, 20, 21, 22, 23, 24]) (ap_15_16) (ac_15_16 (w := w)) (ad_15_16_w (w := w)) (ar_15_16_w (w := w)) rfl (as_15_16_w (w := w)) 0 1 rfl rfl rfl (by decide) rfl rfl (Nat.le_of_ble_eq_true rfl) ⟨Nat.zero_le _, Nat.zero_le _⟩ dX5_doLot_90 rfl (fun H locs hW => ?_)
    refine lv_pop hx hb dX5_doLot_93 rfl ?_
    have e1 := Option.some.inj hf
    subst e1
    have hF : ((ww_set_cart w q90.2) : Ww) = out := hF
    subst hF
    exact k_vret C0 hW dX5_doLot_94
  obtain ⟨r, hr⟩ : ∃ r, f_X5_doLot w x1 = some r ∧ r = out := ⟨out, hf, rfl⟩
  replace hf := hr.1
  have hF := hr.2
  clear hr
  unfold f_X5_doLot at hf
  refine lv_lload_n hx hb dX5_doLot_0 rfl (lv_at hl 1 rfl) ?_
  refine lv_ldc2 hx hb C0.2.2.2.2.2.1 (C0.2.2.2.2.2.2.1 _ mk_X5_308) dX5_doLot_1 ?_
  refine lv_lrem hx hb dX5_doLot_4 (by decide) ?_
  refine lv_l2i (v := (jremL x1 (6 : Int64)).toInt32) hx hb dX5_doLot_5 rfl ?_
  refine lv_topi (fun v6 ev6 => ?_)
  replace hf := nm_s ev6 hf
  refine lv_istore_n (lv' := [(3, .int v6), (0, .ref (a o)), (1, .long x1)]) hx hb dX5_doLot_6 rfl hl (by decide) rfl (fun ls hl => ?_)
  refine lv_iload_n hx hb dX5_doLot_7 rfl (lv_at hl 0 rfl) ?_
  refine lv_if_ne (tgt := 24) hx hb dX5_doLot_8 (by decide) (fun c8_2 => ?_) (fun c8_2 => ?_)
  · replace hf := if_f c8_2 hf
    refine lv_iload_n hx hb dX5_doLot_24 rfl (lv_at hl 0 rfl) ?_
    refine lv_iconst (v := 1) hx hb dX5_doLot_25 (by decide) ?_
    refine lv_icmp_ne (tgt := 67) hx hb dX5_doLot_26 (by decide) (fun c26_3 => ?_) (fun c26_3 => ?_)
    · replace hf := if_f c26_3 hf
      refine lv_aload_n hx hb dX5_doLot_67 rfl (lv_at hl 1 rfl) ?_
      refine k_get C0 hW 5 3 0 (v := .ref (a (o + 27))) rfl (by decide) inX5 mf_X5_31 rfl rfl dX5_doLot_68 ?_
      refine lv_aload_n hx hb dX5_doLot_71 rfl (lv_at hl 1 rfl) ?_
      refine k_get C0 hW 5 3 0 (v := .ref (a (o + 27))) rfl (by decide) inX5 mf_X5_31 rfl rfl dX5_doLot_72 ?_
      refine k_get C0 hW 1 0 27 (v := .ref (a (o + 30))) rfl (by decide) inX1 mf_X5_45 rfl rfl dX5_doLot_75 ?_
      obtain ⟨q78, hq78⟩ := ob_s hf
      replace hf := hq78.2
      replace hq78 := hq78.1
      refine bV1 (rest := [.ref (a (o + 27))]) (bs := bsWw G a o w) (bs1 := bsWw G a o w) (st1 := [.int q78, .ref (a (o + 27))]) C0 hW hl.1 (c_X4_isOver l G a (o + 30) (ct_wheel (ww_cart w)) _ hq78) cb_X4_isOver mm_X5_167 ([16]) ([0, 1, 2, 3, 4, 5, 6, 7, 8, 9, 10, 11, 12, 13, 14, 15, 17, 18, 19, 20, 21, 22, 23, 24]) (ap_16) (ac_16 (w := w)) (ac_16 (w := w)) rfl rfl rfl 0 4 rfl rfl rfl (by decide) rfl rfl (Nat.le_of_ble_eq_true rfl) ⟨Nat.zero_le _, Nat.zero_le _⟩ dX5_doLot_78 rfl (fun H locs hW => ?_)
      refine lv_if_eq (tgt := 88) hx hb dX5_doLot_81 (by decide) (fun c81_4 => ?_) (fun c81_4 => ?_)
      · replace hf := if_t c81_4 hf
        refine lv_iconst (v := 0) hx hb dX5_doLot_88 (by decide) ?_
        exact J89 _ _ _ hf hF _ _ _ hW (lv_sub hl [] rfl)
      · replace hf := if_f c81_4 hf
        refine lv_iconst (v := 1) hx hb dX5_doLot_84 (by decide) ?_
        refine lv_goto (tgt := 89) hx hb dX5_doLot_85 (by decide) ?_
        exact J89 _ _ _ hf hF _ _ _ hW (lv_sub hl [] rfl)
    · replace hf := if_t c26_3 hf
      refine lv_iconst (v := 1) hx hb dX5_doLot_29 (by decide) ?_
      refine lv_aload_n hx hb dX5_doLot_30 rfl (lv_at hl 1 rfl) ?_
      refine k_get C0 hW 5 3 0 (v := .ref (a (o + 27))) rfl (by decide) inX5 mf_X5_31 rfl rfl dX5_doLot_31 ?_
      refine k_get C0 hW 1 0 27 (v := .ref (a (o + 30))) rfl (by decide) inX1 mf_X5_45 rfl rfl dX5_doLot_34 ?_
      refine k_get C0 hW 4 5 30 (v := .int (wh_spokes (ct_wheel (ww_cart w)))) rfl (by decide) inX4 mf_X5_131 rfl rfl dX5_doLot_37 ?_
      refine k_max C0 hl.1 mm_X5_310 (by decide) (Nat.le_of_ble_eq_true rfl) dX5_doLot_40 ?_
      refine lv_topi (fun v43 ev43 => ?_)
      replace hf := nm_s ev43 hf
      refine lv_istore (lv' := [(4, .int v43), (3, .int v6), (0, .ref (a o)), (1, .long x1)]) hx hb dX5_doLot_43 hl (by decide) rfl (fun ls hl => ?_)
      refine lv_aload_n hx hb dX5_doLot_45 rfl (lv_at hl 2 rfl) ?_
      refine k_get C0 hW 5 3 0 (v := .ref (a (o + 27))) rfl (by decide) inX5 mf_X5_31 rfl rfl dX5_doLot_46 ?_
      refine lv_iconst (v := 4) hx hb dX5_doLot_49 (by decide) ?_
      refine lv_lload_n hx hb dX5_doLot_50 rfl (lv_at hl 3 rfl) ?_
      refine lv_ldc2 hx hb C0.2.2.2.2.2.1 (C0.2.2.2.2.2.2.1 _ mk_X5_315) dX5_doLot_51 ?_
      refine lv_ldiv hx hb dX5_doLot_54 (by decide) ?_
      refine lv_iload hx hb dX5_doLot_55 (lv_at hl 0 rfl) ?_
      refine lv_i2l (v := v43.toInt64) hx hb dX5_doLot_57 rfl ?_
      have g58_6 := (gd_some hf).1; replace hf := (gd_some hf).2
      refine lv_lrem hx hb dX5_doLot_58 (of_decide_eq_true g58_6) ?_
      refine lv_l2i (v := (jremL (x1 / (8 : Int64)) (v43.toInt64)).toInt32) hx hb dX5_doLot_59 rfl ?_
      obtain ⟨q60, hq60⟩ := ob_s hf
      replace hf := hq60.2
      replace hq60 := hq60.1
      refine bV1 (rest := []) (bs := bsWw G a o w) (bs1 := bsWw G a o (ww_set_cart w q60.2)) (st1 := [.int q60.1]) C0 hW hl.1 (c_X1_add l G a (o + 27) (ww_cart w) (4 : Int32) ((jremL (x1 / (8 : Int64)) (v43.toInt64)).toInt32) _ hq60) cb_X1_add mm_X5_305 ([15, 16]) ([0, 1, 2, 3, 4, 5, 6, 7, 8, 9, 10, 11, 12, 13, 14, 17, 18, 19, 20, 21, 22, 23, 24]) (ap_15_16) (ac_15_16 (w := w)) (ad_15_16_w (w := w)) (ar_15_16_w (w := w)) rfl (as_15_16_w (w := w)) 0 1 rfl rfl rfl (by decide) rfl rfl (Nat.le_of_ble_eq_true rfl) ⟨Nat.zero_le _, Nat.zero_le _⟩ dX5_doLot_60 rfl (fun H locs hW => ?_)
      refine lv_pop hx hb dX5_doLot_63 rfl ?_
      refine lv_goto (tgt := 94) hx hb dX5_doLot_64 (by decide) ?_
      have e1 := Option.some.inj hf
      subst e1
      have hF : ((ww_set_cart w q60.2) : Ww) = out := hF
      subst hF
      exact k_vret C0 hW dX5_doLot_94
  · replace hf := if_t c8_2 hf
    refine lv_aload_n hx hb dX5_doLot_11 rfl (lv_at hl 1 rfl) ?_
    refine k_get C0 hW 5 3 0 (v := .ref (a (o + 27))) rfl (by decide) inX5 mf_X5_31 rfl rfl dX5_doLot_12 ?_
    refine lv_iconst (v := 2) hx hb dX5_doLot_15 (by decide) ?_
    refine lv_iconst (v := 0) hx hb dX5_doLot_16 (by decide) ?_
    obtain ⟨q17, hq17⟩ := ob_s hf
    replace hf := hq17.2
    replace hq17 := hq17.1
    refine bV1 (rest := []) (bs := bsWw G a o w) (bs1 := bsWw G a o (ww_set_cart w q17.2)) (st1 := [.int q17.1]) C0 hW hl.1 (c_X1_add l G a (o + 27) (ww_cart w) (2 : Int32) (0 : Int32) _ hq17) cb_X1_add mm_X5_305 ([15, 16]) ([0, 1, 2, 3, 4, 5, 6, 7, 8, 9, 10, 11, 12, 13, 14, 17, 18, 19, 20, 21, 22, 23, 24]) (ap_15_16) (ac_15_16 (w := w)) (ad_15_16_w (w := w)) (ar_15_16_w (w := w)) rfl (as_15_16_w (w := w)) 0 1 rfl rfl rfl (by decide) rfl rfl (Nat.le_of_ble_eq_true rfl) ⟨Nat.zero_le _, Nat.zero_le _⟩ dX5_doLot_17 rfl (fun H locs hW => ?_)
    refine lv_pop hx hb dX5_doLot_20 rfl ?_
    refine lv_goto (tgt := 94) hx hb dX5_doLot_21 (by decide) ?_
    have e1 := Option.some.inj hf
    subst e1
    have hF : ((ww_set_cart w q17.2) : Ww) = out := hF
    subst hF
    exact k_vret C0 hW dX5_doLot_94

def f_X5_duel (w : Ww) (x1 : Int32) : Option (Int32 × Ww) :=
  if x1 < 0 then (some ((-1 : Int32), w)) else (if x1 ≤ (4 : Int32) then (Option.bind (f_X4_isEmpty (ct_wheel (ww_cart w))) (fun q18 => if q18 = 0 then (Option.bind (f_X0_fight 6 (ww_aside w) (ct_wheel (ww_cart w)) x1 (1 : Int32) (wh_there (ct_wheel (ww_cart w))) (0 : Int32) (-1 : Int32) (13 : Int32)) (fun q47 => some (q47.1, (ww_set_aside w q47.2)))) else (some ((-4 : Int32), w)))) else (some ((-1 : Int32), w)))
set_option maxRecDepth 100000 in
set_option maxHeartbeats 8000000 in
theorem c_X5_duel (l : Launch) (G : GG) (a : Nat → Nat) (o : Nat) (w : Ww) (x1 : Int32) (out : Int32 × Ww) (hf : f_X5_duel w x1 = some out) : Cn l G 12 yX5_duel cX5_duel 2 (some .int) [.ref (a o), .int x1] (bWw G a o w) (some (.int out.1)) (bWw G a o out.2) := by
  refine cn_start (by decide) (Nat.le_of_ble_eq_true rfl) ?_
  intro p e s m below meth c A ls C0 hW hl
  have hx := C0.1
  have hb := C0.2.1
  have hl : lv_has ls 2 [(0, .ref (a o)), (1, .int x1)] := hl
  obtain ⟨r, hr⟩ : ∃ r, f_X5_duel w x1 = some r ∧ r = out := ⟨out, hf, rfl⟩
  replace hf := hr.1
  have hF := hr.2
  clear hr
  unfold f_X5_duel at hf
  refine lv_iload_n hx hb dX5_duel_0 rfl (lv_at hl 1 rfl) ?_
  refine lv_if_lt (tgt := 9) hx hb dX5_duel_1 (by decide) (fun c1_1 => ?_) (fun c1_1 => ?_)
  · replace hf := if_t c1_1 hf
    refine lv_iconst (v := -1) hx hb dX5_duel_9 (by decide) ?_
    have e1 := Option.some.inj hf
    subst e1
    have hF : (((-1 : Int32), w) : Int32 × Ww) = out := hF
    subst hF
    exact k_iret C0 hW dX5_duel_10
  · replace hf := if_f c1_1 hf
    refine lv_iload_n hx hb dX5_duel_4 rfl (lv_at hl 1 rfl) ?_
    refine lv_iconst (v := 4) hx hb dX5_duel_5 (by decide) ?_
    refine lv_icmp_le (tgt := 11) hx hb dX5_duel_6 (by decide) (fun c6_2 => ?_) (fun c6_2 => ?_)
    · replace hf := if_t c6_2 hf
      refine lv_aload_n hx hb dX5_duel_11 rfl (lv_at hl 0 rfl) ?_
      refine k_get C0 hW 5 3 0 (v := .ref (a (o + 27))) rfl (by decide) inX5 mf_X5_31 rfl rfl dX5_duel_12 ?_
      refine k_get C0 hW 1 0 27 (v := .ref (a (o + 30))) rfl (by decide) inX1 mf_X5_45 rfl rfl dX5_duel_15 ?_
      obtain ⟨q18, hq18⟩ := ob_s hf
      replace hf := hq18.2
      replace hq18 := hq18.1
      refine bV1 (rest := []) (bs := bsWw G a o w) (bs1 := bsWw G a o w) (st1 := [.int q18]) C0 hW hl.1 (c_X4_isEmpty l G a (o + 30) (ct_wheel (ww_cart w)) _ hq18) cb_X4_isEmpty mm_X5_163 ([16]) ([0, 1, 2, 3, 4, 5, 6, 7, 8, 9, 10, 11, 12, 13, 14, 15, 17, 18, 19, 20, 21, 22, 23, 24]) (ap_16) (ac_16 (w := w)) (ac_16 (w := w)) rfl rfl rfl 0 4 rfl rfl rfl (by decide) rfl rfl (Nat.le_of_ble_eq_true rfl) ⟨Nat.zero_le _, Nat.zero_le _⟩ dX5_duel_18 rfl (fun H locs hW => ?_)
      refine lv_if_eq (tgt := 27) hx hb dX5_duel_21 (by decide) (fun c21_3 => ?_) (fun c21_3 => ?_)
      · replace hf := if_t c21_3 hf
        refine lv_aload_n hx hb dX5_duel_27 rfl (lv_at hl 0 rfl) ?_
        refine k_get C0 hW 5 5 0 (v := .ref (a (o + 63))) rfl (by decide) inX5 mf_X5_52 rfl rfl dX5_duel_28 ?_
        refine lv_iload_n hx hb dX5_duel_31 rfl (lv_at hl 1 rfl) ?_
        refine lv_iconst (v := 1) hx hb dX5_duel_32 (by decide) ?_
        refine lv_aload_n hx hb dX5_duel_33 rfl (lv_at hl 0 rfl) ?_
        refine k_get C0 hW 5 3 0 (v := .ref (a (o + 27))) rfl (by decide) inX5 mf_X5_31 rfl rfl dX5_duel_34 ?_
        refine k_get C0 hW 1 0 27 (v := .ref (a (o + 30))) rfl (by decide) inX1 mf_X5_45 rfl rfl dX5_duel_37 ?_
        refine k_get C0 hW 4 9 30 (v := .int (wh_there (ct_wheel (ww_cart w)))) rfl (by decide) inX4 mf_X5_228 rfl rfl dX5_duel_40 ?_
        refine lv_iconst (v := 0) hx hb dX5_duel_43 (by decide) ?_
        refine lv_iconst (v := -1) hx hb dX5_duel_44 (by decide) ?_
        refine lv_bipush (v := 13) hx hb dX5_duel_45 (by decide) ?_
        obtain ⟨q47, hq47⟩ := ob_s hf
        replace hf := hq47.2
        replace hq47 := hq47.1
        refine bVN1 (rest := []) (bs := bsWw G a o w) (bs1 := bsWw G a o (ww_set_aside w q47.2)) (st1 := [.int q47.1]) C0 hW hl.1 (c_X0_fight l G 6 a (o + 63) a (o + 30) (ww_aside w) (ct_wheel (ww_cart w)) x1 (1 : Int32) (wh_there (ct_wheel (ww_cart w))) (0 : Int32) (-1 : Int32) (13 : Int32) _ hq47) cb_X0_fight mn_X5_231 ([23, 24, 16]) ([0, 1, 2, 3, 4, 5, 6, 7, 8, 9, 10, 11, 12, 13, 14, 15, 17, 18, 19, 20, 21, 22]) (ap_23_24_16) (ac_23_24_16 (w := w)) (ad_23_24_16_w (w := w)) (ar_23_24_16_w (w := w)) rfl (as_23_24_16_w (w := w)) 0 0 rfl rfl rfl (by decide) rfl rfl (Nat.le_of_ble_eq_true rfl) ⟨Nat.zero_le _, Nat.zero_le _⟩ dX5_duel_47 rfl (fun H locs hW => ?_)
        have e1 := Option.some.inj hf
        subst e1
        have hF : ((q47.1, (ww_set_aside w q47.2)) : Int32 × Ww) = out := hF
        subst hF
        exact k_iret C0 hW dX5_duel_50
      · replace hf := if_f c21_3 hf
        refine lv_bipush (v := -4) hx hb dX5_duel_24 (by decide) ?_
        have e1 := Option.some.inj hf
        subst e1
        have hF : (((-4 : Int32), w) : Int32 × Ww) = out := hF
        subst hF
        exact k_iret C0 hW dX5_duel_26
    · replace hf := if_f c6_2 hf
      refine lv_iconst (v := -1) hx hb dX5_duel_9 (by decide) ?_
      have e1 := Option.some.inj hf
      subst e1
      have hF : (((-1 : Int32), w) : Int32 × Ww) = out := hF
      subst hF
      exact k_iret C0 hW dX5_duel_10

def f_X5_refuseMissing_texts (w : Ww) (x2 : Int32) : Option (Int32 × Ww) :=
  Option.bind (f_X3_isNumber 4 60 (ww_texts w) x2) (fun q2 => if q2 = 0 then (some ((-1 : Int32), w)) else (Option.bind (f_X3_isMissing 4 60 (ww_texts w) x2) (fun q12 => if q12 = 0 then (some ((0 : Int32), w)) else (Option.bind (f_X5_refuse w (1 : Int32)) (fun q20 => some (q20.1, q20.2))))))
set_option maxRecDepth 100000 in
set_option maxHeartbeats 8000000 in
theorem c_X5_refuseMissing_texts (l : Launch) (G : GG) (a : Nat → Nat) (o : Nat) (w : Ww) (x2 : Int32) (out : Int32 × Ww) (hf : f_X5_refuseMissing_texts w x2 = some out) : Cn l G 1 yX5_refuseMissing cX5_refuseMissing 3 (some .int) [.ref (a o), .ref (a (o + 12)), .int x2] (bWw G a o w) (some (.int out.1)) (bWw G a o out.2) := by
  refine cn_start (by decide) (Nat.le_of_ble_eq_true rfl) ?_
  intro p e s m below meth c A ls C0 hW hl
  have hx := C0.1
  have hb := C0.2.1
  have hl : lv_has ls 3 [(0, .ref (a o)), (1, .ref (a (o + 12))), (2, .int x2)] := hl
  obtain ⟨r, hr⟩ : ∃ r, f_X5_refuseMissing_texts w x2 = some r ∧ r = out := ⟨out, hf, rfl⟩
  replace hf := hr.1
  have hF := hr.2
  clear hr
  unfold f_X5_refuseMissing_texts at hf
  refine lv_aload_n hx hb dX5_refuseMissing_0 rfl (lv_at hl 1 rfl) ?_
  refine lv_iload_n hx hb dX5_refuseMissing_1 rfl (lv_at hl 2 rfl) ?_
  obtain ⟨q2, hq2⟩ := ob_s hf
  replace hf := hq2.2
  replace hq2 := hq2.1
  refine bV1 (rest := []) (bs := bsWw G a o w) (bs1 := bsWw G a o w) (st1 := [.int q2]) C0 hW hl.1 (c_X3_isNumber l G a (o + 12) 4 60 (ww_texts w) x2 _ hq2) cb_X3_isNumber mm_X5_92 ([8, 9, 10, 11, 12]) ([0, 1, 2, 3, 4, 5, 6, 7, 13, 14, 15, 16, 17, 18, 19, 20, 21, 22, 23, 24]) (ap_8_9_10_11_12) (ac_8_9_10_11_12 (w := w)) (ac_8_9_10_11_12 (w := w)) rfl rfl rfl 0 3 rfl rfl rfl (by decide) rfl rfl (Nat.le_of_ble_eq_true rfl) ⟨Nat.zero_le _, Nat.zero_le _⟩ dX5_refuseMissing_2 rfl (fun H locs hW => ?_)
  refine lv_if_ne (tgt := 10) hx hb dX5_refuseMissing_5 (by decide) (fun c5_1 => ?_) (fun c5_1 => ?_)
  · replace hf := if_f c5_1 hf
    refine lv_aload_n hx hb dX5_refuseMissing_10 rfl (lv_at hl 1 rfl) ?_
    refine lv_iload_n hx hb dX5_refuseMissing_11 rfl (lv_at hl 2 rfl) ?_
    obtain ⟨q12, hq12⟩ := ob_s hf
    replace hf := hq12.2
    replace hq12 := hq12.1
    refine bV1 (rest := []) (bs := bsWw G a o w) (bs1 := bsWw G a o w) (st1 := [.int q12]) C0 hW hl.1 (c_X3_isMissing l G a (o + 12) 4 60 (ww_texts w) x2 _ hq12) cb_X3_isMissing mm_X5_99 ([8, 9, 10, 11, 12]) ([0, 1, 2, 3, 4, 5, 6, 7, 13, 14, 15, 16, 17, 18, 19, 20, 21, 22, 23, 24]) (ap_8_9_10_11_12) (ac_8_9_10_11_12 (w := w)) (ac_8_9_10_11_12 (w := w)) rfl rfl rfl 0 3 rfl rfl rfl (by decide) rfl rfl (Nat.le_of_ble_eq_true rfl) ⟨Nat.zero_le _, Nat.zero_le _⟩ dX5_refuseMissing_12 rfl (fun H locs hW => ?_)
    refine lv_if_eq (tgt := 26) hx hb dX5_refuseMissing_15 (by decide) (fun c15_2 => ?_) (fun c15_2 => ?_)
    · replace hf := if_t c15_2 hf
      refine lv_iconst (v := 0) hx hb dX5_refuseMissing_26 (by decide) ?_
      have e1 := Option.some.inj hf
      subst e1
      have hF : (((0 : Int32), w) : Int32 × Ww) = out := hF
      subst hF
      exact k_iret C0 hW dX5_refuseMissing_27
    · replace hf := if_f c15_2 hf
      refine lv_aload_n hx hb dX5_refuseMissing_18 rfl (lv_at hl 0 rfl) ?_
      refine lv_iconst (v := 1) hx hb dX5_refuseMissing_19 (by decide) ?_
      obtain ⟨q20, hq20⟩ := ob_s hf
      replace hf := hq20.2
      replace hq20 := hq20.1
      refine cW1 (rest := []) (ws1 := (bWw G a o q20.2)) (st1 := [.int q20.1]) C0 hW hl.1 (c_X5_refuse l G a o w (1 : Int32) _ hq20) cb_X5_refuse mm_X5_96 fst_Ww 0 5 rfl rfl rfl (by decide) rfl rfl (Nat.le_of_ble_eq_true rfl) ⟨Nat.zero_le _, Nat.zero_le _⟩ dX5_refuseMissing_20 rfl (fun H locs hW => ?_)
      refine lv_goto (tgt := 27) hx hb dX5_refuseMissing_23 (by decide) ?_
      have e1 := Option.some.inj hf
      subst e1
      have hF : ((q20.1, q20.2) : Int32 × Ww) = out := hF
      subst hF
      exact k_iret C0 hW dX5_refuseMissing_27
  · replace hf := if_t c5_1 hf
    refine lv_iconst (v := -1) hx hb dX5_refuseMissing_8 (by decide) ?_
    have e1 := Option.some.inj hf
    subst e1
    have hF : (((-1 : Int32), w) : Int32 × Ww) = out := hF
    subst hF
    exact k_iret C0 hW dX5_refuseMissing_9

def f_X5_fault (w : Ww) (x1 : Int32) : Option (Int32 × Ww) :=
  Option.bind (f_X5_refuseMissing_texts w x1) (fun q6 => if q6.1 = 0 then (Option.bind (f_X3_placesOf 4 60 (ww_texts q6.2) x1) (fun q25 => Option.bind (f_X3_sizeOf 4 60 (ww_texts q6.2) x1) (fun q33 => Option.bind (f_X2_read 60 (ww_reader q6.2) ((sh_places (ww_texts q6.2)) q25) q33) (fun q36 => some (q36.1, (ww_set_reader q6.2 q36.2)))))) else (some (q6.1, q6.2)))
set_option maxRecDepth 100000 in
set_option maxHeartbeats 8000000 in
theorem c_X5_fault (l : Launch) (G : GG) (a : Nat → Nat) (o : Nat) (w : Ww) (x1 : Int32) (out : Int32 × Ww) (hf : f_X5_fault w x1 = some out) : Cn l G 4 yX5_fault cX5_fault 3 (some .int) [.ref (a o), .int x1] (bWw G a o w) (some (.int out.1)) (bWw G a o out.2) := by
  refine cn_start (by decide) (Nat.le_of_ble_eq_true rfl) ?_
  intro p e s m below meth c A ls C0 hW hl
  have hx := C0.1
  have hb := C0.2.1
  have hl : lv_has ls 3 [(0, .ref (a o)), (1, .int x1)] := hl
  obtain ⟨r, hr⟩ : ∃ r, f_X5_fault w x1 = some r ∧ r = out := ⟨out, hf, rfl⟩
  replace hf := hr.1
  have hF := hr.2
  clear hr
  unfold f_X5_fault at hf
  refine lv_aload_n hx hb dX5_fault_0 rfl (lv_at hl 0 rfl) ?_
  refine lv_aload_n hx hb dX5_fault_1 rfl (lv_at hl 0 rfl) ?_
  refine k_get C0 hW 5 1 0 (v := .ref (a (o + 12))) rfl (by decide) inX5 mf_X5_18 rfl rfl dX5_fault_2 ?_
  refine lv_iload_n hx hb dX5_fault_5 rfl (lv_at hl 1 rfl) ?_
  obtain ⟨q6, hq6⟩ := ob_s hf
  replace hf := hq6.2
  replace hq6 := hq6.1
  refine cW1 (rest := []) (ws1 := (bWw G a o q6.2)) (st1 := [.int q6.1]) C0 hW hl.1 (c_X5_refuseMissing_texts l G a o w x1 _ hq6) cb_X5_refuseMissing mm_X5_84 fst_Ww 0 5 rfl rfl rfl (by decide) rfl rfl (Nat.le_of_ble_eq_true rfl) ⟨Nat.zero_le _, Nat.zero_le _⟩ dX5_fault_6 rfl (fun H locs hW => ?_)
  refine lv_istore_n (lv' := [(2, .int q6.1), (0, .ref (a o)), (1, .int x1)]) hx hb dX5_fault_9 rfl hl (by decide) rfl (fun ls hl => ?_)
  refine lv_iload_n hx hb dX5_fault_10 rfl (lv_at hl 0 rfl) ?_
  refine lv_if_eq (tgt := 16) hx hb dX5_fault_11 (by decide) (fun c11_1 => ?_) (fun c11_1 => ?_)
  · replace hf := if_t c11_1 hf
    refine lv_aload_n hx hb dX5_fault_16 rfl (lv_at hl 1 rfl) ?_
    refine k_get C0 hW 5 2 0 (v := .ref (a (o + 19))) rfl (by decide) inX5 mf_X5_24 rfl rfl dX5_fault_17 ?_
    refine lv_aload_n hx hb dX5_fault_20 rfl (lv_at hl 1 rfl) ?_
    refine k_get C0 hW 5 1 0 (v := .ref (a (o + 12))) rfl (by decide) inX5 mf_X5_18 rfl rfl dX5_fault_21 ?_
    refine lv_iload_n hx hb dX5_fault_24 rfl (lv_at hl 2 rfl) ?_
    obtain ⟨q25, hq25⟩ := ob_s hf
    replace hf := hq25.2
    replace hq25 := hq25.1
    refine bV1 (rest := [.ref (a (o + 19))]) (bs := bsWw G a o q6.2) (bs1 := bsWw G a o q6.2) (st1 := [.ref (a (o + 15 + q25)), .ref (a (o + 19))]) C0 hW hl.1 (c_X3_placesOf l G a (o + 12) 4 60 (ww_texts q6.2) x1 _ hq25) cb_X3_placesOf mm_X5_117 ([8, 9, 10, 11, 12]) ([0, 1, 2, 3, 4, 5, 6, 7, 13, 14, 15, 16, 17, 18, 19, 20, 21, 22, 23, 24]) (ap_8_9_10_11_12) (ac_8_9_10_11_12 (w := q6.2)) (ac_8_9_10_11_12 (w := q6.2)) rfl rfl rfl 0 3 rfl rfl rfl (by decide) rfl rfl (Nat.le_of_ble_eq_true rfl) ⟨Nat.zero_le _, Nat.zero_le _⟩ dX5_fault_25 rfl (fun H locs hW => ?_)
    have hlt25 := placesOf_4 hq25
    refine lv_aload_n hx hb dX5_fault_28 rfl (lv_at hl 1 rfl) ?_
    refine k_get C0 hW 5 1 0 (v := .ref (a (o + 12))) rfl (by decide) inX5 mf_X5_18 rfl rfl dX5_fault_29 ?_
    refine lv_iload_n hx hb dX5_fault_32 rfl (lv_at hl 2 rfl) ?_
    obtain ⟨q33, hq33⟩ := ob_s hf
    replace hf := hq33.2
    replace hq33 := hq33.1
    refine bV1 (rest := [.ref (a (o + 15 + q25)), .ref (a (o + 19))]) (bs := bsWw G a o q6.2) (bs1 := bsWw G a o q6.2) (st1 := [.int q33, .ref (a (o + 15 + q25)), .ref (a (o + 19))]) C0 hW hl.1 (c_X3_sizeOf l G a (o + 12) 4 60 (ww_texts q6.2) x1 _ hq33) cb_X3_sizeOf mm_X5_110 ([8, 9, 10, 11, 12]) ([0, 1, 2, 3, 4, 5, 6, 7, 13, 14, 15, 16, 17, 18, 19, 20, 21, 22, 23, 24]) (ap_8_9_10_11_12) (ac_8_9_10_11_12 (w := q6.2)) (ac_8_9_10_11_12 (w := q6.2)) rfl rfl rfl 0 3 rfl rfl rfl (by decide) rfl rfl (Nat.le_of_ble_eq_true rfl) ⟨Nat.zero_le _, Nat.zero_le _⟩ dX5_fault_33 rfl (fun H locs hW => ?_)
    obtain ⟨q36, hq36⟩ := ob_s hf
    replace hf := hq36.2
    replace hq36 := hq36.1
    refine bV1 (rest := []) (bs := bsWw G a o q6.2) (bs1 := bsWw G a o (ww_set_reader q6.2 q36.2)) (st1 := [.int q36.1]) C0 hW hl.1 (c_X2_read l G a (o + 19) (a (o + 15 + q25)) 60 (ww_reader q6.2) ((sh_places (ww_texts q6.2)) q25) q33 _ hq36) cb_X2_read mm_X5_121 ([13, 14, 9 + q25]) ([0, 1, 2, 3, 4, 5, 6, 7, 8, 15, 16, 17, 18, 19, 20, 21, 22, 23, 24] ++ ((List.range 4).filter (fun z => z != q25)).map (fun z => 9 + z)) (ap_13_14_9q hlt25) (ac_13_14_9q (w := q6.2) hlt25) (ad_13_14_9q_w (w := q6.2) hlt25) (ar_13_14_9q_w (w := q6.2) hlt25) rfl (as_13_14_9q_w (w := q6.2) hlt25) 0 2 rfl rfl rfl (by decide) rfl rfl (Nat.le_of_ble_eq_true rfl) ⟨Nat.zero_le _, Nat.zero_le _⟩ dX5_fault_36 rfl (fun H locs hW => ?_)
    have e1 := Option.some.inj hf
    subst e1
    have hF : ((q36.1, (ww_set_reader q6.2 q36.2)) : Int32 × Ww) = out := hF
    subst hF
    exact k_iret C0 hW dX5_fault_39
  · replace hf := if_f c11_1 hf
    refine lv_iload_n hx hb dX5_fault_14 rfl (lv_at hl 0 rfl) ?_
    have e1 := Option.some.inj hf
    subst e1
    have hF : ((q6.1, q6.2) : Int32 × Ww) = out := hF
    subst hF
    exact k_iret C0 hW dX5_fault_15

def f_X5_finding (w : Ww) : Option (Int32) :=
  some (ww_findingLast w)
set_option maxRecDepth 100000 in
set_option maxHeartbeats 8000000 in
theorem c_X5_finding (l : Launch) (G : GG) (a : Nat → Nat) (o : Nat) (w : Ww) (out : Int32) (hf : f_X5_finding w = some out) : Cn l G 0 yX5_finding cX5_finding 1 (some .int) [.ref (a o)] (bWw G a o w) (some (.int out)) (bWw G a o w) := by
  refine cn_start (by decide) (Nat.le_of_ble_eq_true rfl) ?_
  intro p e s m below meth c A ls C0 hW hl
  have hx := C0.1
  have hb := C0.2.1
  have hl : lv_has ls 1 [(0, .ref (a o))] := hl
  obtain ⟨r, hr⟩ : ∃ r, f_X5_finding w = some r ∧ r = out := ⟨out, hf, rfl⟩
  replace hf := hr.1
  have hF := hr.2
  clear hr
  unfold f_X5_finding at hf
  refine lv_aload_n hx hb dX5_finding_0 rfl (lv_at hl 0 rfl) ?_
  refine k_get C0 hW 5 7 0 (v := .int (ww_findingLast w)) rfl (by decide) inX5 mf_X5_266 rfl rfl dX5_finding_1 ?_
  have e1 := Option.some.inj hf
  subst e1
  have hF : ((ww_findingLast w) : Int32) = out := hF
  subst hF
  exact k_iret C0 hW dX5_finding_4

def f_X5_findings_J10 (w : Ww) : Option (Int32) :=
  some (-1 : Int32)
def f_X5_findings (w : Ww) (x1 : Int32) : Option (Int32) :=
  if x1 < (1 : Int32) then (f_X5_findings_J10 w) else (if x1 ≤ (5 : Int32) then (gd (inb x1 6) (some ((ww_tallies w) (ix x1)))) else (f_X5_findings_J10 w))
set_option maxRecDepth 100000 in
set_option maxHeartbeats 8000000 in
theorem c_X5_findings (l : Launch) (G : GG) (a : Nat → Nat) (o : Nat) (w : Ww) (x1 : Int32) (out : Int32) (hf : f_X5_findings w x1 = some out) : Cn l G 0 yX5_findings cX5_findings 2 (some .int) [.ref (a o), .int x1] (bWw G a o w) (some (.int out)) (bWw G a o w) := by
  refine cn_start (by decide) (Nat.le_of_ble_eq_true rfl) ?_
  intro p e s m below meth c A ls C0 hW hl
  have hx := C0.1
  have hb := C0.2.1
  have hl : lv_has ls 2 [(0, .ref (a o)), (1, .int x1)] := hl
  have J10 : ∀ (r : Int32), f_X5_findings_J10 w = some r → (fun (r : Int32) => r = out) r → ∀ (H : Heap) (locs : List Loc) (ls : Array Slot), Wd G A s.heap H (bWw G a o w) locs → lv_has ls 2 [] → WW p l e 0 s m [.ref (a o), .int x1] below meth c G A (some (.int out)) ((bWw G a o w)) H locs 10 ls [] := by
    intro r hf hF H locs ls hW hl
    unfold f_X5_findings_J10 at hf
    refine lv_iconst (v := -1) hx hb dX5_findings_10 (by decide) ?_
    refine lv_goto (tgt := 20) hx hb dX5_findings_11 (by decide) ?_
    have e1 := Option.some.inj hf
    subst e1
    have hF : ((-1 : Int32) : Int32) = out := hF
    subst hF
    exact k_iret C0 hW dX5_findings_20
  obtain ⟨r, hr⟩ : ∃ r, f_X5_findings w x1 = some r ∧ r = out := ⟨out, hf, rfl⟩
  replace hf := hr.1
  have hF := hr.2
  clear hr
  unfold f_X5_findings at hf
  refine lv_iload_n hx hb dX5_findings_0 rfl (lv_at hl 1 rfl) ?_
  refine lv_iconst (v := 1) hx hb dX5_findings_1 (by decide) ?_
  refine lv_icmp_lt (tgt := 10) hx hb dX5_findings_2 (by decide) (fun c2_1 => ?_) (fun c2_1 => ?_)
  · replace hf := if_t c2_1 hf
    exact J10  _ hf hF _ _ _ hW (lv_sub hl [] rfl)
  · replace hf := if_f c2_1 hf
    refine lv_iload_n hx hb dX5_findings_5 rfl (lv_at hl 1 rfl) ?_
    refine lv_iconst (v := 5) hx hb dX5_findings_6 (by decide) ?_
    refine lv_icmp_le (tgt := 14) hx hb dX5_findings_7 (by decide) (fun c7_2 => ?_) (fun c7_2 => ?_)
    · replace hf := if_t c7_2 hf
      refine lv_aload_n hx hb dX5_findings_14 rfl (lv_at hl 0 rfl) ?_
      refine k_get C0 hW 5 6 0 (v := .ref (a (o + 1))) rfl (by decide) inX5 mf_X5_56 rfl rfl dX5_findings_15 ?_
      refine lv_iload_n hx hb dX5_findings_18 rfl (lv_at hl 1 rfl) ?_
      have g19_3 := (gd_some hf).1; replace hf := (gd_some hf).2
      refine k_iald C0 hW 1 (ix x1) rfl (inb_in g19_3) rfl dX5_findings_19 ?_
      have e1 := Option.some.inj hf
      subst e1
      have hF : (((ww_tallies w) (ix x1)) : Int32) = out := hF
      subst hF
      exact k_iret C0 hW dX5_findings_20
    · replace hf := if_f c7_2 hf
      exact J10  _ hf hF _ _ _ hW (lv_sub hl [] rfl)

def f_X5_gate (w : Ww) : Option (Int32 × Ww) :=
  Option.bind (f_X4_isEmpty (ct_wheel (ww_cart w))) (fun q7 => if q7 = 0 then (Option.bind (f_X0_fewestToGate (ww_aside w) (ct_wheel (ww_cart w))) (fun q23 => Option.bind (f_X5_tellBeside (ww_set_aside w q23.2) q23.1) (fun q26 => some (q26.1, q26.2)))) else (some ((-4 : Int32), w)))
set_option maxRecDepth 100000 in
set_option maxHeartbeats 8000000 in
theorem c_X5_gate (l : Launch) (G : GG) (a : Nat → Nat) (o : Nat) (w : Ww) (out : Int32 × Ww) (hf : f_X5_gate w = some out) : Cn l G 6 yX5_gate cX5_gate 1 (some .int) [.ref (a o)] (bWw G a o w) (some (.int out.1)) (bWw G a o out.2) := by
  refine cn_start (by decide) (Nat.le_of_ble_eq_true rfl) ?_
  intro p e s m below meth c A ls C0 hW hl
  have hx := C0.1
  have hb := C0.2.1
  have hl : lv_has ls 1 [(0, .ref (a o))] := hl
  obtain ⟨r, hr⟩ : ∃ r, f_X5_gate w = some r ∧ r = out := ⟨out, hf, rfl⟩
  replace hf := hr.1
  have hF := hr.2
  clear hr
  unfold f_X5_gate at hf
  refine lv_aload_n hx hb dX5_gate_0 rfl (lv_at hl 0 rfl) ?_
  refine k_get C0 hW 5 3 0 (v := .ref (a (o + 27))) rfl (by decide) inX5 mf_X5_31 rfl rfl dX5_gate_1 ?_
  refine k_get C0 hW 1 0 27 (v := .ref (a (o + 30))) rfl (by decide) inX1 mf_X5_45 rfl rfl dX5_gate_4 ?_
  obtain ⟨q7, hq7⟩ := ob_s hf
  replace hf := hq7.2
  replace hq7 := hq7.1
  refine bV1 (rest := []) (bs := bsWw G a o w) (bs1 := bsWw G a o w) (st1 := [.int q7]) C0 hW hl.1 (c_X4_isEmpty l G a (o + 30) (ct_wheel (ww_cart w)) _ hq7) cb_X4_isEmpty mm_X5_163 ([16]) ([0, 1, 2, 3, 4, 5, 6, 7, 8, 9, 10, 11, 12, 13, 14, 15, 17, 18, 19, 20, 21, 22, 23, 24]) (ap_16) (ac_16 (w := w)) (ac_16 (w := w)) rfl rfl rfl 0 4 rfl rfl rfl (by decide) rfl rfl (Nat.le_of_ble_eq_true rfl) ⟨Nat.zero_le _, Nat.zero_le _⟩ dX5_gate_7 rfl (fun H locs hW => ?_)
  refine lv_if_eq (tgt := 18) hx hb dX5_gate_10 (by decide) (fun c10_1 => ?_) (fun c10_1 => ?_)
  · replace hf := if_t c10_1 hf
    refine lv_aload_n hx hb dX5_gate_18 rfl (lv_at hl 0 rfl) ?_
    refine lv_aload_n hx hb dX5_gate_19 rfl (lv_at hl 0 rfl) ?_
    refine k_get C0 hW 5 5 0 (v := .ref (a (o + 63))) rfl (by decide) inX5 mf_X5_52 rfl rfl dX5_gate_20 ?_
    obtain ⟨q23, hq23⟩ := ob_s hf
    replace hf := hq23.2
    replace hq23 := hq23.1
    refine bV1 (rest := [.ref (a o)]) (bs := bsWw G a o w) (bs1 := bsWw G a o (ww_set_aside w q23.2)) (st1 := [.int q23.1, .ref (a o)]) C0 hW hl.1 (c_X0_fewestToGate l G a (o + 63) a (o + 30) (ww_aside w) (ct_wheel (ww_cart w)) _ hq23) cb_X0_fewestToGate mm_X5_200 ([23, 24, 16]) ([0, 1, 2, 3, 4, 5, 6, 7, 8, 9, 10, 11, 12, 13, 14, 15, 17, 18, 19, 20, 21, 22]) (ap_23_24_16) (ac_23_24_16 (w := w)) (ad_23_24_16_w (w := w)) (ar_23_24_16_w (w := w)) rfl (as_23_24_16_w (w := w)) 0 0 rfl rfl rfl (by decide) rfl rfl (Nat.le_of_ble_eq_true rfl) ⟨Nat.zero_le _, Nat.zero_le _⟩ dX5_gate_23 rfl (fun H locs hW => ?_)
    obtain ⟨q26, hq26⟩ := ob_s hf
    replace hf := hq26.2
    replace hq26 := hq26.1
    refine cW1 (rest := []) (ws1 := (bWw G a o q26.2)) (st1 := [.int q26.1]) C0 hW hl.1 (c_X5_tellBeside l G a o (ww_set_aside w q23.2) q23.1 _ hq26) cb_X5_tellBeside mm_X5_186 fst_Ww 0 5 rfl rfl rfl (by decide) rfl rfl (Nat.le_of_ble_eq_true rfl) ⟨Nat.zero_le _, Nat.zero_le _⟩ dX5_gate_26 rfl (fun H locs hW => ?_)
    have e1 := Option.some.inj hf
    subst e1
    have hF : ((q26.1, q26.2) : Int32 × Ww) = out := hF
    subst hF
    exact k_iret C0 hW dX5_gate_29
  · replace hf := if_f c10_1 hf
    refine lv_bipush (v := -4) hx hb dX5_gate_13 (by decide) ?_
    refine lv_goto (tgt := 29) hx hb dX5_gate_15 (by decide) ?_
    have e1 := Option.some.inj hf
    subst e1
    have hF : (((-4 : Int32), w) : Int32 × Ww) = out := hF
    subst hF
    exact k_iret C0 hW dX5_gate_29

def f_X5_goes (w : Ww) (x1 : Int32) : Option (Int32 × Ww) :=
  if x1 < 0 then (some ((-1 : Int32), w)) else (if x1 ≤ (60 : Int32) then (Option.bind (f_X4_isEmpty (ct_wheel (ww_cart w))) (fun q19 => if q19 = 0 then (Option.bind (f_X0_rutBehind (ww_aside w) (ct_wheel (ww_cart w)) x1) (fun q34 => Option.bind (f_X5_tellBeside (ww_set_aside w q34.2) q34.1) (fun q37 => some (q37.1, q37.2)))) else (some ((-4 : Int32), w)))) else (some ((-1 : Int32), w)))
set_option maxRecDepth 100000 in
set_option maxHeartbeats 8000000 in
theorem c_X5_goes (l : Launch) (G : GG) (a : Nat → Nat) (o : Nat) (w : Ww) (x1 : Int32) (out : Int32 × Ww) (hf : f_X5_goes w x1 = some out) : Cn l G 5 yX5_goes cX5_goes 2 (some .int) [.ref (a o), .int x1] (bWw G a o w) (some (.int out.1)) (bWw G a o out.2) := by
  refine cn_start (by decide) (Nat.le_of_ble_eq_true rfl) ?_
  intro p e s m below meth c A ls C0 hW hl
  have hx := C0.1
  have hb := C0.2.1
  have hl : lv_has ls 2 [(0, .ref (a o)), (1, .int x1)] := hl
  obtain ⟨r, hr⟩ : ∃ r, f_X5_goes w x1 = some r ∧ r = out := ⟨out, hf, rfl⟩
  replace hf := hr.1
  have hF := hr.2
  clear hr
  unfold f_X5_goes at hf
  refine lv_iload_n hx hb dX5_goes_0 rfl (lv_at hl 1 rfl) ?_
  refine lv_if_lt (tgt := 10) hx hb dX5_goes_1 (by decide) (fun c1_1 => ?_) (fun c1_1 => ?_)
  · replace hf := if_t c1_1 hf
    refine lv_iconst (v := -1) hx hb dX5_goes_10 (by decide) ?_
    have e1 := Option.some.inj hf
    subst e1
    have hF : (((-1 : Int32), w) : Int32 × Ww) = out := hF
    subst hF
    exact k_iret C0 hW dX5_goes_11
  · replace hf := if_f c1_1 hf
    refine lv_iload_n hx hb dX5_goes_4 rfl (lv_at hl 1 rfl) ?_
    refine lv_bipush (v := 60) hx hb dX5_goes_5 (by decide) ?_
    refine lv_icmp_le (tgt := 12) hx hb dX5_goes_7 (by decide) (fun c7_2 => ?_) (fun c7_2 => ?_)
    · replace hf := if_t c7_2 hf
      refine lv_aload_n hx hb dX5_goes_12 rfl (lv_at hl 0 rfl) ?_
      refine k_get C0 hW 5 3 0 (v := .ref (a (o + 27))) rfl (by decide) inX5 mf_X5_31 rfl rfl dX5_goes_13 ?_
      refine k_get C0 hW 1 0 27 (v := .ref (a (o + 30))) rfl (by decide) inX1 mf_X5_45 rfl rfl dX5_goes_16 ?_
      obtain ⟨q19, hq19⟩ := ob_s hf
      replace hf := hq19.2
      replace hq19 := hq19.1
      refine bV1 (rest := []) (bs := bsWw G a o w) (bs1 := bsWw G a o w) (st1 := [.int q19]) C0 hW hl.1 (c_X4_isEmpty l G a (o + 30) (ct_wheel (ww_cart w)) _ hq19) cb_X4_isEmpty mm_X5_163 ([16]) ([0, 1, 2, 3, 4, 5, 6, 7, 8, 9, 10, 11, 12, 13, 14, 15, 17, 18, 19, 20, 21, 22, 23, 24]) (ap_16) (ac_16 (w := w)) (ac_16 (w := w)) rfl rfl rfl 0 4 rfl rfl rfl (by decide) rfl rfl (Nat.le_of_ble_eq_true rfl) ⟨Nat.zero_le _, Nat.zero_le _⟩ dX5_goes_19 rfl (fun H locs hW => ?_)
      refine lv_if_eq (tgt := 28) hx hb dX5_goes_22 (by decide) (fun c22_3 => ?_) (fun c22_3 => ?_)
      · replace hf := if_t c22_3 hf
        refine lv_aload_n hx hb dX5_goes_28 rfl (lv_at hl 0 rfl) ?_
        refine lv_aload_n hx hb dX5_goes_29 rfl (lv_at hl 0 rfl) ?_
        refine k_get C0 hW 5 5 0 (v := .ref (a (o + 63))) rfl (by decide) inX5 mf_X5_52 rfl rfl dX5_goes_30 ?_
        refine lv_iload_n hx hb dX5_goes_33 rfl (lv_at hl 1 rfl) ?_
        obtain ⟨q34, hq34⟩ := ob_s hf
        replace hf := hq34.2
        replace hq34 := hq34.1
        refine bV1 (rest := [.ref (a o)]) (bs := bsWw G a o w) (bs1 := bsWw G a o (ww_set_aside w q34.2)) (st1 := [.int q34.1, .ref (a o)]) C0 hW hl.1 (c_X0_rutBehind l G a (o + 63) a (o + 30) (ww_aside w) (ct_wheel (ww_cart w)) x1 _ hq34) cb_X0_rutBehind mm_X5_183 ([23, 24, 16]) ([0, 1, 2, 3, 4, 5, 6, 7, 8, 9, 10, 11, 12, 13, 14, 15, 17, 18, 19, 20, 21, 22]) (ap_23_24_16) (ac_23_24_16 (w := w)) (ad_23_24_16_w (w := w)) (ar_23_24_16_w (w := w)) rfl (as_23_24_16_w (w := w)) 0 0 rfl rfl rfl (by decide) rfl rfl (Nat.le_of_ble_eq_true rfl) ⟨Nat.zero_le _, Nat.zero_le _⟩ dX5_goes_34 rfl (fun H locs hW => ?_)
        obtain ⟨q37, hq37⟩ := ob_s hf
        replace hf := hq37.2
        replace hq37 := hq37.1
        refine cW1 (rest := []) (ws1 := (bWw G a o q37.2)) (st1 := [.int q37.1]) C0 hW hl.1 (c_X5_tellBeside l G a o (ww_set_aside w q34.2) q34.1 _ hq37) cb_X5_tellBeside mm_X5_186 fst_Ww 0 5 rfl rfl rfl (by decide) rfl rfl (Nat.le_of_ble_eq_true rfl) ⟨Nat.zero_le _, Nat.zero_le _⟩ dX5_goes_37 rfl (fun H locs hW => ?_)
        have e1 := Option.some.inj hf
        subst e1
        have hF : ((q37.1, q37.2) : Int32 × Ww) = out := hF
        subst hF
        exact k_iret C0 hW dX5_goes_40
      · replace hf := if_f c22_3 hf
        refine lv_bipush (v := -4) hx hb dX5_goes_25 (by decide) ?_
        have e1 := Option.some.inj hf
        subst e1
        have hF : (((-4 : Int32), w) : Int32 × Ww) = out := hF
        subst hF
        exact k_iret C0 hW dX5_goes_27
    · replace hf := if_f c7_2 hf
      refine lv_iconst (v := -1) hx hb dX5_goes_10 (by decide) ?_
      have e1 := Option.some.inj hf
      subst e1
      have hF : (((-1 : Int32), w) : Int32 × Ww) = out := hF
      subst hF
      exact k_iret C0 hW dX5_goes_11

def f_X5_refuseLimps_J42 (w : Ww) : Option (Int32 × Ww) :=
  Option.bind (f_X5_refuse w (5 : Int32)) (fun q44 => some (q44.1, q44.2))
def f_X5_refuseLimps (w : Ww) (x1 : Int32) : Option (Int32 × Ww) :=
  Option.bind (f_X3_isMissing 6 40 (ww_rows w) x1) (fun q5 => if q5 = 0 then (Option.bind (f_X3_sizeOf 6 40 (ww_rows w) x1) (fun q22 => if q22 < (1 : Int32) then (f_X5_refuseLimps_J42 w) else (Option.bind (f_X3_sizeOf 6 40 (ww_rows w) x1) (fun q34 => if q34 ≤ (20 : Int32) then (Option.bind (f_X3_holdsBits 6 40 (ww_rows w) x1) (fun q53 => if q53 = 0 then (Option.bind (f_X5_refuse w (3 : Int32)) (fun q65 => some (q65.1, q65.2))) else (some ((0 : Int32), w)))) else (f_X5_refuseLimps_J42 w))))) else (Option.bind (f_X5_refuse w (1 : Int32)) (fun q13 => some (q13.1, q13.2))))
set_option maxRecDepth 100000 in
set_option maxHeartbeats 8000000 in
theorem c_X5_refuseLimps (l : Launch) (G : GG) (a : Nat → Nat) (o : Nat) (w : Ww) (x1 : Int32) (out : Int32 × Ww) (hf : f_X5_refuseLimps w x1 = some out) : Cn l G 1 yX5_refuseLimps cX5_refuseLimps 2 (some .int) [.ref (a o), .int x1] (bWw G a o w) (some (.int out.1)) (bWw G a o out.2) := by
  refine cn_start (by decide) (Nat.le_of_ble_eq_true rfl) ?_
  intro p e s m below meth c A ls C0 hW hl
  have hx := C0.1
  have hb := C0.2.1
  have hl : lv_has ls 2 [(0, .ref (a o)), (1, .int x1)] := hl
  have J42 : ∀ (w : Ww) (r : Int32 × Ww), f_X5_refuseLimps_J42 w = some r → (fun (r : Int32 × Ww) => r = out) r → ∀ (H : Heap) (locs : List Loc) (ls : Array Slot), Wd G A s.heap H (bWw G a o w) locs → lv_has ls 2 [(0, .ref (a o))] → WW p l e 1 s m [.ref (a o), .int x1] below meth c G A (some (.int out.1)) ((bWw G a o out.2)) H locs 42 ls [] := by
    intro w r hf hF H locs ls hW hl
    unfold f_X5_refuseLimps_J42 at hf
    refine lv_aload_n hx hb dX5_refuseLimps_42 rfl (lv_at hl 0 rfl) ?_
    refine lv_iconst (v := 5) hx hb dX5_refuseLimps_43 (by decide) ?_
    obtain ⟨q44, hq44⟩ := ob_s hf
    replace hf := hq44.2
    replace hq44 := hq44.1
    refine cW1 (rest := []) (ws1 := (bWw G a o q44.2)) (st1 := [.int q44.1]) C0 hW hl.1 (c_X5_refuse l G a o w (5 : Int32) _ hq44) cb_X5_refuse mm_X5_96 fst_Ww 0 5 rfl rfl rfl (by decide) rfl rfl (Nat.le_of_ble_eq_true rfl) ⟨Nat.zero_le _, Nat.zero_le _⟩ dX5_refuseLimps_44 rfl (fun H locs hW => ?_)
    have e1 := Option.some.inj hf
    subst e1
    have hF : ((q44.1, q44.2) : Int32 × Ww) = out := hF
    subst hF
    exact k_iret C0 hW dX5_refuseLimps_47
  obtain ⟨r, hr⟩ : ∃ r, f_X5_refuseLimps w x1 = some r ∧ r = out := ⟨out, hf, rfl⟩
  replace hf := hr.1
  have hF := hr.2
  clear hr
  unfold f_X5_refuseLimps at hf
  refine lv_aload_n hx hb dX5_refuseLimps_0 rfl (lv_at hl 0 rfl) ?_
  refine k_get C0 hW 5 0 0 (v := .ref (a (o + 3))) rfl (by decide) inX5 mf_X5_14 rfl rfl dX5_refuseLimps_1 ?_
  refine lv_iload_n hx hb dX5_refuseLimps_4 rfl (lv_at hl 1 rfl) ?_
  obtain ⟨q5, hq5⟩ := ob_s hf
  replace hf := hq5.2
  replace hq5 := hq5.1
  refine bV1 (rest := []) (bs := bsWw G a o w) (bs1 := bsWw G a o w) (st1 := [.int q5]) C0 hW hl.1 (c_X3_isMissing l G a (o + 3) 6 40 (ww_rows w) x1 _ hq5) cb_X3_isMissing mm_X5_99 ([1, 2, 3, 4, 5, 6, 7]) ([0, 8, 9, 10, 11, 12, 13, 14, 15, 16, 17, 18, 19, 20, 21, 22, 23, 24]) (ap_1_2_3_4_5_6_7) (ac_1_2_3_4_5_6_7 (w := w)) (ac_1_2_3_4_5_6_7 (w := w)) rfl rfl rfl 0 3 rfl rfl rfl (by decide) rfl rfl (Nat.le_of_ble_eq_true rfl) ⟨Nat.zero_le _, Nat.zero_le _⟩ dX5_refuseLimps_5 rfl (fun H locs hW => ?_)
  refine lv_if_eq (tgt := 17) hx hb dX5_refuseLimps_8 (by decide) (fun c8_1 => ?_) (fun c8_1 => ?_)
  · replace hf := if_t c8_1 hf
    refine lv_aload_n hx hb dX5_refuseLimps_17 rfl (lv_at hl 0 rfl) ?_
    refine k_get C0 hW 5 0 0 (v := .ref (a (o + 3))) rfl (by decide) inX5 mf_X5_14 rfl rfl dX5_refuseLimps_18 ?_
    refine lv_iload_n hx hb dX5_refuseLimps_21 rfl (lv_at hl 1 rfl) ?_
    obtain ⟨q22, hq22⟩ := ob_s hf
    replace hf := hq22.2
    replace hq22 := hq22.1
    refine bV1 (rest := []) (bs := bsWw G a o w) (bs1 := bsWw G a o w) (st1 := [.int q22]) C0 hW hl.1 (c_X3_sizeOf l G a (o + 3) 6 40 (ww_rows w) x1 _ hq22) cb_X3_sizeOf mm_X5_110 ([1, 2, 3, 4, 5, 6, 7]) ([0, 8, 9, 10, 11, 12, 13, 14, 15, 16, 17, 18, 19, 20, 21, 22, 23, 24]) (ap_1_2_3_4_5_6_7) (ac_1_2_3_4_5_6_7 (w := w)) (ac_1_2_3_4_5_6_7 (w := w)) rfl rfl rfl 0 3 rfl rfl rfl (by decide) rfl rfl (Nat.le_of_ble_eq_true rfl) ⟨Nat.zero_le _, Nat.zero_le _⟩ dX5_refuseLimps_22 rfl (fun H locs hW => ?_)
    refine lv_iconst (v := 1) hx hb dX5_refuseLimps_25 (by decide) ?_
    refine lv_icmp_lt (tgt := 42) hx hb dX5_refuseLimps_26 (by decide) (fun c26_2 => ?_) (fun c26_2 => ?_)
    · replace hf := if_t c26_2 hf
      exact J42 _ _ hf hF _ _ _ hW (lv_sub hl [0] rfl)
    · replace hf := if_f c26_2 hf
      refine lv_aload_n hx hb dX5_refuseLimps_29 rfl (lv_at hl 0 rfl) ?_
      refine k_get C0 hW 5 0 0 (v := .ref (a (o + 3))) rfl (by decide) inX5 mf_X5_14 rfl rfl dX5_refuseLimps_30 ?_
      refine lv_iload_n hx hb dX5_refuseLimps_33 rfl (lv_at hl 1 rfl) ?_
      obtain ⟨q34, hq34⟩ := ob_s hf
      replace hf := hq34.2
      replace hq34 := hq34.1
      refine bV1 (rest := []) (bs := bsWw G a o w) (bs1 := bsWw G a o w) (st1 := [.int q34]) C0 hW hl.1 (c_X3_sizeOf l G a (o + 3) 6 40 (ww_rows w) x1 _ hq34) cb_X3_sizeOf mm_X5_110 ([1, 2, 3, 4, 5, 6, 7]) ([0, 8, 9, 10, 11, 12, 13, 14, 15, 16, 17, 18, 19, 20, 21, 22, 23, 24]) (ap_1_2_3_4_5_6_7) (ac_1_2_3_4_5_6_7 (w := w)) (ac_1_2_3_4_5_6_7 (w := w)) rfl rfl rfl 0 3 rfl rfl rfl (by decide) rfl rfl (Nat.le_of_ble_eq_true rfl) ⟨Nat.zero_le _, Nat.zero_le _⟩ dX5_refuseLimps_34 rfl (fun H locs hW => ?_)
      refine lv_bipush (v := 20) hx hb dX5_refuseLimps_37 (by decide) ?_
      refine lv_icmp_le (tgt := 48) hx hb dX5_refuseLimps_39 (by decide) (fun c39_3 => ?_) (fun c39_3 => ?_)
      · replace hf := if_t c39_3 hf
        refine lv_aload_n hx hb dX5_refuseLimps_48 rfl (lv_at hl 0 rfl) ?_
        refine k_get C0 hW 5 0 0 (v := .ref (a (o + 3))) rfl (by decide) inX5 mf_X5_14 rfl rfl dX5_refuseLimps_49 ?_
        refine lv_iload_n hx hb dX5_refuseLimps_52 rfl (lv_at hl 1 rfl) ?_
        obtain ⟨q53, hq53⟩ := ob_s hf
        replace hf := hq53.2
        replace hq53 := hq53.1
        refine bV1 (rest := []) (bs := bsWw G a o w) (bs1 := bsWw G a o w) (st1 := [.int q53]) C0 hW hl.1 (c_X3_holdsBits l G a (o + 3) 6 40 (ww_rows w) x1 _ hq53) cb_X3_holdsBits mm_X5_281 ([1, 2, 3, 4, 5, 6, 7]) ([0, 8, 9, 10, 11, 12, 13, 14, 15, 16, 17, 18, 19, 20, 21, 22, 23, 24]) (ap_1_2_3_4_5_6_7) (ac_1_2_3_4_5_6_7 (w := w)) (ac_1_2_3_4_5_6_7 (w := w)) rfl rfl rfl 0 3 rfl rfl rfl (by decide) rfl rfl (Nat.le_of_ble_eq_true rfl) ⟨Nat.zero_le _, Nat.zero_le _⟩ dX5_refuseLimps_53 rfl (fun H locs hW => ?_)
        refine lv_if_eq (tgt := 63) hx hb dX5_refuseLimps_56 (by decide) (fun c56_4 => ?_) (fun c56_4 => ?_)
        · replace hf := if_t c56_4 hf
          refine lv_aload_n hx hb dX5_refuseLimps_63 rfl (lv_at hl 0 rfl) ?_
          refine lv_iconst (v := 3) hx hb dX5_refuseLimps_64 (by decide) ?_
          obtain ⟨q65, hq65⟩ := ob_s hf
          replace hf := hq65.2
          replace hq65 := hq65.1
          refine cW1 (rest := []) (ws1 := (bWw G a o q65.2)) (st1 := [.int q65.1]) C0 hW hl.1 (c_X5_refuse l G a o w (3 : Int32) _ hq65) cb_X5_refuse mm_X5_96 fst_Ww 0 5 rfl rfl rfl (by decide) rfl rfl (Nat.le_of_ble_eq_true rfl) ⟨Nat.zero_le _, Nat.zero_le _⟩ dX5_refuseLimps_65 rfl (fun H locs hW => ?_)
          have e1 := Option.some.inj hf
          subst e1
          have hF : ((q65.1, q65.2) : Int32 × Ww) = out := hF
          subst hF
          exact k_iret C0 hW dX5_refuseLimps_68
        · replace hf := if_f c56_4 hf
          refine lv_iconst (v := 0) hx hb dX5_refuseLimps_59 (by decide) ?_
          refine lv_goto (tgt := 68) hx hb dX5_refuseLimps_60 (by decide) ?_
          have e1 := Option.some.inj hf
          subst e1
          have hF : (((0 : Int32), w) : Int32 × Ww) = out := hF
          subst hF
          exact k_iret C0 hW dX5_refuseLimps_68
      · replace hf := if_f c39_3 hf
        exact J42 _ _ hf hF _ _ _ hW (lv_sub hl [0] rfl)
  · replace hf := if_f c8_1 hf
    refine lv_aload_n hx hb dX5_refuseLimps_11 rfl (lv_at hl 0 rfl) ?_
    refine lv_iconst (v := 1) hx hb dX5_refuseLimps_12 (by decide) ?_
    obtain ⟨q13, hq13⟩ := ob_s hf
    replace hf := hq13.2
    replace hq13 := hq13.1
    refine cW1 (rest := []) (ws1 := (bWw G a o q13.2)) (st1 := [.int q13.1]) C0 hW hl.1 (c_X5_refuse l G a o w (1 : Int32) _ hq13) cb_X5_refuse mm_X5_96 fst_Ww 0 5 rfl rfl rfl (by decide) rfl rfl (Nat.le_of_ble_eq_true rfl) ⟨Nat.zero_le _, Nat.zero_le _⟩ dX5_refuseLimps_13 rfl (fun H locs hW => ?_)
    have e1 := Option.some.inj hf
    subst e1
    have hF : ((q13.1, q13.2) : Int32 × Ww) = out := hF
    subst hF
    exact k_iret C0 hW dX5_refuseLimps_16

def f_X5_gone (w : Ww) (x1 : Int32) : Option (Int32 × Ww) :=
  Option.bind (f_X3_isNumber 6 40 (ww_rows w) x1) (fun q5 => if q5 = 0 then (some ((-1 : Int32), w)) else (Option.bind (f_X4_isEmpty (ct_wheel (ww_cart w))) (fun q20 => if q20 = 0 then (Option.bind (f_X5_refuseLimps w x1) (fun q31 => if q31.1 = 0 then (Option.bind (f_X3_placesOf 6 40 (ww_rows q31.2) x1) (fun q51 => Option.bind (f_X3_sizeOf 6 40 (ww_rows q31.2) x1) (fun q59 => Option.bind (f_X0_goneSets 40 (ww_aside q31.2) (ct_wheel (ww_cart q31.2)) ((sh_places (ww_rows q31.2)) q51) q59) (fun q62 => Option.bind (f_X5_tellBeside (ww_set_aside q31.2 q62.2) q62.1) (fun q65 => some (q65.1, q65.2)))))) else (some (q31.1, q31.2)))) else (some ((-4 : Int32), w)))))
set_option maxRecDepth 100000 in
set_option maxHeartbeats 8000000 in
theorem c_X5_gone (l : Launch) (G : GG) (a : Nat → Nat) (o : Nat) (w : Ww) (x1 : Int32) (out : Int32 × Ww) (hf : f_X5_gone w x1 = some out) : Cn l G 5 yX5_gone cX5_gone 3 (some .int) [.ref (a o), .int x1] (bWw G a o w) (some (.int out.1)) (bWw G a o out.2) := by
  refine cn_start (by decide) (Nat.le_of_ble_eq_true rfl) ?_
  intro p e s m below meth c A ls C0 hW hl
  have hx := C0.1
  have hb := C0.2.1
  have hl : lv_has ls 3 [(0, .ref (a o)), (1, .int x1)] := hl
  obtain ⟨r, hr⟩ : ∃ r, f_X5_gone w x1 = some r ∧ r = out := ⟨out, hf, rfl⟩
  replace hf := hr.1
  have hF := hr.2
  clear hr
  unfold f_X5_gone at hf
  refine lv_aload_n hx hb dX5_gone_0 rfl (lv_at hl 0 rfl) ?_
  refine k_get C0 hW 5 0 0 (v := .ref (a (o + 3))) rfl (by decide) inX5 mf_X5_14 rfl rfl dX5_gone_1 ?_
  refine lv_iload_n hx hb dX5_gone_4 rfl (lv_at hl 1 rfl) ?_
  obtain ⟨q5, hq5⟩ := ob_s hf
  replace hf := hq5.2
  replace hq5 := hq5.1
  refine bV1 (rest := []) (bs := bsWw G a o w) (bs1 := bsWw G a o w) (st1 := [.int q5]) C0 hW hl.1 (c_X3_isNumber l G a (o + 3) 6 40 (ww_rows w) x1 _ hq5) cb_X3_isNumber mm_X5_92 ([1, 2, 3, 4, 5, 6, 7]) ([0, 8, 9, 10, 11, 12, 13, 14, 15, 16, 17, 18, 19, 20, 21, 22, 23, 24]) (ap_1_2_3_4_5_6_7) (ac_1_2_3_4_5_6_7 (w := w)) (ac_1_2_3_4_5_6_7 (w := w)) rfl rfl rfl 0 3 rfl rfl rfl (by decide) rfl rfl (Nat.le_of_ble_eq_true rfl) ⟨Nat.zero_le _, Nat.zero_le _⟩ dX5_gone_5 rfl (fun H locs hW => ?_)
  refine lv_if_ne (tgt := 13) hx hb dX5_gone_8 (by decide) (fun c8_1 => ?_) (fun c8_1 => ?_)
  · replace hf := if_f c8_1 hf
    refine lv_aload_n hx hb dX5_gone_13 rfl (lv_at hl 0 rfl) ?_
    refine k_get C0 hW 5 3 0 (v := .ref (a (o + 27))) rfl (by decide) inX5 mf_X5_31 rfl rfl dX5_gone_14 ?_
    refine k_get C0 hW 1 0 27 (v := .ref (a (o + 30))) rfl (by decide) inX1 mf_X5_45 rfl rfl dX5_gone_17 ?_
    obtain ⟨q20, hq20⟩ := ob_s hf
    replace hf := hq20.2
    replace hq20 := hq20.1
    refine bV1 (rest := []) (bs := bsWw G a o w) (bs1 := bsWw G a o w) (st1 := [.int q20]) C0 hW hl.1 (c_X4_isEmpty l G a (o + 30) (ct_wheel (ww_cart w)) _ hq20) cb_X4_isEmpty mm_X5_163 ([16]) ([0, 1, 2, 3, 4, 5, 6, 7, 8, 9, 10, 11, 12, 13, 14, 15, 17, 18, 19, 20, 21, 22, 23, 24]) (ap_16) (ac_16 (w := w)) (ac_16 (w := w)) rfl rfl rfl 0 4 rfl rfl rfl (by decide) rfl rfl (Nat.le_of_ble_eq_true rfl) ⟨Nat.zero_le _, Nat.zero_le _⟩ dX5_gone_20 rfl (fun H locs hW => ?_)
    refine lv_if_eq (tgt := 29) hx hb dX5_gone_23 (by decide) (fun c23_2 => ?_) (fun c23_2 => ?_)
    · replace hf := if_t c23_2 hf
      refine lv_aload_n hx hb dX5_gone_29 rfl (lv_at hl 0 rfl) ?_
      refine lv_iload_n hx hb dX5_gone_30 rfl (lv_at hl 1 rfl) ?_
      obtain ⟨q31, hq31⟩ := ob_s hf
      replace hf := hq31.2
      replace hq31 := hq31.1
      refine cW1 (rest := []) (ws1 := (bWw G a o q31.2)) (st1 := [.int q31.1]) C0 hW hl.1 (c_X5_refuseLimps l G a o w x1 _ hq31) cb_X5_refuseLimps mm_X5_209 fst_Ww 0 5 rfl rfl rfl (by decide) rfl rfl (Nat.le_of_ble_eq_true rfl) ⟨Nat.zero_le _, Nat.zero_le _⟩ dX5_gone_31 rfl (fun H locs hW => ?_)
      refine lv_istore_n (lv' := [(2, .int q31.1), (0, .ref (a o)), (1, .int x1)]) hx hb dX5_gone_34 rfl hl (by decide) rfl (fun ls hl => ?_)
      refine lv_iload_n hx hb dX5_gone_35 rfl (lv_at hl 0 rfl) ?_
      refine lv_if_eq (tgt := 41) hx hb dX5_gone_36 (by decide) (fun c36_3 => ?_) (fun c36_3 => ?_)
      · replace hf := if_t c36_3 hf
        refine lv_aload_n hx hb dX5_gone_41 rfl (lv_at hl 1 rfl) ?_
        refine lv_aload_n hx hb dX5_gone_42 rfl (lv_at hl 1 rfl) ?_
        refine k_get C0 hW 5 5 0 (v := .ref (a (o + 63))) rfl (by decide) inX5 mf_X5_52 rfl rfl dX5_gone_43 ?_
        refine lv_aload_n hx hb dX5_gone_46 rfl (lv_at hl 1 rfl) ?_
        refine k_get C0 hW 5 0 0 (v := .ref (a (o + 3))) rfl (by decide) inX5 mf_X5_14 rfl rfl dX5_gone_47 ?_
        refine lv_iload_n hx hb dX5_gone_50 rfl (lv_at hl 2 rfl) ?_
        obtain ⟨q51, hq51⟩ := ob_s hf
        replace hf := hq51.2
        replace hq51 := hq51.1
        refine bV1 (rest := [.ref (a (o + 63)), .ref (a o)]) (bs := bsWw G a o q31.2) (bs1 := bsWw G a o q31.2) (st1 := [.ref (a (o + 6 + q51)), .ref (a (o + 63)), .ref (a o)]) C0 hW hl.1 (c_X3_placesOf l G a (o + 3) 6 40 (ww_rows q31.2) x1 _ hq51) cb_X3_placesOf mm_X5_117 ([1, 2, 3, 4, 5, 6, 7]) ([0, 8, 9, 10, 11, 12, 13, 14, 15, 16, 17, 18, 19, 20, 21, 22, 23, 24]) (ap_1_2_3_4_5_6_7) (ac_1_2_3_4_5_6_7 (w := q31.2)) (ac_1_2_3_4_5_6_7 (w := q31.2)) rfl rfl rfl 0 3 rfl rfl rfl (by decide) rfl rfl (Nat.le_of_ble_eq_true rfl) ⟨Nat.zero_le _, Nat.zero_le _⟩ dX5_gone_51 rfl (fun H locs hW => ?_)
        have hlt51 := placesOf_6 hq51
        refine lv_aload_n hx hb dX5_gone_54 rfl (lv_at hl 1 rfl) ?_
        refine k_get C0 hW 5 0 0 (v := .ref (a (o + 3))) rfl (by decide) inX5 mf_X5_14 rfl rfl dX5_gone_55 ?_
        refine lv_iload_n hx hb dX5_gone_58 rfl (lv_at hl 2 rfl) ?_
        obtain ⟨q59, hq59⟩ := ob_s hf
        replace hf := hq59.2
        replace hq59 := hq59.1
        refine bV1 (rest := [.ref (a (o + 6 + q51)), .ref (a (o + 63)), .ref (a o)]) (bs := bsWw G a o q31.2) (bs1 := bsWw G a o q31.2) (st1 := [.int q59, .ref (a (o + 6 + q51)), .ref (a (o + 63)), .ref (a o)]) C0 hW hl.1 (c_X3_sizeOf l G a (o + 3) 6 40 (ww_rows q31.2) x1 _ hq59) cb_X3_sizeOf mm_X5_110 ([1, 2, 3, 4, 5, 6, 7]) ([0, 8, 9, 10, 11, 12, 13, 14, 15, 16, 17, 18, 19, 20, 21, 22, 23, 24]) (ap_1_2_3_4_5_6_7) (ac_1_2_3_4_5_6_7 (w := q31.2)) (ac_1_2_3_4_5_6_7 (w := q31.2)) rfl rfl rfl 0 3 rfl rfl rfl (by decide) rfl rfl (Nat.le_of_ble_eq_true rfl) ⟨Nat.zero_le _, Nat.zero_le _⟩ dX5_gone_59 rfl (fun H locs hW => ?_)
        obtain ⟨q62, hq62⟩ := ob_s hf
        replace hf := hq62.2
        replace hq62 := hq62.1
        refine bV1 (rest := [.ref (a o)]) (bs := bsWw G a o q31.2) (bs1 := bsWw G a o (ww_set_aside q31.2 q62.2)) (st1 := [.int q62.1, .ref (a o)]) C0 hW hl.1 (c_X0_goneSets l G a (o + 63) a (o + 30) (a (o + 6 + q51)) 40 (ww_aside q31.2) (ct_wheel (ww_cart q31.2)) ((sh_places (ww_rows q31.2)) q51) q59 _ hq62) cb_X0_goneSets mm_X5_212 ([23, 24, 16, 2 + q51]) ([0, 1, 8, 9, 10, 11, 12, 13, 14, 15, 17, 18, 19, 20, 21, 22] ++ ((List.range 6).filter (fun z => z != q51)).map (fun z => 2 + z)) (ap_23_24_16_2q hlt51) (ac_23_24_16_2q (w := q31.2) hlt51) (ad_23_24_16_2q_w (w := q31.2) hlt51) (ar_23_24_16_2q_w (w := q31.2) hlt51) rfl (as_23_24_16_2q_w (w := q31.2) hlt51) 0 0 rfl rfl rfl (by decide) rfl rfl (Nat.le_of_ble_eq_true rfl) ⟨Nat.zero_le _, Nat.zero_le _⟩ dX5_gone_62 rfl (fun H locs hW => ?_)
        obtain ⟨q65, hq65⟩ := ob_s hf
        replace hf := hq65.2
        replace hq65 := hq65.1
        refine cW1 (rest := []) (ws1 := (bWw G a o q65.2)) (st1 := [.int q65.1]) C0 hW hl.1 (c_X5_tellBeside l G a o (ww_set_aside q31.2 q62.2) q62.1 _ hq65) cb_X5_tellBeside mm_X5_186 fst_Ww 0 5 rfl rfl rfl (by decide) rfl rfl (Nat.le_of_ble_eq_true rfl) ⟨Nat.zero_le _, Nat.zero_le _⟩ dX5_gone_65 rfl (fun H locs hW => ?_)
        have e1 := Option.some.inj hf
        subst e1
        have hF : ((q65.1, q65.2) : Int32 × Ww) = out := hF
        subst hF
        exact k_iret C0 hW dX5_gone_68
      · replace hf := if_f c36_3 hf
        refine lv_iload_n hx hb dX5_gone_39 rfl (lv_at hl 0 rfl) ?_
        have e1 := Option.some.inj hf
        subst e1
        have hF : ((q31.1, q31.2) : Int32 × Ww) = out := hF
        subst hF
        exact k_iret C0 hW dX5_gone_40
    · replace hf := if_f c23_2 hf
      refine lv_bipush (v := -4) hx hb dX5_gone_26 (by decide) ?_
      have e1 := Option.some.inj hf
      subst e1
      have hF : (((-4 : Int32), w) : Int32 × Ww) = out := hF
      subst hF
      exact k_iret C0 hW dX5_gone_28
  · replace hf := if_t c8_1 hf
    refine lv_iconst (v := -1) hx hb dX5_gone_11 (by decide) ?_
    have e1 := Option.some.inj hf
    subst e1
    have hF : (((-1 : Int32), w) : Int32 × Ww) = out := hF
    subst hF
    exact k_iret C0 hW dX5_gone_12

def f_X5_keep (w : Ww) (x1 : Int32) : Option (Int32 × Ww) :=
  if x1 < 0 then (some ((-1 : Int32), w)) else (if x1 < (3 : Int32) then (Option.bind (f_X4_isEmpty (ct_wheel (ww_cart w))) (fun q18 => if q18 = 0 then (if x1 = 0 then (Option.bind (f_X1_take (ww_kept w 0) (ww_cart w)) (fun q37 => some ((ct_done (ww_cart w)), (ww_set_kept w (updK (ww_kept w) 0 q37))))) else if x1 = 1 then (Option.bind (f_X1_take (ww_kept w 1) (ww_cart w)) (fun q37 => some ((ct_done (ww_cart w)), (ww_set_kept w (updK (ww_kept w) 1 q37))))) else if x1 = 2 then (Option.bind (f_X1_take (ww_kept w 2) (ww_cart w)) (fun q37 => some ((ct_done (ww_cart w)), (ww_set_kept w (updK (ww_kept w) 2 q37))))) else none) else (some ((-4 : Int32), w)))) else (some ((-1 : Int32), w)))
set_option maxRecDepth 100000 in
set_option maxHeartbeats 8000000 in
theorem c_X5_keep (l : Launch) (G : GG) (a : Nat → Nat) (o : Nat) (w : Ww) (x1 : Int32) (out : Int32 × Ww) (hf : f_X5_keep w x1 = some out) : Cn l G 3 yX5_keep cX5_keep 2 (some .int) [.ref (a o), .int x1] (bWw G a o w) (some (.int out.1)) (bWw G a o out.2) := by
  refine cn_start (by decide) (Nat.le_of_ble_eq_true rfl) ?_
  intro p e s m below meth c A ls C0 hW hl
  have hx := C0.1
  have hb := C0.2.1
  have hl : lv_has ls 2 [(0, .ref (a o)), (1, .int x1)] := hl
  obtain ⟨r, hr⟩ : ∃ r, f_X5_keep w x1 = some r ∧ r = out := ⟨out, hf, rfl⟩
  replace hf := hr.1
  have hF := hr.2
  clear hr
  unfold f_X5_keep at hf
  refine lv_iload_n hx hb dX5_keep_0 rfl (lv_at hl 1 rfl) ?_
  refine lv_if_lt (tgt := 9) hx hb dX5_keep_1 (by decide) (fun c1_1 => ?_) (fun c1_1 => ?_)
  · replace hf := if_t c1_1 hf
    refine lv_iconst (v := -1) hx hb dX5_keep_9 (by decide) ?_
    have e1 := Option.some.inj hf
    subst e1
    have hF : (((-1 : Int32), w) : Int32 × Ww) = out := hF
    subst hF
    exact k_iret C0 hW dX5_keep_10
  · replace hf := if_f c1_1 hf
    refine lv_iload_n hx hb dX5_keep_4 rfl (lv_at hl 1 rfl) ?_
    refine lv_iconst (v := 3) hx hb dX5_keep_5 (by decide) ?_
    refine lv_icmp_lt (tgt := 11) hx hb dX5_keep_6 (by decide) (fun c6_2 => ?_) (fun c6_2 => ?_)
    · replace hf := if_t c6_2 hf
      refine lv_aload_n hx hb dX5_keep_11 rfl (lv_at hl 0 rfl) ?_
      refine k_get C0 hW 5 3 0 (v := .ref (a (o + 27))) rfl (by decide) inX5 mf_X5_31 rfl rfl dX5_keep_12 ?_
      refine k_get C0 hW 1 0 27 (v := .ref (a (o + 30))) rfl (by decide) inX1 mf_X5_45 rfl rfl dX5_keep_15 ?_
      obtain ⟨q18, hq18⟩ := ob_s hf
      replace hf := hq18.2
      replace hq18 := hq18.1
      refine bV1 (rest := []) (bs := bsWw G a o w) (bs1 := bsWw G a o w) (st1 := [.int q18]) C0 hW hl.1 (c_X4_isEmpty l G a (o + 30) (ct_wheel (ww_cart w)) _ hq18) cb_X4_isEmpty mm_X5_163 ([16]) ([0, 1, 2, 3, 4, 5, 6, 7, 8, 9, 10, 11, 12, 13, 14, 15, 17, 18, 19, 20, 21, 22, 23, 24]) (ap_16) (ac_16 (w := w)) (ac_16 (w := w)) rfl rfl rfl 0 4 rfl rfl rfl (by decide) rfl rfl (Nat.le_of_ble_eq_true rfl) ⟨Nat.zero_le _, Nat.zero_le _⟩ dX5_keep_18 rfl (fun H locs hW => ?_)
      refine lv_if_eq (tgt := 27) hx hb dX5_keep_21 (by decide) (fun c21_3 => ?_) (fun c21_3 => ?_)
      · replace hf := if_t c21_3 hf
        refine lv_aload_n hx hb dX5_keep_27 rfl (lv_at hl 0 rfl) ?_
        refine k_get C0 hW 5 4 0 (v := .ref (a (o + 2))) rfl (by decide) inX5 mf_X5_35 rfl rfl dX5_keep_28 ?_
        refine lv_iload_n hx hb dX5_keep_31 rfl (lv_at hl 1 rfl) ?_
        by_cases hk9 : x1 = 0
        · replace hf := if_t hk9 hf
          refine k_aaldC C0 hW 2 (b := a (o + 36)) rfl (by rw [hk9]; exact inb_in rfl) (by rw [hk9]; rfl) dX5_keep_32 ?_
          refine lv_aload_n hx hb dX5_keep_33 rfl (lv_at hl 0 rfl) ?_
          refine k_get C0 hW 5 3 0 (v := .ref (a (o + 27))) rfl (by decide) inX5 mf_X5_31 rfl rfl dX5_keep_34 ?_
          obtain ⟨q37, hq37⟩ := ob_s hf
          replace hf := hq37.2
          replace hq37 := hq37.1
          refine bV1 (rest := []) (bs := bsWw G a o w) (bs1 := bsWw G a o (ww_set_kept w (updK (ww_kept w) 0 q37))) (st1 := []) C0 hW hl.1 (c_X1_take l G a (o + 36) a (o + 27) (ww_kept w 0) (ww_cart w) _ hq37) cb_X1_take mm_X5_179 ([17, 18, 15, 16]) ([0, 1, 2, 3, 4, 5, 6, 7, 8, 9, 10, 11, 12, 13, 14, 19, 20, 21, 22, 23, 24]) (ap_17_18_15_16) (ac_17_18_15_16 (w := w)) (ad_17_18_15_16_w (w := w)) (ar_17_18_15_16_w (w := w)) rfl (as_17_18_15_16_w (w := w)) 0 1 rfl rfl rfl (by decide) rfl rfl (Nat.le_of_ble_eq_true rfl) ⟨Nat.zero_le _, Nat.zero_le _⟩ dX5_keep_37 rfl (fun H locs hW => ?_)
          refine lv_aload_n hx hb dX5_keep_40 rfl (lv_at hl 0 rfl) ?_
          refine k_get C0 hW 5 3 0 (v := .ref (a (o + 27))) rfl (by decide) inX5 mf_X5_31 rfl rfl dX5_keep_41 ?_
          refine k_get C0 hW 1 3 27 (v := .int (ct_done (ww_cart w))) rfl (by decide) inX1 mf_X5_39 rfl rfl dX5_keep_44 ?_
          have e1 := Option.some.inj hf
          subst e1
          have hF : (((ct_done (ww_cart w)), (ww_set_kept w (updK (ww_kept w) 0 q37))) : Int32 × Ww) = out := hF
          subst hF
          exact k_iret C0 hW dX5_keep_47
        replace hf := if_f hk9 hf
        by_cases hk9 : x1 = 1
        · replace hf := if_t hk9 hf
          refine k_aaldC C0 hW 2 (b := a (o + 45)) rfl (by rw [hk9]; exact inb_in rfl) (by rw [hk9]; rfl) dX5_keep_32 ?_
          refine lv_aload_n hx hb dX5_keep_33 rfl (lv_at hl 0 rfl) ?_
          refine k_get C0 hW 5 3 0 (v := .ref (a (o + 27))) rfl (by decide) inX5 mf_X5_31 rfl rfl dX5_keep_34 ?_
          obtain ⟨q37, hq37⟩ := ob_s hf
          replace hf := hq37.2
          replace hq37 := hq37.1
          refine bV1 (rest := []) (bs := bsWw G a o w) (bs1 := bsWw G a o (ww_set_kept w (updK (ww_kept w) 1 q37))) (st1 := []) C0 hW hl.1 (c_X1_take l G a (o + 45) a (o + 27) (ww_kept w 1) (ww_cart w) _ hq37) cb_X1_take mm_X5_179 ([19, 20, 15, 16]) ([0, 1, 2, 3, 4, 5, 6, 7, 8, 9, 10, 11, 12, 13, 14, 17, 18, 21, 22, 23, 24]) (ap_19_20_15_16) (ac_19_20_15_16 (w := w)) (ad_19_20_15_16_w (w := w)) (ar_19_20_15_16_w (w := w)) rfl (as_19_20_15_16_w (w := w)) 0 1 rfl rfl rfl (by decide) rfl rfl (Nat.le_of_ble_eq_true rfl) ⟨Nat.zero_le _, Nat.zero_le _⟩ dX5_keep_37 rfl (fun H locs hW => ?_)
          refine lv_aload_n hx hb dX5_keep_40 rfl (lv_at hl 0 rfl) ?_
          refine k_get C0 hW 5 3 0 (v := .ref (a (o + 27))) rfl (by decide) inX5 mf_X5_31 rfl rfl dX5_keep_41 ?_
          refine k_get C0 hW 1 3 27 (v := .int (ct_done (ww_cart w))) rfl (by decide) inX1 mf_X5_39 rfl rfl dX5_keep_44 ?_
          have e1 := Option.some.inj hf
          subst e1
          have hF : (((ct_done (ww_cart w)), (ww_set_kept w (updK (ww_kept w) 1 q37))) : Int32 × Ww) = out := hF
          subst hF
          exact k_iret C0 hW dX5_keep_47
        replace hf := if_f hk9 hf
        by_cases hk9 : x1 = 2
        · replace hf := if_t hk9 hf
          refine k_aaldC C0 hW 2 (b := a (o + 54)) rfl (by rw [hk9]; exact inb_in rfl) (by rw [hk9]; rfl) dX5_keep_32 ?_
          refine lv_aload_n hx hb dX5_keep_33 rfl (lv_at hl 0 rfl) ?_
          refine k_get C0 hW 5 3 0 (v := .ref (a (o + 27))) rfl (by decide) inX5 mf_X5_31 rfl rfl dX5_keep_34 ?_
          obtain ⟨q37, hq37⟩ := ob_s hf
          replace hf := hq37.2
          replace hq37 := hq37.1
          refine bV1 (rest := []) (bs := bsWw G a o w) (bs1 := bsWw G a o (ww_set_kept w (updK (ww_kept w) 2 q37))) (st1 := []) C0 hW hl.1 (c_X1_take l G a (o + 54) a (o + 27) (ww_kept w 2) (ww_cart w) _ hq37) cb_X1_take mm_X5_179 ([21, 22, 15, 16]) ([0, 1, 2, 3, 4, 5, 6, 7, 8, 9, 10, 11, 12, 13, 14, 17, 18, 19, 20, 23, 24]) (ap_21_22_15_16) (ac_21_22_15_16 (w := w)) (ad_21_22_15_16_w (w := w)) (ar_21_22_15_16_w (w := w)) rfl (as_21_22_15_16_w (w := w)) 0 1 rfl rfl rfl (by decide) rfl rfl (Nat.le_of_ble_eq_true rfl) ⟨Nat.zero_le _, Nat.zero_le _⟩ dX5_keep_37 rfl (fun H locs hW => ?_)
          refine lv_aload_n hx hb dX5_keep_40 rfl (lv_at hl 0 rfl) ?_
          refine k_get C0 hW 5 3 0 (v := .ref (a (o + 27))) rfl (by decide) inX5 mf_X5_31 rfl rfl dX5_keep_41 ?_
          refine k_get C0 hW 1 3 27 (v := .int (ct_done (ww_cart w))) rfl (by decide) inX1 mf_X5_39 rfl rfl dX5_keep_44 ?_
          have e1 := Option.some.inj hf
          subst e1
          have hF : (((ct_done (ww_cart w)), (ww_set_kept w (updK (ww_kept w) 2 q37))) : Int32 × Ww) = out := hF
          subst hF
          exact k_iret C0 hW dX5_keep_47
        replace hf := if_f hk9 hf
        cases hf
      · replace hf := if_f c21_3 hf
        refine lv_bipush (v := -4) hx hb dX5_keep_24 (by decide) ?_
        have e1 := Option.some.inj hf
        subst e1
        have hF : (((-4 : Int32), w) : Int32 × Ww) = out := hF
        subst hF
        exact k_iret C0 hW dX5_keep_26
    · replace hf := if_f c6_2 hf
      refine lv_iconst (v := -1) hx hb dX5_keep_9 (by decide) ?_
      have e1 := Option.some.inj hf
      subst e1
      have hF : (((-1 : Int32), w) : Int32 × Ww) = out := hF
      subst hF
      exact k_iret C0 hW dX5_keep_10

def f_X5_refuseGuess (w : Ww) (x1 : Int32) (x2 : Int32) : Option (Int32 × Ww) :=
  Option.bind (f_X4_isSpoke (ct_wheel (ww_cart w)) x1) (fun q8 => if q8 = 0 then (some ((-1 : Int32), w)) else (Option.bind (f_X3_isNumber 6 40 (ww_rows w) x2) (fun q19 => if q19 = 0 then (some ((-1 : Int32), w)) else (Option.bind (f_X5_refuseLimps w x2) (fun q27 => some (q27.1, q27.2))))))
set_option maxRecDepth 100000 in
set_option maxHeartbeats 8000000 in
theorem c_X5_refuseGuess (l : Launch) (G : GG) (a : Nat → Nat) (o : Nat) (w : Ww) (x1 : Int32) (x2 : Int32) (out : Int32 × Ww) (hf : f_X5_refuseGuess w x1 x2 = some out) : Cn l G 2 yX5_refuseGuess cX5_refuseGuess 3 (some .int) [.ref (a o), .int x1, .int x2] (bWw G a o w) (some (.int out.1)) (bWw G a o out.2) := by
  refine cn_start (by decide) (Nat.le_of_ble_eq_true rfl) ?_
  intro p e s m below meth c A ls C0 hW hl
  have hx := C0.1
  have hb := C0.2.1
  have hl : lv_has ls 3 [(0, .ref (a o)), (1, .int x1), (2, .int x2)] := hl
  obtain ⟨r, hr⟩ : ∃ r, f_X5_refuseGuess w x1 x2 = some r ∧ r = out := ⟨out, hf, rfl⟩
  replace hf := hr.1
  have hF := hr.2
  clear hr
  unfold f_X5_refuseGuess at hf
  refine lv_aload_n hx hb dX5_refuseGuess_0 rfl (lv_at hl 0 rfl) ?_
  refine k_get C0 hW 5 3 0 (v := .ref (a (o + 27))) rfl (by decide) inX5 mf_X5_31 rfl rfl dX5_refuseGuess_1 ?_
  refine k_get C0 hW 1 0 27 (v := .ref (a (o + 30))) rfl (by decide) inX1 mf_X5_45 rfl rfl dX5_refuseGuess_4 ?_
  refine lv_iload_n hx hb dX5_refuseGuess_7 rfl (lv_at hl 1 rfl) ?_
  obtain ⟨q8, hq8⟩ := ob_s hf
  replace hf := hq8.2
  replace hq8 := hq8.1
  refine bV1 (rest := []) (bs := bsWw G a o w) (bs1 := bsWw G a o w) (st1 := [.int q8]) C0 hW hl.1 (c_X4_isSpoke l G a (o + 30) (ct_wheel (ww_cart w)) x1 _ hq8) cb_X4_isSpoke mm_X5_136 ([16]) ([0, 1, 2, 3, 4, 5, 6, 7, 8, 9, 10, 11, 12, 13, 14, 15, 17, 18, 19, 20, 21, 22, 23, 24]) (ap_16) (ac_16 (w := w)) (ac_16 (w := w)) rfl rfl rfl 0 4 rfl rfl rfl (by decide) rfl rfl (Nat.le_of_ble_eq_true rfl) ⟨Nat.zero_le _, Nat.zero_le _⟩ dX5_refuseGuess_8 rfl (fun H locs hW => ?_)
  refine lv_if_eq (tgt := 33) hx hb dX5_refuseGuess_11 (by decide) (fun c11_1 => ?_) (fun c11_1 => ?_)
  · replace hf := if_t c11_1 hf
    refine lv_iconst (v := -1) hx hb dX5_refuseGuess_33 (by decide) ?_
    have e1 := Option.some.inj hf
    subst e1
    have hF : (((-1 : Int32), w) : Int32 × Ww) = out := hF
    subst hF
    exact k_iret C0 hW dX5_refuseGuess_34
  · replace hf := if_f c11_1 hf
    refine lv_aload_n hx hb dX5_refuseGuess_14 rfl (lv_at hl 0 rfl) ?_
    refine k_get C0 hW 5 0 0 (v := .ref (a (o + 3))) rfl (by decide) inX5 mf_X5_14 rfl rfl dX5_refuseGuess_15 ?_
    refine lv_iload_n hx hb dX5_refuseGuess_18 rfl (lv_at hl 2 rfl) ?_
    obtain ⟨q19, hq19⟩ := ob_s hf
    replace hf := hq19.2
    replace hq19 := hq19.1
    refine bV1 (rest := []) (bs := bsWw G a o w) (bs1 := bsWw G a o w) (st1 := [.int q19]) C0 hW hl.1 (c_X3_isNumber l G a (o + 3) 6 40 (ww_rows w) x2 _ hq19) cb_X3_isNumber mm_X5_92 ([1, 2, 3, 4, 5, 6, 7]) ([0, 8, 9, 10, 11, 12, 13, 14, 15, 16, 17, 18, 19, 20, 21, 22, 23, 24]) (ap_1_2_3_4_5_6_7) (ac_1_2_3_4_5_6_7 (w := w)) (ac_1_2_3_4_5_6_7 (w := w)) rfl rfl rfl 0 3 rfl rfl rfl (by decide) rfl rfl (Nat.le_of_ble_eq_true rfl) ⟨Nat.zero_le _, Nat.zero_le _⟩ dX5_refuseGuess_19 rfl (fun H locs hW => ?_)
    refine lv_if_eq (tgt := 33) hx hb dX5_refuseGuess_22 (by decide) (fun c22_2 => ?_) (fun c22_2 => ?_)
    · replace hf := if_t c22_2 hf
      refine lv_iconst (v := -1) hx hb dX5_refuseGuess_33 (by decide) ?_
      have e1 := Option.some.inj hf
      subst e1
      have hF : (((-1 : Int32), w) : Int32 × Ww) = out := hF
      subst hF
      exact k_iret C0 hW dX5_refuseGuess_34
    · replace hf := if_f c22_2 hf
      refine lv_aload_n hx hb dX5_refuseGuess_25 rfl (lv_at hl 0 rfl) ?_
      refine lv_iload_n hx hb dX5_refuseGuess_26 rfl (lv_at hl 2 rfl) ?_
      obtain ⟨q27, hq27⟩ := ob_s hf
      replace hf := hq27.2
      replace hq27 := hq27.1
      refine cW1 (rest := []) (ws1 := (bWw G a o q27.2)) (st1 := [.int q27.1]) C0 hW hl.1 (c_X5_refuseLimps l G a o w x2 _ hq27) cb_X5_refuseLimps mm_X5_209 fst_Ww 0 5 rfl rfl rfl (by decide) rfl rfl (Nat.le_of_ble_eq_true rfl) ⟨Nat.zero_le _, Nat.zero_le _⟩ dX5_refuseGuess_27 rfl (fun H locs hW => ?_)
      refine lv_goto (tgt := 34) hx hb dX5_refuseGuess_30 (by decide) ?_
      have e1 := Option.some.inj hf
      subst e1
      have hF : ((q27.1, q27.2) : Int32 × Ww) = out := hF
      subst hF
      exact k_iret C0 hW dX5_refuseGuess_34

def f_X5_kinds (w : Ww) (x1 : Int32) (x2 : Int32) : Option (Int32 × Ww) :=
  Option.bind (f_X5_refuseGuess w x1 x2) (fun q3 => if q3.1 = 0 then (Option.bind (f_X3_placesOf 6 40 (ww_rows q3.2) x2) (fun q23 => Option.bind (f_X3_sizeOf 6 40 (ww_rows q3.2) x2) (fun q31 => Option.bind (f_X0_likelyKinds 40 (ww_aside q3.2) (ct_wheel (ww_cart q3.2)) ((sh_places (ww_rows q3.2)) q23) x1 q31) (fun q34 => some (q34.1, (ww_set_aside q3.2 q34.2)))))) else (some (q3.1, q3.2)))
set_option maxRecDepth 100000 in
set_option maxHeartbeats 8000000 in
theorem c_X5_kinds (l : Launch) (G : GG) (a : Nat → Nat) (o : Nat) (w : Ww) (x1 : Int32) (x2 : Int32) (out : Int32 × Ww) (hf : f_X5_kinds w x1 x2 = some out) : Cn l G 5 yX5_kinds cX5_kinds 4 (some .int) [.ref (a o), .int x1, .int x2] (bWw G a o w) (some (.int out.1)) (bWw G a o out.2) := by
  refine cn_start (by decide) (Nat.le_of_ble_eq_true rfl) ?_
  intro p e s m below meth c A ls C0 hW hl
  have hx := C0.1
  have hb := C0.2.1
  have hl : lv_has ls 4 [(0, .ref (a o)), (1, .int x1), (2, .int x2)] := hl
  obtain ⟨r, hr⟩ : ∃ r, f_X5_kinds w x1 x2 = some r ∧ r = out := ⟨out, hf, rfl⟩
  replace hf := hr.1
  have hF := hr.2
  clear hr
  unfold f_X5_kinds at hf
  refine lv_aload_n hx hb dX5_kinds_0 rfl (lv_at hl 0 rfl) ?_
  refine lv_iload_n hx hb dX5_kinds_1 rfl (lv_at hl 1 rfl) ?_
  refine lv_iload_n hx hb dX5_kinds_2 rfl (lv_at hl 2 rfl) ?_
  obtain ⟨q3, hq3⟩ := ob_s hf
  replace hf := hq3.2
  replace hq3 := hq3.1
  refine cW1 (rest := []) (ws1 := (bWw G a o q3.2)) (st1 := [.int q3.1]) C0 hW hl.1 (c_X5_refuseGuess l G a o w x1 x2 _ hq3) cb_X5_refuseGuess mm_X5_215 fst_Ww 0 5 rfl rfl rfl (by decide) rfl rfl (Nat.le_of_ble_eq_true rfl) ⟨Nat.zero_le _, Nat.zero_le _⟩ dX5_kinds_3 rfl (fun H locs hW => ?_)
  refine lv_istore_n (lv' := [(3, .int q3.1), (0, .ref (a o)), (1, .int x1), (2, .int x2)]) hx hb dX5_kinds_6 rfl hl (by decide) rfl (fun ls hl => ?_)
  refine lv_iload_n hx hb dX5_kinds_7 rfl (lv_at hl 0 rfl) ?_
  refine lv_if_eq (tgt := 13) hx hb dX5_kinds_8 (by decide) (fun c8_1 => ?_) (fun c8_1 => ?_)
  · replace hf := if_t c8_1 hf
    refine lv_aload_n hx hb dX5_kinds_13 rfl (lv_at hl 1 rfl) ?_
    refine k_get C0 hW 5 5 0 (v := .ref (a (o + 63))) rfl (by decide) inX5 mf_X5_52 rfl rfl dX5_kinds_14 ?_
    refine lv_iload_n hx hb dX5_kinds_17 rfl (lv_at hl 2 rfl) ?_
    refine lv_aload_n hx hb dX5_kinds_18 rfl (lv_at hl 1 rfl) ?_
    refine k_get C0 hW 5 0 0 (v := .ref (a (o + 3))) rfl (by decide) inX5 mf_X5_14 rfl rfl dX5_kinds_19 ?_
    refine lv_iload_n hx hb dX5_kinds_22 rfl (lv_at hl 3 rfl) ?_
    obtain ⟨q23, hq23⟩ := ob_s hf
    replace hf := hq23.2
    replace hq23 := hq23.1
    refine bV1 (rest := [.int x1, .ref (a (o + 63))]) (bs := bsWw G a o q3.2) (bs1 := bsWw G a o q3.2) (st1 := [.ref (a (o + 6 + q23)), .int x1, .ref (a (o + 63))]) C0 hW hl.1 (c_X3_placesOf l G a (o + 3) 6 40 (ww_rows q3.2) x2 _ hq23) cb_X3_placesOf mm_X5_117 ([1, 2, 3, 4, 5, 6, 7]) ([0, 8, 9, 10, 11, 12, 13, 14, 15, 16, 17, 18, 19, 20, 21, 22, 23, 24]) (ap_1_2_3_4_5_6_7) (ac_1_2_3_4_5_6_7 (w := q3.2)) (ac_1_2_3_4_5_6_7 (w := q3.2)) rfl rfl rfl 0 3 rfl rfl rfl (by decide) rfl rfl (Nat.le_of_ble_eq_true rfl) ⟨Nat.zero_le _, Nat.zero_le _⟩ dX5_kinds_23 rfl (fun H locs hW => ?_)
    have hlt23 := placesOf_6 hq23
    refine lv_aload_n hx hb dX5_kinds_26 rfl (lv_at hl 1 rfl) ?_
    refine k_get C0 hW 5 0 0 (v := .ref (a (o + 3))) rfl (by decide) inX5 mf_X5_14 rfl rfl dX5_kinds_27 ?_
    refine lv_iload_n hx hb dX5_kinds_30 rfl (lv_at hl 3 rfl) ?_
    obtain ⟨q31, hq31⟩ := ob_s hf
    replace hf := hq31.2
    replace hq31 := hq31.1
    refine bV1 (rest := [.ref (a (o + 6 + q23)), .int x1, .ref (a (o + 63))]) (bs := bsWw G a o q3.2) (bs1 := bsWw G a o q3.2) (st1 := [.int q31, .ref (a (o + 6 + q23)), .int x1, .ref (a (o + 63))]) C0 hW hl.1 (c_X3_sizeOf l G a (o + 3) 6 40 (ww_rows q3.2) x2 _ hq31) cb_X3_sizeOf mm_X5_110 ([1, 2, 3, 4, 5, 6, 7]) ([0, 8, 9, 10, 11, 12, 13, 14, 15, 16, 17, 18, 19, 20, 21, 22, 23, 24]) (ap_1_2_3_4_5_6_7) (ac_1_2_3_4_5_6_7 (w := q3.2)) (ac_1_2_3_4_5_6_7 (w := q3.2)) rfl rfl rfl 0 3 rfl rfl rfl (by decide) rfl rfl (Nat.le_of_ble_eq_true rfl) ⟨Nat.zero_le _, Nat.zero_le _⟩ dX5_kinds_31 rfl (fun H locs hW => ?_)
    obtain ⟨q34, hq34⟩ := ob_s hf
    replace hf := hq34.2
    replace hq34 := hq34.1
    refine bV1 (rest := []) (bs := bsWw G a o q3.2) (bs1 := bsWw G a o (ww_set_aside q3.2 q34.2)) (st1 := [.int q34.1]) C0 hW hl.1 (c_X0_likelyKinds l G a (o + 63) a (o + 30) (a (o + 6 + q23)) 40 (ww_aside q3.2) (ct_wheel (ww_cart q3.2)) ((sh_places (ww_rows q3.2)) q23) x1 q31 _ hq34) cb_X0_likelyKinds mm_X5_222 ([23, 24, 16, 2 + q23]) ([0, 1, 8, 9, 10, 11, 12, 13, 14, 15, 17, 18, 19, 20, 21, 22] ++ ((List.range 6).filter (fun z => z != q23)).map (fun z => 2 + z)) (ap_23_24_16_2q hlt23) (ac_23_24_16_2q (w := q3.2) hlt23) (ad_23_24_16_2q_w (w := q3.2) hlt23) (ar_23_24_16_2q_w (w := q3.2) hlt23) rfl (as_23_24_16_2q_w (w := q3.2) hlt23) 0 0 rfl rfl rfl (by decide) rfl rfl (Nat.le_of_ble_eq_true rfl) ⟨Nat.zero_le _, Nat.zero_le _⟩ dX5_kinds_34 rfl (fun H locs hW => ?_)
    have e1 := Option.some.inj hf
    subst e1
    have hF : ((q34.1, (ww_set_aside q3.2 q34.2)) : Int32 × Ww) = out := hF
    subst hF
    exact k_iret C0 hW dX5_kinds_37
  · replace hf := if_f c8_1 hf
    refine lv_iload_n hx hb dX5_kinds_11 rfl (lv_at hl 0 rfl) ?_
    have e1 := Option.some.inj hf
    subst e1
    have hF : ((q3.1, q3.2) : Int32 × Ww) = out := hF
    subst hF
    exact k_iret C0 hW dX5_kinds_12

def f_X5_knock (w : Ww) (x1 : Int32) : Option (Int32 × Ww) :=
  Option.bind (f_X4_isSpoke (ct_wheel (ww_cart w)) x1) (fun q8 => if q8 = 0 then (some ((-1 : Int32), w)) else (Option.bind (f_X4_isThere (ct_wheel (ww_cart w)) x1) (fun q24 => if q24 = 0 then (some ((-4 : Int32), w)) else (Option.bind (f_X5_doDeed w (3 : Int32) x1) (fun q33 => some (q33.1, q33.2))))))
set_option maxRecDepth 100000 in
set_option maxHeartbeats 8000000 in
theorem c_X5_knock (l : Launch) (G : GG) (a : Nat → Nat) (o : Nat) (w : Ww) (x1 : Int32) (out : Int32 × Ww) (hf : f_X5_knock w x1 = some out) : Cn l G 6 yX5_knock cX5_knock 2 (some .int) [.ref (a o), .int x1] (bWw G a o w) (some (.int out.1)) (bWw G a o out.2) := by
  refine cn_start (by decide) (Nat.le_of_ble_eq_true rfl) ?_
  intro p e s m below meth c A ls C0 hW hl
  have hx := C0.1
  have hb := C0.2.1
  have hl : lv_has ls 2 [(0, .ref (a o)), (1, .int x1)] := hl
  obtain ⟨r, hr⟩ : ∃ r, f_X5_knock w x1 = some r ∧ r = out := ⟨out, hf, rfl⟩
  replace hf := hr.1
  have hF := hr.2
  clear hr
  unfold f_X5_knock at hf
  refine lv_aload_n hx hb dX5_knock_0 rfl (lv_at hl 0 rfl) ?_
  refine k_get C0 hW 5 3 0 (v := .ref (a (o + 27))) rfl (by decide) inX5 mf_X5_31 rfl rfl dX5_knock_1 ?_
  refine k_get C0 hW 1 0 27 (v := .ref (a (o + 30))) rfl (by decide) inX1 mf_X5_45 rfl rfl dX5_knock_4 ?_
  refine lv_iload_n hx hb dX5_knock_7 rfl (lv_at hl 1 rfl) ?_
  obtain ⟨q8, hq8⟩ := ob_s hf
  replace hf := hq8.2
  replace hq8 := hq8.1
  refine bV1 (rest := []) (bs := bsWw G a o w) (bs1 := bsWw G a o w) (st1 := [.int q8]) C0 hW hl.1 (c_X4_isSpoke l G a (o + 30) (ct_wheel (ww_cart w)) x1 _ hq8) cb_X4_isSpoke mm_X5_136 ([16]) ([0, 1, 2, 3, 4, 5, 6, 7, 8, 9, 10, 11, 12, 13, 14, 15, 17, 18, 19, 20, 21, 22, 23, 24]) (ap_16) (ac_16 (w := w)) (ac_16 (w := w)) rfl rfl rfl 0 4 rfl rfl rfl (by decide) rfl rfl (Nat.le_of_ble_eq_true rfl) ⟨Nat.zero_le _, Nat.zero_le _⟩ dX5_knock_8 rfl (fun H locs hW => ?_)
  refine lv_if_ne (tgt := 16) hx hb dX5_knock_11 (by decide) (fun c11_1 => ?_) (fun c11_1 => ?_)
  · replace hf := if_f c11_1 hf
    refine lv_aload_n hx hb dX5_knock_16 rfl (lv_at hl 0 rfl) ?_
    refine k_get C0 hW 5 3 0 (v := .ref (a (o + 27))) rfl (by decide) inX5 mf_X5_31 rfl rfl dX5_knock_17 ?_
    refine k_get C0 hW 1 0 27 (v := .ref (a (o + 30))) rfl (by decide) inX1 mf_X5_45 rfl rfl dX5_knock_20 ?_
    refine lv_iload_n hx hb dX5_knock_23 rfl (lv_at hl 1 rfl) ?_
    obtain ⟨q24, hq24⟩ := ob_s hf
    replace hf := hq24.2
    replace hq24 := hq24.1
    refine bV1 (rest := []) (bs := bsWw G a o w) (bs1 := bsWw G a o w) (st1 := [.int q24]) C0 hW hl.1 (c_X4_isThere l G a (o + 30) (ct_wheel (ww_cart w)) x1 _ hq24) cb_X4_isThere mm_X5_173 ([16]) ([0, 1, 2, 3, 4, 5, 6, 7, 8, 9, 10, 11, 12, 13, 14, 15, 17, 18, 19, 20, 21, 22, 23, 24]) (ap_16) (ac_16 (w := w)) (ac_16 (w := w)) rfl rfl rfl 0 4 rfl rfl rfl (by decide) rfl rfl (Nat.le_of_ble_eq_true rfl) ⟨Nat.zero_le _, Nat.zero_le _⟩ dX5_knock_24 rfl (fun H locs hW => ?_)
    refine lv_if_eq (tgt := 39) hx hb dX5_knock_27 (by decide) (fun c27_2 => ?_) (fun c27_2 => ?_)
    · replace hf := if_t c27_2 hf
      refine lv_bipush (v := -4) hx hb dX5_knock_39 (by decide) ?_
      have e1 := Option.some.inj hf
      subst e1
      have hF : (((-4 : Int32), w) : Int32 × Ww) = out := hF
      subst hF
      exact k_iret C0 hW dX5_knock_41
    · replace hf := if_f c27_2 hf
      refine lv_aload_n hx hb dX5_knock_30 rfl (lv_at hl 0 rfl) ?_
      refine lv_iconst (v := 3) hx hb dX5_knock_31 (by decide) ?_
      refine lv_iload_n hx hb dX5_knock_32 rfl (lv_at hl 1 rfl) ?_
      obtain ⟨q33, hq33⟩ := ob_s hf
      replace hf := hq33.2
      replace hq33 := hq33.1
      refine cW1 (rest := []) (ws1 := (bWw G a o q33.2)) (st1 := [.int q33.1]) C0 hW hl.1 (c_X5_doDeed l G a o w (3 : Int32) x1 _ hq33) cb_X5_doDeed mm_X5_170 fst_Ww 0 5 rfl rfl rfl (by decide) rfl rfl (Nat.le_of_ble_eq_true rfl) ⟨Nat.zero_le _, Nat.zero_le _⟩ dX5_knock_33 rfl (fun H locs hW => ?_)
      refine lv_goto (tgt := 41) hx hb dX5_knock_36 (by decide) ?_
      have e1 := Option.some.inj hf
      subst e1
      have hF : ((q33.1, q33.2) : Int32 × Ww) = out := hF
      subst hF
      exact k_iret C0 hW dX5_knock_41
  · replace hf := if_t c11_1 hf
    refine lv_iconst (v := -1) hx hb dX5_knock_14 (by decide) ?_
    have e1 := Option.some.inj hf
    subst e1
    have hF : (((-1 : Int32), w) : Int32 × Ww) = out := hF
    subst hF
    exact k_iret C0 hW dX5_knock_15

def f_X5_lay (w : Ww) (x1 : Int32) (x2 : Int32) (x3 : Int32) : Option (Int32 × Ww) :=
  Option.bind (f_X5_refusePlace_rows w x1 x2) (fun q7 => if q7.1 = 0 then (Option.bind (f_X3_set 6 40 (ww_rows q7.2) x1 x2 x3) (fun q28 => Option.bind (f_X5_tell (ww_set_rows q7.2 q28.2) q28.1) (fun q31 => some (q31.1, q31.2)))) else (some (q7.1, q7.2)))
set_option maxRecDepth 100000 in
set_option maxHeartbeats 8000000 in
theorem c_X5_lay (l : Launch) (G : GG) (a : Nat → Nat) (o : Nat) (w : Ww) (x1 : Int32) (x2 : Int32) (x3 : Int32) (out : Int32 × Ww) (hf : f_X5_lay w x1 x2 x3 = some out) : Cn l G 3 yX5_lay cX5_lay 5 (some .int) [.ref (a o), .int x1, .int x2, .int x3] (bWw G a o w) (some (.int out.1)) (bWw G a o out.2) := by
  refine cn_start (by decide) (Nat.le_of_ble_eq_true rfl) ?_
  intro p e s m below meth c A ls C0 hW hl
  have hx := C0.1
  have hb := C0.2.1
  have hl : lv_has ls 5 [(0, .ref (a o)), (1, .int x1), (2, .int x2), (3, .int x3)] := hl
  obtain ⟨r, hr⟩ : ∃ r, f_X5_lay w x1 x2 x3 = some r ∧ r = out := ⟨out, hf, rfl⟩
  replace hf := hr.1
  have hF := hr.2
  clear hr
  unfold f_X5_lay at hf
  refine lv_aload_n hx hb dX5_lay_0 rfl (lv_at hl 0 rfl) ?_
  refine lv_aload_n hx hb dX5_lay_1 rfl (lv_at hl 0 rfl) ?_
  refine k_get C0 hW 5 0 0 (v := .ref (a (o + 3))) rfl (by decide) inX5 mf_X5_14 rfl rfl dX5_lay_2 ?_
  refine lv_iload_n hx hb dX5_lay_5 rfl (lv_at hl 1 rfl) ?_
  refine lv_iload_n hx hb dX5_lay_6 rfl (lv_at hl 2 rfl) ?_
  obtain ⟨q7, hq7⟩ := ob_s hf
  replace hf := hq7.2
  replace hq7 := hq7.1
  refine cW1 (rest := []) (ws1 := (bWw G a o q7.2)) (st1 := [.int q7.1]) C0 hW hl.1 (c_X5_refusePlace_rows l G a o w x1 x2 _ hq7) cb_X5_refusePlace mm_X5_68 fst_Ww 0 5 rfl rfl rfl (by decide) rfl rfl (Nat.le_of_ble_eq_true rfl) ⟨Nat.zero_le _, Nat.zero_le _⟩ dX5_lay_7 rfl (fun H locs hW => ?_)
  refine lv_istore (lv' := [(4, .int q7.1), (0, .ref (a o)), (1, .int x1), (2, .int x2), (3, .int x3)]) hx hb dX5_lay_10 hl (by decide) rfl (fun ls hl => ?_)
  refine lv_iload hx hb dX5_lay_12 (lv_at hl 0 rfl) ?_
  refine lv_if_eq (tgt := 20) hx hb dX5_lay_14 (by decide) (fun c14_1 => ?_) (fun c14_1 => ?_)
  · replace hf := if_t c14_1 hf
    refine lv_aload_n hx hb dX5_lay_20 rfl (lv_at hl 1 rfl) ?_
    refine lv_aload_n hx hb dX5_lay_21 rfl (lv_at hl 1 rfl) ?_
    refine k_get C0 hW 5 0 0 (v := .ref (a (o + 3))) rfl (by decide) inX5 mf_X5_14 rfl rfl dX5_lay_22 ?_
    refine lv_iload_n hx hb dX5_lay_25 rfl (lv_at hl 2 rfl) ?_
    refine lv_iload_n hx hb dX5_lay_26 rfl (lv_at hl 3 rfl) ?_
    refine lv_iload_n hx hb dX5_lay_27 rfl (lv_at hl 4 rfl) ?_
    obtain ⟨q28, hq28⟩ := ob_s hf
    replace hf := hq28.2
    replace hq28 := hq28.1
    refine bV1 (rest := [.ref (a o)]) (bs := bsWw G a o q7.2) (bs1 := bsWw G a o (ww_set_rows q7.2 q28.2)) (st1 := [.int q28.1, .ref (a o)]) C0 hW hl.1 (c_X3_set l G a (o + 3) 6 40 (ww_rows q7.2) x1 x2 x3 _ hq28) cb_X3_set mm_X5_72 ([1, 2, 3, 4, 5, 6, 7]) ([0, 8, 9, 10, 11, 12, 13, 14, 15, 16, 17, 18, 19, 20, 21, 22, 23, 24]) (ap_1_2_3_4_5_6_7) (ac_1_2_3_4_5_6_7 (w := q7.2)) (ad_1_2_3_4_5_6_7_w (w := q7.2)) (ar_1_2_3_4_5_6_7_w (w := q7.2)) rfl (as_1_2_3_4_5_6_7_w (w := q7.2)) 0 3 rfl rfl rfl (by decide) rfl rfl (Nat.le_of_ble_eq_true rfl) ⟨Nat.zero_le _, Nat.zero_le _⟩ dX5_lay_28 rfl (fun H locs hW => ?_)
    obtain ⟨q31, hq31⟩ := ob_s hf
    replace hf := hq31.2
    replace hq31 := hq31.1
    refine cW1 (rest := []) (ws1 := (bWw G a o q31.2)) (st1 := [.int q31.1]) C0 hW hl.1 (c_X5_tell l G a o (ww_set_rows q7.2 q28.2) q28.1 _ hq31) cb_X5_tell mm_X5_76 fst_Ww 0 5 rfl rfl rfl (by decide) rfl rfl (Nat.le_of_ble_eq_true rfl) ⟨Nat.zero_le _, Nat.zero_le _⟩ dX5_lay_31 rfl (fun H locs hW => ?_)
    have e1 := Option.some.inj hf
    subst e1
    have hF : ((q31.1, q31.2) : Int32 × Ww) = out := hF
    subst hF
    exact k_iret C0 hW dX5_lay_34
  · replace hf := if_f c14_1 hf
    refine lv_iload hx hb dX5_lay_17 (lv_at hl 0 rfl) ?_
    have e1 := Option.some.inj hf
    subst e1
    have hF : ((q7.1, q7.2) : Int32 × Ww) = out := hF
    subst hF
    exact k_iret C0 hW dX5_lay_19

def f_X5_limps (w : Ww) (x1 : Int32) (x2 : Int32) : Option (Int32 × Ww) :=
  if x1 < (1 : Int32) then (some ((-1 : Int32), w)) else (if (20 : Int32) < x1 then (some ((-1 : Int32), w)) else (Option.bind (f_X3_isNumber 6 40 (ww_rows w) x2) (fun q16 => if q16 = 0 then (some ((-1 : Int32), w)) else (Option.bind (f_X4_isEmpty (ct_wheel (ww_cart w))) (fun q31 => if q31 = 0 then (Option.bind (f_X3_makeOne 6 40 (ww_rows w) x2 x1 (0 : Int32)) (fun q47 => Option.bind (f_X3_placesOf 6 40 q47 x2) (fun q59 => Option.bind (f_X0_writeLimps 40 (ww_aside w) (ct_wheel (ww_cart w)) ((sh_places q47) q59) x1) (fun q63 => some (q63.1, (ww_set_aside (ww_set_rows w (sh_set_places q47 (updA (sh_places q47) q59 q63.2.2))) q63.2.1)))))) else (some ((-4 : Int32), w)))))))
set_option maxRecDepth 100000 in
set_option maxHeartbeats 8000000 in
theorem c_X5_limps (l : Launch) (G : GG) (a : Nat → Nat) (o : Nat) (w : Ww) (x1 : Int32) (x2 : Int32) (out : Int32 × Ww) (hf : f_X5_limps w x1 x2 = some out) : Cn l G 4 yX5_limps cX5_limps 3 (some .int) [.ref (a o), .int x1, .int x2] (bWw G a o w) (some (.int out.1)) (bWw G a o out.2) := by
  refine cn_start (by decide) (Nat.le_of_ble_eq_true rfl) ?_
  intro p e s m below meth c A ls C0 hW hl
  have hx := C0.1
  have hb := C0.2.1
  have hl : lv_has ls 3 [(0, .ref (a o)), (1, .int x1), (2, .int x2)] := hl
  obtain ⟨r, hr⟩ : ∃ r, f_X5_limps w x1 x2 = some r ∧ r = out := ⟨out, hf, rfl⟩
  replace hf := hr.1
  have hF := hr.2
  clear hr
  unfold f_X5_limps at hf
  refine lv_iload_n hx hb dX5_limps_0 rfl (lv_at hl 1 rfl) ?_
  refine lv_iconst (v := 1) hx hb dX5_limps_1 (by decide) ?_
  refine lv_icmp_lt (tgt := 22) hx hb dX5_limps_2 (by decide) (fun c2_1 => ?_) (fun c2_1 => ?_)
  · replace hf := if_t c2_1 hf
    refine lv_iconst (v := -1) hx hb dX5_limps_22 (by decide) ?_
    have e1 := Option.some.inj hf
    subst e1
    have hF : (((-1 : Int32), w) : Int32 × Ww) = out := hF
    subst hF
    exact k_iret C0 hW dX5_limps_23
  · replace hf := if_f c2_1 hf
    refine lv_iload_n hx hb dX5_limps_5 rfl (lv_at hl 1 rfl) ?_
    refine lv_bipush (v := 20) hx hb dX5_limps_6 (by decide) ?_
    refine lv_icmp_gt (tgt := 22) hx hb dX5_limps_8 (by decide) (fun c8_2 => ?_) (fun c8_2 => ?_)
    · replace hf := if_t c8_2 hf
      refine lv_iconst (v := -1) hx hb dX5_limps_22 (by decide) ?_
      have e1 := Option.some.inj hf
      subst e1
      have hF : (((-1 : Int32), w) : Int32 × Ww) = out := hF
      subst hF
      exact k_iret C0 hW dX5_limps_23
    · replace hf := if_f c8_2 hf
      refine lv_aload_n hx hb dX5_limps_11 rfl (lv_at hl 0 rfl) ?_
      refine k_get C0 hW 5 0 0 (v := .ref (a (o + 3))) rfl (by decide) inX5 mf_X5_14 rfl rfl dX5_limps_12 ?_
      refine lv_iload_n hx hb dX5_limps_15 rfl (lv_at hl 2 rfl) ?_
      obtain ⟨q16, hq16⟩ := ob_s hf
      replace hf := hq16.2
      replace hq16 := hq16.1
      refine bV1 (rest := []) (bs := bsWw G a o w) (bs1 := bsWw G a o w) (st1 := [.int q16]) C0 hW hl.1 (c_X3_isNumber l G a (o + 3) 6 40 (ww_rows w) x2 _ hq16) cb_X3_isNumber mm_X5_92 ([1, 2, 3, 4, 5, 6, 7]) ([0, 8, 9, 10, 11, 12, 13, 14, 15, 16, 17, 18, 19, 20, 21, 22, 23, 24]) (ap_1_2_3_4_5_6_7) (ac_1_2_3_4_5_6_7 (w := w)) (ac_1_2_3_4_5_6_7 (w := w)) rfl rfl rfl 0 3 rfl rfl rfl (by decide) rfl rfl (Nat.le_of_ble_eq_true rfl) ⟨Nat.zero_le _, Nat.zero_le _⟩ dX5_limps_16 rfl (fun H locs hW => ?_)
      refine lv_if_ne (tgt := 24) hx hb dX5_limps_19 (by decide) (fun c19_3 => ?_) (fun c19_3 => ?_)
      · replace hf := if_f c19_3 hf
        refine lv_aload_n hx hb dX5_limps_24 rfl (lv_at hl 0 rfl) ?_
        refine k_get C0 hW 5 3 0 (v := .ref (a (o + 27))) rfl (by decide) inX5 mf_X5_31 rfl rfl dX5_limps_25 ?_
        refine k_get C0 hW 1 0 27 (v := .ref (a (o + 30))) rfl (by decide) inX1 mf_X5_45 rfl rfl dX5_limps_28 ?_
        obtain ⟨q31, hq31⟩ := ob_s hf
        replace hf := hq31.2
        replace hq31 := hq31.1
        refine bV1 (rest := []) (bs := bsWw G a o w) (bs1 := bsWw G a o w) (st1 := [.int q31]) C0 hW hl.1 (c_X4_isEmpty l G a (o + 30) (ct_wheel (ww_cart w)) _ hq31) cb_X4_isEmpty mm_X5_163 ([16]) ([0, 1, 2, 3, 4, 5, 6, 7, 8, 9, 10, 11, 12, 13, 14, 15, 17, 18, 19, 20, 21, 22, 23, 24]) (ap_16) (ac_16 (w := w)) (ac_16 (w := w)) rfl rfl rfl 0 4 rfl rfl rfl (by decide) rfl rfl (Nat.le_of_ble_eq_true rfl) ⟨Nat.zero_le _, Nat.zero_le _⟩ dX5_limps_31 rfl (fun H locs hW => ?_)
        refine lv_if_eq (tgt := 40) hx hb dX5_limps_34 (by decide) (fun c34_4 => ?_) (fun c34_4 => ?_)
        · replace hf := if_t c34_4 hf
          refine lv_aload_n hx hb dX5_limps_40 rfl (lv_at hl 0 rfl) ?_
          refine k_get C0 hW 5 0 0 (v := .ref (a (o + 3))) rfl (by decide) inX5 mf_X5_14 rfl rfl dX5_limps_41 ?_
          refine lv_iload_n hx hb dX5_limps_44 rfl (lv_at hl 2 rfl) ?_
          refine lv_iload_n hx hb dX5_limps_45 rfl (lv_at hl 1 rfl) ?_
          refine lv_iconst (v := 0) hx hb dX5_limps_46 (by decide) ?_
          obtain ⟨q47, hq47⟩ := ob_s hf
          replace hf := hq47.2
          replace hq47 := hq47.1
          refine bV1 (rest := []) (bs := bsWw G a o w) (bs1 := bsWw G a o (ww_set_rows w q47)) (st1 := []) C0 hW hl.1 (c_X3_makeOne l G a (o + 3) 6 40 (ww_rows w) x2 x1 (0 : Int32) _ hq47) cb_X3_makeOne mm_X5_193 ([1, 2, 3, 4, 5, 6, 7]) ([0, 8, 9, 10, 11, 12, 13, 14, 15, 16, 17, 18, 19, 20, 21, 22, 23, 24]) (ap_1_2_3_4_5_6_7) (ac_1_2_3_4_5_6_7 (w := w)) (ad_1_2_3_4_5_6_7_w (w := w)) (ar_1_2_3_4_5_6_7_w (w := w)) rfl (as_1_2_3_4_5_6_7_w (w := w)) 0 3 rfl rfl rfl (by decide) rfl rfl (Nat.le_of_ble_eq_true rfl) ⟨Nat.zero_le _, Nat.zero_le _⟩ dX5_limps_47 rfl (fun H locs hW => ?_)
          refine lv_aload_n hx hb dX5_limps_50 rfl (lv_at hl 0 rfl) ?_
          refine k_get C0 hW 5 5 0 (v := .ref (a (o + 63))) rfl (by decide) inX5 mf_X5_52 rfl rfl dX5_limps_51 ?_
          refine lv_aload_n hx hb dX5_limps_54 rfl (lv_at hl 0 rfl) ?_
          refine k_get C0 hW 5 0 0 (v := .ref (a (o + 3))) rfl (by decide) inX5 mf_X5_14 rfl rfl dX5_limps_55 ?_
          refine lv_iload_n hx hb dX5_limps_58 rfl (lv_at hl 2 rfl) ?_
          obtain ⟨q59, hq59⟩ := ob_s hf
          replace hf := hq59.2
          replace hq59 := hq59.1
          refine bV1 (rest := [.ref (a (o + 63))]) (bs := bsWw G a o (ww_set_rows w q47)) (bs1 := bsWw G a o (ww_set_rows w q47)) (st1 := [.ref (a (o + 6 + q59)), .ref (a (o + 63))]) C0 hW hl.1 (c_X3_placesOf l G a (o + 3) 6 40 q47 x2 _ hq59) cb_X3_placesOf mm_X5_117 ([1, 2, 3, 4, 5, 6, 7]) ([0, 8, 9, 10, 11, 12, 13, 14, 15, 16, 17, 18, 19, 20, 21, 22, 23, 24]) (ap_1_2_3_4_5_6_7) (ac_1_2_3_4_5_6_7 (w := (ww_set_rows w q47))) (ac_1_2_3_4_5_6_7 (w := (ww_set_rows w q47))) rfl rfl rfl 0 3 rfl rfl rfl (by decide) rfl rfl (Nat.le_of_ble_eq_true rfl) ⟨Nat.zero_le _, Nat.zero_le _⟩ dX5_limps_59 rfl (fun H locs hW => ?_)
          have hlt59 := placesOf_6 hq59
          refine lv_iload_n hx hb dX5_limps_62 rfl (lv_at hl 1 rfl) ?_
          obtain ⟨q63, hq63⟩ := ob_s hf
          replace hf := hq63.2
          replace hq63 := hq63.1
          refine bV1 (rest := []) (bs := bsWw G a o (ww_set_rows w q47)) (bs1 := bsWw G a o (ww_set_aside (ww_set_rows w (sh_set_places q47 (updA (sh_places q47) q59 q63.2.2))) q63.2.1)) (st1 := [.int q63.1]) C0 hW hl.1 (c_X0_writeLimps l G a (o + 63) a (o + 30) (a (o + 6 + q59)) 40 (ww_aside w) (ct_wheel (ww_cart w)) ((sh_places q47) q59) x1 _ hq63) cb_X0_writeLimps mm_X5_197 ([23, 24, 16, 2 + q59]) ([0, 1, 8, 9, 10, 11, 12, 13, 14, 15, 17, 18, 19, 20, 21, 22] ++ ((List.range 6).filter (fun z => z != q59)).map (fun z => 2 + z)) (ap_23_24_16_2q hlt59) (ac_23_24_16_2q (w := (ww_set_rows w q47)) hlt59) (ad_23_24_16_2q_w_f (w := (ww_set_rows w q47)) hlt59) (ar_23_24_16_2q_w_f (w := (ww_set_rows w q47)) hlt59) rfl (as_23_24_16_2q_w_f (w := (ww_set_rows w q47)) hlt59) 0 0 rfl rfl rfl (by decide) rfl rfl (Nat.le_of_ble_eq_true rfl) ⟨Nat.zero_le _, Nat.zero_le _⟩ dX5_limps_63 rfl (fun H locs hW => ?_)
          have e1 := Option.some.inj hf
          subst e1
          have hF : ((q63.1, (ww_set_aside (ww_set_rows w (sh_set_places q47 (updA (sh_places q47) q59 q63.2.2))) q63.2.1)) : Int32 × Ww) = out := hF
          subst hF
          exact k_iret C0 hW dX5_limps_66
        · replace hf := if_f c34_4 hf
          refine lv_bipush (v := -4) hx hb dX5_limps_37 (by decide) ?_
          have e1 := Option.some.inj hf
          subst e1
          have hF : (((-4 : Int32), w) : Int32 × Ww) = out := hF
          subst hF
          exact k_iret C0 hW dX5_limps_39
      · replace hf := if_t c19_3 hf
        refine lv_iconst (v := -1) hx hb dX5_limps_22 (by decide) ?_
        have e1 := Option.some.inj hf
        subst e1
        have hF : (((-1 : Int32), w) : Int32 × Ww) = out := hF
        subst hF
        exact k_iret C0 hW dX5_limps_23

def f_X5_look (w : Ww) (x1 : Int32) : Option (Int32 × Ww) :=
  Option.bind (f_X4_isSpoke (ct_wheel (ww_cart w)) x1) (fun q8 => if q8 = 0 then (some ((-1 : Int32), w)) else (Option.bind (f_X0_bestDepth (ww_aside w) (ct_wheel (ww_cart w)) x1) (fun q20 => Option.bind (f_X5_tellBeside (ww_set_aside w q20.2) q20.1) (fun q23 => some (q23.1, q23.2)))))
set_option maxRecDepth 100000 in
set_option maxHeartbeats 8000000 in
theorem c_X5_look (l : Launch) (G : GG) (a : Nat → Nat) (o : Nat) (w : Ww) (x1 : Int32) (out : Int32 × Ww) (hf : f_X5_look w x1 = some out) : Cn l G 4 yX5_look cX5_look 2 (some .int) [.ref (a o), .int x1] (bWw G a o w) (some (.int out.1)) (bWw G a o out.2) := by
  refine cn_start (by decide) (Nat.le_of_ble_eq_true rfl) ?_
  intro p e s m below meth c A ls C0 hW hl
  have hx := C0.1
  have hb := C0.2.1
  have hl : lv_has ls 2 [(0, .ref (a o)), (1, .int x1)] := hl
  obtain ⟨r, hr⟩ : ∃ r, f_X5_look w x1 = some r ∧ r = out := ⟨out, hf, rfl⟩
  replace hf := hr.1
  have hF := hr.2
  clear hr
  unfold f_X5_look at hf
  refine lv_aload_n hx hb dX5_look_0 rfl (lv_at hl 0 rfl) ?_
  refine k_get C0 hW 5 3 0 (v := .ref (a (o + 27))) rfl (by decide) inX5 mf_X5_31 rfl rfl dX5_look_1 ?_
  refine k_get C0 hW 1 0 27 (v := .ref (a (o + 30))) rfl (by decide) inX1 mf_X5_45 rfl rfl dX5_look_4 ?_
  refine lv_iload_n hx hb dX5_look_7 rfl (lv_at hl 1 rfl) ?_
  obtain ⟨q8, hq8⟩ := ob_s hf
  replace hf := hq8.2
  replace hq8 := hq8.1
  refine bV1 (rest := []) (bs := bsWw G a o w) (bs1 := bsWw G a o w) (st1 := [.int q8]) C0 hW hl.1 (c_X4_isSpoke l G a (o + 30) (ct_wheel (ww_cart w)) x1 _ hq8) cb_X4_isSpoke mm_X5_136 ([16]) ([0, 1, 2, 3, 4, 5, 6, 7, 8, 9, 10, 11, 12, 13, 14, 15, 17, 18, 19, 20, 21, 22, 23, 24]) (ap_16) (ac_16 (w := w)) (ac_16 (w := w)) rfl rfl rfl 0 4 rfl rfl rfl (by decide) rfl rfl (Nat.le_of_ble_eq_true rfl) ⟨Nat.zero_le _, Nat.zero_le _⟩ dX5_look_8 rfl (fun H locs hW => ?_)
  refine lv_if_eq (tgt := 29) hx hb dX5_look_11 (by decide) (fun c11_1 => ?_) (fun c11_1 => ?_)
  · replace hf := if_t c11_1 hf
    refine lv_iconst (v := -1) hx hb dX5_look_29 (by decide) ?_
    have e1 := Option.some.inj hf
    subst e1
    have hF : (((-1 : Int32), w) : Int32 × Ww) = out := hF
    subst hF
    exact k_iret C0 hW dX5_look_30
  · replace hf := if_f c11_1 hf
    refine lv_aload_n hx hb dX5_look_14 rfl (lv_at hl 0 rfl) ?_
    refine lv_aload_n hx hb dX5_look_15 rfl (lv_at hl 0 rfl) ?_
    refine k_get C0 hW 5 5 0 (v := .ref (a (o + 63))) rfl (by decide) inX5 mf_X5_52 rfl rfl dX5_look_16 ?_
    refine lv_iload_n hx hb dX5_look_19 rfl (lv_at hl 1 rfl) ?_
    obtain ⟨q20, hq20⟩ := ob_s hf
    replace hf := hq20.2
    replace hq20 := hq20.1
    refine bV1 (rest := [.ref (a o)]) (bs := bsWw G a o w) (bs1 := bsWw G a o (ww_set_aside w q20.2)) (st1 := [.int q20.1, .ref (a o)]) C0 hW hl.1 (c_X0_bestDepth l G a (o + 63) a (o + 30) (ww_aside w) (ct_wheel (ww_cart w)) x1 _ hq20) cb_X0_bestDepth mm_X5_225 ([23, 24, 16]) ([0, 1, 2, 3, 4, 5, 6, 7, 8, 9, 10, 11, 12, 13, 14, 15, 17, 18, 19, 20, 21, 22]) (ap_23_24_16) (ac_23_24_16 (w := w)) (ad_23_24_16_w (w := w)) (ar_23_24_16_w (w := w)) rfl (as_23_24_16_w (w := w)) 0 0 rfl rfl rfl (by decide) rfl rfl (Nat.le_of_ble_eq_true rfl) ⟨Nat.zero_le _, Nat.zero_le _⟩ dX5_look_20 rfl (fun H locs hW => ?_)
    obtain ⟨q23, hq23⟩ := ob_s hf
    replace hf := hq23.2
    replace hq23 := hq23.1
    refine cW1 (rest := []) (ws1 := (bWw G a o q23.2)) (st1 := [.int q23.1]) C0 hW hl.1 (c_X5_tellBeside l G a o (ww_set_aside w q20.2) q20.1 _ hq23) cb_X5_tellBeside mm_X5_186 fst_Ww 0 5 rfl rfl rfl (by decide) rfl rfl (Nat.le_of_ble_eq_true rfl) ⟨Nat.zero_le _, Nat.zero_le _⟩ dX5_look_23 rfl (fun H locs hW => ?_)
    refine lv_goto (tgt := 30) hx hb dX5_look_26 (by decide) ?_
    have e1 := Option.some.inj hf
    subst e1
    have hF : ((q23.1, q23.2) : Int32 × Ww) = out := hF
    subst hF
    exact k_iret C0 hW dX5_look_30

def f_X5_lots_J93 (w : Ww) : Option (Int32 × Ww) :=
  some ((wh_rut (ct_wheel (ww_cart w))), w)
def f_X5_lots_B66 (x1 : Int32) (x3 : Int64) (x5 : Int32) (w : Ww) : Option ((Int64 × Int32 × Ww) ⊕ (Int32 × Ww)) :=
  if x1 ≤ x5 then (Option.map Sum.inr (f_X5_lots_J93 w)) else (nm (jremL (x3 * (48271 : Int64)) (2147483647 : Int64)) (fun v81 => Option.bind (f_X5_doLot w v81) (fun q84 => some (Sum.inl (v81, (x5 + (1 : Int32)), q84)))))
def f_X5_lots_L66 (x1 : Int32) (sg : Int64 × Int32 × Ww) : Option ((Int64 × Int32 × Ww) ⊕ (Int32 × Ww)) := f_X5_lots_B66 x1 sg.1 sg.2.1 sg.2.2
def f_X5_lots (w : Ww) (x1 : Int32) (x2 : Int32) : Option (Int32 × Ww) :=
  if x1 < (1 : Int32) then (some ((-1 : Int32), w)) else (if (20 : Int32) < x1 then (some ((-1 : Int32), w)) else (if x2 < (1 : Int32) then (some ((-1 : Int32), w)) else (if (lg_cmp (x2.toInt64) (2147483647 : Int64)) < 0 then (Option.bind (f_X4_isEmpty (ct_wheel (ww_cart w))) (fun q34 => if q34 = 0 then (if ((ct_done (ww_cart w)) + x1) ≤ (40 : Int32) then (lp (f_X5_lots_L66 x1) fuel ((x2.toInt64), (0 : Int32), w)) else (some ((-2 : Int32), w))) else (some ((-4 : Int32), w)))) else (some ((-1 : Int32), w)))))
set_option maxRecDepth 100000 in
set_option maxHeartbeats 8000000 in
theorem c_X5_lots (l : Launch) (G : GG) (a : Nat → Nat) (o : Nat) (w : Ww) (x1 : Int32) (x2 : Int32) (out : Int32 × Ww) (hf : f_X5_lots w x1 x2 = some out) : Cn l G 6 yX5_lots cX5_lots 6 (some .int) [.ref (a o), .int x1, .int x2] (bWw G a o w) (some (.int out.1)) (bWw G a o out.2) := by
  refine cn_start (by decide) (Nat.le_of_ble_eq_true rfl) ?_
  intro p e s m below meth c A ls C0 hW hl
  have hx := C0.1
  have hb := C0.2.1
  have hl : lv_has ls 6 [(0, .ref (a o)), (1, .int x1), (2, .int x2)] := hl
  have J93 : ∀ (w : Ww) (r : Int32 × Ww), f_X5_lots_J93 w = some r → (fun (r : Int32 × Ww) => r = out) r → ∀ (H : Heap) (locs : List Loc) (ls : Array Slot), Wd G A s.heap H (bWw G a o w) locs → lv_has ls 6 [(0, .ref (a o))] → WW p l e 6 s m [.ref (a o), .int x1, .int x2] below meth c G A (some (.int out.1)) ((bWw G a o out.2)) H locs 93 ls [] := by
    intro w r hf hF H locs ls hW hl
    unfold f_X5_lots_J93 at hf
    refine lv_aload_n hx hb dX5_lots_93 rfl (lv_at hl 0 rfl) ?_
    refine k_get C0 hW 5 3 0 (v := .ref (a (o + 27))) rfl (by decide) inX5 mf_X5_31 rfl rfl dX5_lots_94 ?_
    refine k_get C0 hW 1 0 27 (v := .ref (a (o + 30))) rfl (by decide) inX1 mf_X5_45 rfl rfl dX5_lots_97 ?_
    refine k_get C0 hW 4 8 30 (v := .int (wh_rut (ct_wheel (ww_cart w)))) rfl (by decide) inX4 mf_X5_254 rfl rfl dX5_lots_100 ?_
    have e1 := Option.some.inj hf
    subst e1
    have hF : (((wh_rut (ct_wheel (ww_cart w))), w) : Int32 × Ww) = out := hF
    subst hF
    exact k_iret C0 hW dX5_lots_103
  have L66 : ∀ (k8 : Nat) (sg : Int64 × Int32 × Ww) (o9 : Int32 × Ww), lp (f_X5_lots_L66 x1) k8 sg = some o9 → (fun (r : Int32 × Ww) => r = out) o9 → (fun (sg : Int64 × Int32 × Ww) => ∀ (H : Heap) (locs : List Loc) (ls : Array Slot), Wd G A s.heap H (bWw G a o sg.2.2) locs → lv_has ls 6 [(0, .ref (a o)), (1, .int x1), (3, .long sg.1), (5, .int sg.2.1)] → WW p l e 6 s m [.ref (a o), .int x1, .int x2] below meth c G A (some (.int out.1)) ((bWw G a o out.2)) H locs 66 ls []) sg := by
    have B66 : ∀ (x3 : Int64) (x5 : Int32) (w : Ww) (r : (Int64 × Int32 × Ww) ⊕ (Int32 × Ww)), f_X5_lots_B66 x1 x3 x5 w = some r → (Sum.elim (fun (sg : Int64 × Int32 × Ww) => ∀ (H : Heap) (locs : List Loc) (ls : Array Slot), Wd G A s.heap H (bWw G a o sg.2.2) locs → lv_has ls 6 [(0, .ref (a o)), (1, .int x1), (3, .long sg.1), (5, .int sg.2.1)] → WW p l e 6 s m [.ref (a o), .int x1, .int x2] below meth c G A (some (.int out.1)) ((bWw G a o out.2)) H locs 66 ls []) (fun (r : Int32 × Ww) => r = out)) r → ∀ (H : Heap) (locs : List Loc) (ls : Array Slot), Wd G A s.heap H (bWw G a o w) locs → lv_has ls 6 [(0, .ref (a o)), (1, .int x1), (3, .long x3), (5, .int x5)] → WW p l e 6 s m [.ref (a o), .int x1, .int x2] below meth c G A (some (.int out.1)) ((bWw G a o out.2)) H locs 66 ls [] := by
      intro x3 x5 w r hf hF H locs ls hW hl
      unfold f_X5_lots_B66 at hf
      refine lv_iload hx hb dX5_lots_66 (lv_at hl 3 rfl) ?_
      refine lv_iload_n hx hb dX5_lots_68 rfl (lv_at hl 1 rfl) ?_
      refine lv_icmp_ge (tgt := 93) hx hb dX5_lots_69 (by decide) (fun c69_7 => ?_) (fun c69_7 => ?_)
      · replace hf := if_t c69_7 hf
        obtain ⟨r2, e2⟩ := om_s hf
        replace hf := e2.1
        replace e2 := e2.2
        subst e2
        replace hF := elim_r hF
        exact J93 _ _ hf hF _ _ _ hW (lv_sub hl [0] rfl)
      · replace hf := if_f c69_7 hf
        refine lv_lload_n hx hb dX5_lots_72 rfl (lv_at hl 2 rfl) ?_
        refine lv_ldc2 hx hb C0.2.2.2.2.2.1 (C0.2.2.2.2.2.2.1 _ mk_X5_248) dX5_lots_73 ?_
        refine lv_lmul hx hb dX5_lots_76 ?_
        refine lv_ldc2 hx hb C0.2.2.2.2.2.1 (C0.2.2.2.2.2.2.1 _ mk_X5_246) dX5_lots_77 ?_
        refine lv_lrem hx hb dX5_lots_80 (by decide) ?_
        refine lv_topl (fun v81 ev81 => ?_)
        replace hf := nm_s ev81 hf
        refine lv_lstore_n (lv' := [(3, .long v81), (0, .ref (a o)), (1, .int x1), (5, .int x5)]) hx hb dX5_lots_81 rfl hl (by decide) rfl (fun ls hl => ?_)
        refine lv_aload_n hx hb dX5_lots_82 rfl (lv_at hl 1 rfl) ?_
        refine lv_lload_n hx hb dX5_lots_83 rfl (lv_at hl 0 rfl) ?_
        obtain ⟨q84, hq84⟩ := ob_s hf
        replace hf := hq84.2
        replace hq84 := hq84.1
        refine cW1 (rest := []) (ws1 := (bWw G a o q84)) (st1 := []) C0 hW hl.1 (c_X5_doLot l G a o w v81 _ hq84) cb_X5_doLot mm_X5_250 fst_Ww 0 5 rfl rfl rfl (by decide) rfl rfl (Nat.le_of_ble_eq_true rfl) ⟨Nat.zero_le _, Nat.zero_le _⟩ dX5_lots_84 rfl (fun H locs hW => ?_)
        refine lv_iinc (v := (x5 + (1 : Int32))) (lv' := [(5, .int (x5 + (1 : Int32))), (3, .long v81), (0, .ref (a o)), (1, .int x1)]) hx hb dX5_lots_87 hl (k := 3) rfl rfl (by decide) rfl (fun ls hl => ?_)
        refine lv_goto (tgt := 66) hx hb dX5_lots_90 (by decide) ?_
        have e1 := Option.some.inj hf
        subst e1
        exact (elim_l hF) _ _ _ hW (lv_sub hl [2, 3, 1, 0] rfl)
    exact lp_sound (fun sg r hb hz => B66 sg.1 sg.2.1 sg.2.2 r hb hz)
  obtain ⟨r, hr⟩ : ∃ r, f_X5_lots w x1 x2 = some r ∧ r = out := ⟨out, hf, rfl⟩
  replace hf := hr.1
  have hF := hr.2
  clear hr
  unfold f_X5_lots at hf
  refine lv_iload_n hx hb dX5_lots_0 rfl (lv_at hl 1 rfl) ?_
  refine lv_iconst (v := 1) hx hb dX5_lots_1 (by decide) ?_
  refine lv_icmp_lt (tgt := 25) hx hb dX5_lots_2 (by decide) (fun c2_1 => ?_) (fun c2_1 => ?_)
  · replace hf := if_t c2_1 hf
    refine lv_iconst (v := -1) hx hb dX5_lots_25 (by decide) ?_
    have e1 := Option.some.inj hf
    subst e1
    have hF : (((-1 : Int32), w) : Int32 × Ww) = out := hF
    subst hF
    exact k_iret C0 hW dX5_lots_26
  · replace hf := if_f c2_1 hf
    refine lv_iload_n hx hb dX5_lots_5 rfl (lv_at hl 1 rfl) ?_
    refine lv_bipush (v := 20) hx hb dX5_lots_6 (by decide) ?_
    refine lv_icmp_gt (tgt := 25) hx hb dX5_lots_8 (by decide) (fun c8_2 => ?_) (fun c8_2 => ?_)
    · replace hf := if_t c8_2 hf
      refine lv_iconst (v := -1) hx hb dX5_lots_25 (by decide) ?_
      have e1 := Option.some.inj hf
      subst e1
      have hF : (((-1 : Int32), w) : Int32 × Ww) = out := hF
      subst hF
      exact k_iret C0 hW dX5_lots_26
    · replace hf := if_f c8_2 hf
      refine lv_iload_n hx hb dX5_lots_11 rfl (lv_at hl 2 rfl) ?_
      refine lv_iconst (v := 1) hx hb dX5_lots_12 (by decide) ?_
      refine lv_icmp_lt (tgt := 25) hx hb dX5_lots_13 (by decide) (fun c13_3 => ?_) (fun c13_3 => ?_)
      · replace hf := if_t c13_3 hf
        refine lv_iconst (v := -1) hx hb dX5_lots_25 (by decide) ?_
        have e1 := Option.some.inj hf
        subst e1
        have hF : (((-1 : Int32), w) : Int32 × Ww) = out := hF
        subst hF
        exact k_iret C0 hW dX5_lots_26
      · replace hf := if_f c13_3 hf
        refine lv_iload_n hx hb dX5_lots_16 rfl (lv_at hl 2 rfl) ?_
        refine lv_i2l (v := x2.toInt64) hx hb dX5_lots_17 rfl ?_
        refine lv_ldc2 hx hb C0.2.2.2.2.2.1 (C0.2.2.2.2.2.2.1 _ mk_X5_246) dX5_lots_18 ?_
        refine W.lcmp hx hb dX5_lots_21 ?_
        refine lv_if_lt (tgt := 27) hx hb dX5_lots_22 (by decide) (fun c22_4 => ?_) (fun c22_4 => ?_)
        · replace hf := if_t c22_4 hf
          refine lv_aload_n hx hb dX5_lots_27 rfl (lv_at hl 0 rfl) ?_
          refine k_get C0 hW 5 3 0 (v := .ref (a (o + 27))) rfl (by decide) inX5 mf_X5_31 rfl rfl dX5_lots_28 ?_
          refine k_get C0 hW 1 0 27 (v := .ref (a (o + 30))) rfl (by decide) inX1 mf_X5_45 rfl rfl dX5_lots_31 ?_
          obtain ⟨q34, hq34⟩ := ob_s hf
          replace hf := hq34.2
          replace hq34 := hq34.1
          refine bV1 (rest := []) (bs := bsWw G a o w) (bs1 := bsWw G a o w) (st1 := [.int q34]) C0 hW hl.1 (c_X4_isEmpty l G a (o + 30) (ct_wheel (ww_cart w)) _ hq34) cb_X4_isEmpty mm_X5_163 ([16]) ([0, 1, 2, 3, 4, 5, 6, 7, 8, 9, 10, 11, 12, 13, 14, 15, 17, 18, 19, 20, 21, 22, 23, 24]) (ap_16) (ac_16 (w := w)) (ac_16 (w := w)) rfl rfl rfl 0 4 rfl rfl rfl (by decide) rfl rfl (Nat.le_of_ble_eq_true rfl) ⟨Nat.zero_le _, Nat.zero_le _⟩ dX5_lots_34 rfl (fun H locs hW => ?_)
          refine lv_if_eq (tgt := 43) hx hb dX5_lots_37 (by decide) (fun c37_5 => ?_) (fun c37_5 => ?_)
          · replace hf := if_t c37_5 hf
            refine lv_aload_n hx hb dX5_lots_43 rfl (lv_at hl 0 rfl) ?_
            refine k_get C0 hW 5 3 0 (v := .ref (a (o + 27))) rfl (by decide) inX5 mf_X5_31 rfl rfl dX5_lots_44 ?_
            refine k_get C0 hW 1 3 27 (v := .int (ct_done (ww_cart w))) rfl (by decide) inX1 mf_X5_39 rfl rfl dX5_lots_47 ?_
            refine lv_iload_n hx hb dX5_lots_50 rfl (lv_at hl 1 rfl) ?_
            refine lv_iadd hx hb dX5_lots_51 ?_
            refine lv_bipush (v := 40) hx hb dX5_lots_52 (by decide) ?_
            refine lv_icmp_le (tgt := 60) hx hb dX5_lots_54 (by decide) (fun c54_6 => ?_) (fun c54_6 => ?_)
            · replace hf := if_t c54_6 hf
              refine lv_iload_n hx hb dX5_lots_60 rfl (lv_at hl 2 rfl) ?_
              refine lv_i2l (v := x2.toInt64) hx hb dX5_lots_61 rfl ?_
              refine lv_lstore_n (lv' := [(3, .long (x2.toInt64)), (0, .ref (a o)), (1, .int x1), (2, .int x2)]) hx hb dX5_lots_62 rfl hl (by decide) rfl (fun ls hl => ?_)
              refine lv_iconst (v := 0) hx hb dX5_lots_63 (by decide) ?_
              refine lv_istore (lv' := [(5, .int (0 : Int32)), (3, .long (x2.toInt64)), (0, .ref (a o)), (1, .int x1), (2, .int x2)]) hx hb dX5_lots_64 hl (by decide) rfl (fun ls hl => ?_)
              exact L66  fuel ((x2.toInt64), (0 : Int32), w) _ hf hF _ _ _ hW (lv_sub hl [2, 3, 1, 0] rfl)
            · replace hf := if_f c54_6 hf
              refine lv_bipush (v := -2) hx hb dX5_lots_57 (by decide) ?_
              have e1 := Option.some.inj hf
              subst e1
              have hF : (((-2 : Int32), w) : Int32 × Ww) = out := hF
              subst hF
              exact k_iret C0 hW dX5_lots_59
          · replace hf := if_f c37_5 hf
            refine lv_bipush (v := -4) hx hb dX5_lots_40 (by decide) ?_
            have e1 := Option.some.inj hf
            subst e1
            have hF : (((-4 : Int32), w) : Int32 × Ww) = out := hF
            subst hF
            exact k_iret C0 hW dX5_lots_42
        · replace hf := if_f c22_4 hf
          refine lv_iconst (v := -1) hx hb dX5_lots_25 (by decide) ?_
          have e1 := Option.some.inj hf
          subst e1
          have hF : (((-1 : Int32), w) : Int32 × Ww) = out := hF
          subst hF
          exact k_iret C0 hW dX5_lots_26

def f_X5_lower (w : Ww) : Option (Int64) :=
  some (ww_lowerLast w)
set_option maxRecDepth 100000 in
set_option maxHeartbeats 8000000 in
theorem c_X5_lower (l : Launch) (G : GG) (a : Nat → Nat) (o : Nat) (w : Ww) (out : Int64) (hf : f_X5_lower w = some out) : Cn l G 0 yX5_lower cX5_lower 1 (some .long) [.ref (a o)] (bWw G a o w) (some (.long out)) (bWw G a o w) := by
  refine cn_start (by decide) (Nat.le_of_ble_eq_true rfl) ?_
  intro p e s m below meth c A ls C0 hW hl
  have hx := C0.1
  have hb := C0.2.1
  have hl : lv_has ls 1 [(0, .ref (a o))] := hl
  obtain ⟨r, hr⟩ : ∃ r, f_X5_lower w = some r ∧ r = out := ⟨out, hf, rfl⟩
  replace hf := hr.1
  have hF := hr.2
  clear hr
  unfold f_X5_lower at hf
  refine lv_aload_n hx hb dX5_lower_0 rfl (lv_at hl 0 rfl) ?_
  refine k_get C0 hW 5 10 0 (v := .long (ww_lowerLast w)) rfl (by decide) inX5 mf_X5_60 rfl rfl dX5_lower_1 ?_
  have e1 := Option.some.inj hf
  subst e1
  have hF : ((ww_lowerLast w) : Int64) = out := hF
  subst hF
  exact k_lret C0 hW dX5_lower_4

def f_X5_mark (w : Ww) (x1 : Int32) (x2 : Int32) : Option (Int32 × Ww) :=
  Option.bind (f_X4_isSpoke (ct_wheel (ww_cart w)) x1) (fun q8 => if q8 = 0 then (some ((-1 : Int32), w)) else (if x2 ≤ 0 then (some ((-1 : Int32), w)) else (if x2 < (6 : Int32) then (gd (inb x1 8) (Option.bind (f_X5_isOfKind ((wh_kind (ct_wheel (ww_cart w))) (ix x1)) x2) (fun q39 => if q39 = 0 then (Option.bind (f_X5_refuse w (3 : Int32)) (fun q47 => some (q47.1, q47.2))) else (Option.bind (f_X4_differs (ct_wheel (ww_cart w)) x1 x2) (fun q60 => some (q60, w)))))) else (some ((-1 : Int32), w)))))
set_option maxRecDepth 100000 in
set_option maxHeartbeats 8000000 in
theorem c_X5_mark (l : Launch) (G : GG) (a : Nat → Nat) (o : Nat) (w : Ww) (x1 : Int32) (x2 : Int32) (out : Int32 × Ww) (hf : f_X5_mark w x1 x2 = some out) : Cn l G 4 yX5_mark cX5_mark 3 (some .int) [.ref (a o), .int x1, .int x2] (bWw G a o w) (some (.int out.1)) (bWw G a o out.2) := by
  refine cn_start (by decide) (Nat.le_of_ble_eq_true rfl) ?_
  intro p e s m below meth c A ls C0 hW hl
  have hx := C0.1
  have hb := C0.2.1
  have hl : lv_has ls 3 [(0, .ref (a o)), (1, .int x1), (2, .int x2)] := hl
  obtain ⟨r, hr⟩ : ∃ r, f_X5_mark w x1 x2 = some r ∧ r = out := ⟨out, hf, rfl⟩
  replace hf := hr.1
  have hF := hr.2
  clear hr
  unfold f_X5_mark at hf
  refine lv_aload_n hx hb dX5_mark_0 rfl (lv_at hl 0 rfl) ?_
  refine k_get C0 hW 5 3 0 (v := .ref (a (o + 27))) rfl (by decide) inX5 mf_X5_31 rfl rfl dX5_mark_1 ?_
  refine k_get C0 hW 1 0 27 (v := .ref (a (o + 30))) rfl (by decide) inX1 mf_X5_45 rfl rfl dX5_mark_4 ?_
  refine lv_iload_n hx hb dX5_mark_7 rfl (lv_at hl 1 rfl) ?_
  obtain ⟨q8, hq8⟩ := ob_s hf
  replace hf := hq8.2
  replace hq8 := hq8.1
  refine bV1 (rest := []) (bs := bsWw G a o w) (bs1 := bsWw G a o w) (st1 := [.int q8]) C0 hW hl.1 (c_X4_isSpoke l G a (o + 30) (ct_wheel (ww_cart w)) x1 _ hq8) cb_X4_isSpoke mm_X5_136 ([16]) ([0, 1, 2, 3, 4, 5, 6, 7, 8, 9, 10, 11, 12, 13, 14, 15, 17, 18, 19, 20, 21, 22, 23, 24]) (ap_16) (ac_16 (w := w)) (ac_16 (w := w)) rfl rfl rfl 0 4 rfl rfl rfl (by decide) rfl rfl (Nat.le_of_ble_eq_true rfl) ⟨Nat.zero_le _, Nat.zero_le _⟩ dX5_mark_8 rfl (fun H locs hW => ?_)
  refine lv_if_eq (tgt := 24) hx hb dX5_mark_11 (by decide) (fun c11_1 => ?_) (fun c11_1 => ?_)
  · replace hf := if_t c11_1 hf
    refine lv_iconst (v := -1) hx hb dX5_mark_24 (by decide) ?_
    have e1 := Option.some.inj hf
    subst e1
    have hF : (((-1 : Int32), w) : Int32 × Ww) = out := hF
    subst hF
    exact k_iret C0 hW dX5_mark_25
  · replace hf := if_f c11_1 hf
    refine lv_iload_n hx hb dX5_mark_14 rfl (lv_at hl 2 rfl) ?_
    refine lv_if_le (tgt := 24) hx hb dX5_mark_15 (by decide) (fun c15_2 => ?_) (fun c15_2 => ?_)
    · replace hf := if_t c15_2 hf
      refine lv_iconst (v := -1) hx hb dX5_mark_24 (by decide) ?_
      have e1 := Option.some.inj hf
      subst e1
      have hF : (((-1 : Int32), w) : Int32 × Ww) = out := hF
      subst hF
      exact k_iret C0 hW dX5_mark_25
    · replace hf := if_f c15_2 hf
      refine lv_iload_n hx hb dX5_mark_18 rfl (lv_at hl 2 rfl) ?_
      refine lv_bipush (v := 6) hx hb dX5_mark_19 (by decide) ?_
      refine lv_icmp_lt (tgt := 26) hx hb dX5_mark_21 (by decide) (fun c21_3 => ?_) (fun c21_3 => ?_)
      · replace hf := if_t c21_3 hf
        refine lv_aload_n hx hb dX5_mark_26 rfl (lv_at hl 0 rfl) ?_
        refine k_get C0 hW 5 3 0 (v := .ref (a (o + 27))) rfl (by decide) inX5 mf_X5_31 rfl rfl dX5_mark_27 ?_
        refine k_get C0 hW 1 0 27 (v := .ref (a (o + 30))) rfl (by decide) inX1 mf_X5_45 rfl rfl dX5_mark_30 ?_
        refine k_get C0 hW 4 1 30 (v := .ref (a (o + 32))) rfl (by decide) inX4 mf_X5_142 rfl rfl dX5_mark_33 ?_
        refine lv_iload_n hx hb dX5_mark_36 rfl (lv_at hl 1 rfl) ?_
        have g37_4 := (gd_some hf).1; replace hf := (gd_some hf).2
        refine k_iald C0 hW 32 (ix x1) rfl (inb_in g37_4) rfl dX5_mark_37 ?_
        refine lv_iload_n hx hb dX5_mark_38 rfl (lv_at hl 2 rfl) ?_
        obtain ⟨q39, hq39⟩ := ob_s hf
        replace hf := hq39.2
        replace hq39 := hq39.1
        refine cS0 (rest := []) (st1 := [.int q39]) C0 hW hl.1 (c_X5_isOfKind l G ((wh_kind (ct_wheel (ww_cart w))) (ix x1)) x2 _ hq39) cb_X5_isOfKind mm_X5_145 [] rfl rfl (by decide) rfl rfl (Nat.le_of_ble_eq_true rfl) ⟨Nat.zero_le _, Nat.zero_le _⟩ dX5_mark_39 rfl (fun H locs hW => ?_)
        refine lv_if_ne (tgt := 51) hx hb dX5_mark_42 (by decide) (fun c42_5 => ?_) (fun c42_5 => ?_)
        · replace hf := if_f c42_5 hf
          refine lv_aload_n hx hb dX5_mark_51 rfl (lv_at hl 0 rfl) ?_
          refine k_get C0 hW 5 3 0 (v := .ref (a (o + 27))) rfl (by decide) inX5 mf_X5_31 rfl rfl dX5_mark_52 ?_
          refine k_get C0 hW 1 0 27 (v := .ref (a (o + 30))) rfl (by decide) inX1 mf_X5_45 rfl rfl dX5_mark_55 ?_
          refine lv_iload_n hx hb dX5_mark_58 rfl (lv_at hl 1 rfl) ?_
          refine lv_iload_n hx hb dX5_mark_59 rfl (lv_at hl 2 rfl) ?_
          obtain ⟨q60, hq60⟩ := ob_s hf
          replace hf := hq60.2
          replace hq60 := hq60.1
          refine bV1 (rest := []) (bs := bsWw G a o w) (bs1 := bsWw G a o w) (st1 := [.int q60]) C0 hW hl.1 (c_X4_differs l G a (o + 30) (ct_wheel (ww_cart w)) x1 x2 _ hq60) cb_X4_differs mm_X5_149 ([16]) ([0, 1, 2, 3, 4, 5, 6, 7, 8, 9, 10, 11, 12, 13, 14, 15, 17, 18, 19, 20, 21, 22, 23, 24]) (ap_16) (ac_16 (w := w)) (ac_16 (w := w)) rfl rfl rfl 0 4 rfl rfl rfl (by decide) rfl rfl (Nat.le_of_ble_eq_true rfl) ⟨Nat.zero_le _, Nat.zero_le _⟩ dX5_mark_60 rfl (fun H locs hW => ?_)
          have e1 := Option.some.inj hf
          subst e1
          have hF : ((q60, w) : Int32 × Ww) = out := hF
          subst hF
          exact k_iret C0 hW dX5_mark_63
        · replace hf := if_t c42_5 hf
          refine lv_aload_n hx hb dX5_mark_45 rfl (lv_at hl 0 rfl) ?_
          refine lv_iconst (v := 3) hx hb dX5_mark_46 (by decide) ?_
          obtain ⟨q47, hq47⟩ := ob_s hf
          replace hf := hq47.2
          replace hq47 := hq47.1
          refine cW1 (rest := []) (ws1 := (bWw G a o q47.2)) (st1 := [.int q47.1]) C0 hW hl.1 (c_X5_refuse l G a o w (3 : Int32) _ hq47) cb_X5_refuse mm_X5_96 fst_Ww 0 5 rfl rfl rfl (by decide) rfl rfl (Nat.le_of_ble_eq_true rfl) ⟨Nat.zero_le _, Nat.zero_le _⟩ dX5_mark_47 rfl (fun H locs hW => ?_)
          have e1 := Option.some.inj hf
          subst e1
          have hF : ((q47.1, q47.2) : Int32 × Ww) = out := hF
          subst hF
          exact k_iret C0 hW dX5_mark_50
      · replace hf := if_f c21_3 hf
        refine lv_iconst (v := -1) hx hb dX5_mark_24 (by decide) ?_
        have e1 := Option.some.inj hf
        subst e1
        have hF : (((-1 : Int32), w) : Int32 × Ww) = out := hF
        subst hF
        exact k_iret C0 hW dX5_mark_25

def f_X5_mean (w : Ww) (x1 : Int32) : Option (Int32 × Ww) :=
  Option.bind (f_X5_refuseMissing_rows w x1) (fun q6 => if q6.1 = 0 then (Option.bind (f_X3_sizeOf 6 40 (ww_rows q6.2) x1) (fun q21 => if 0 < q21 then (Option.bind (f_X3_sum 6 40 (ww_rows q6.2) x1) (fun q41 => gd (decide (¬ (q21.toInt64) = 0)) (Option.bind (f_X5_tell q6.2 ((q41 / (q21.toInt64)).toInt32)) (fun q48 => some (q48.1, q48.2))))) else (Option.bind (f_X5_refuse q6.2 (4 : Int32)) (fun q31 => some (q31.1, q31.2))))) else (some (q6.1, q6.2)))
set_option maxRecDepth 100000 in
set_option maxHeartbeats 8000000 in
theorem c_X5_mean (l : Launch) (G : GG) (a : Nat → Nat) (o : Nat) (w : Ww) (x1 : Int32) (out : Int32 × Ww) (hf : f_X5_mean w x1 = some out) : Cn l G 2 yX5_mean cX5_mean 4 (some .int) [.ref (a o), .int x1] (bWw G a o w) (some (.int out.1)) (bWw G a o out.2) := by
  refine cn_start (by decide) (Nat.le_of_ble_eq_true rfl) ?_
  intro p e s m below meth c A ls C0 hW hl
  have hx := C0.1
  have hb := C0.2.1
  have hl : lv_has ls 4 [(0, .ref (a o)), (1, .int x1)] := hl
  obtain ⟨r, hr⟩ : ∃ r, f_X5_mean w x1 = some r ∧ r = out := ⟨out, hf, rfl⟩
  replace hf := hr.1
  have hF := hr.2
  clear hr
  unfold f_X5_mean at hf
  refine lv_aload_n hx hb dX5_mean_0 rfl (lv_at hl 0 rfl) ?_
  refine lv_aload_n hx hb dX5_mean_1 rfl (lv_at hl 0 rfl) ?_
  refine k_get C0 hW 5 0 0 (v := .ref (a (o + 3))) rfl (by decide) inX5 mf_X5_14 rfl rfl dX5_mean_2 ?_
  refine lv_iload_n hx hb dX5_mean_5 rfl (lv_at hl 1 rfl) ?_
  obtain ⟨q6, hq6⟩ := ob_s hf
  replace hf := hq6.2
  replace hq6 := hq6.1
  refine cW1 (rest := []) (ws1 := (bWw G a o q6.2)) (st1 := [.int q6.1]) C0 hW hl.1 (c_X5_refuseMissing_rows l G a o w x1 _ hq6) cb_X5_refuseMissing mm_X5_84 fst_Ww 0 5 rfl rfl rfl (by decide) rfl rfl (Nat.le_of_ble_eq_true rfl) ⟨Nat.zero_le _, Nat.zero_le _⟩ dX5_mean_6 rfl (fun H locs hW => ?_)
  refine lv_istore_n (lv' := [(2, .int q6.1), (0, .ref (a o)), (1, .int x1)]) hx hb dX5_mean_9 rfl hl (by decide) rfl (fun ls hl => ?_)
  refine lv_iload_n hx hb dX5_mean_10 rfl (lv_at hl 0 rfl) ?_
  refine lv_if_eq (tgt := 16) hx hb dX5_mean_11 (by decide) (fun c11_1 => ?_) (fun c11_1 => ?_)
  · replace hf := if_t c11_1 hf
    refine lv_aload_n hx hb dX5_mean_16 rfl (lv_at hl 1 rfl) ?_
    refine k_get C0 hW 5 0 0 (v := .ref (a (o + 3))) rfl (by decide) inX5 mf_X5_14 rfl rfl dX5_mean_17 ?_
    refine lv_iload_n hx hb dX5_mean_20 rfl (lv_at hl 2 rfl) ?_
    obtain ⟨q21, hq21⟩ := ob_s hf
    replace hf := hq21.2
    replace hq21 := hq21.1
    refine bV1 (rest := []) (bs := bsWw G a o q6.2) (bs1 := bsWw G a o q6.2) (st1 := [.int q21]) C0 hW hl.1 (c_X3_sizeOf l G a (o + 3) 6 40 (ww_rows q6.2) x1 _ hq21) cb_X3_sizeOf mm_X5_110 ([1, 2, 3, 4, 5, 6, 7]) ([0, 8, 9, 10, 11, 12, 13, 14, 15, 16, 17, 18, 19, 20, 21, 22, 23, 24]) (ap_1_2_3_4_5_6_7) (ac_1_2_3_4_5_6_7 (w := q6.2)) (ac_1_2_3_4_5_6_7 (w := q6.2)) rfl rfl rfl 0 3 rfl rfl rfl (by decide) rfl rfl (Nat.le_of_ble_eq_true rfl) ⟨Nat.zero_le _, Nat.zero_le _⟩ dX5_mean_21 rfl (fun H locs hW => ?_)
    refine lv_istore_n (lv' := [(3, .int q21), (2, .int q6.1), (0, .ref (a o)), (1, .int x1)]) hx hb dX5_mean_24 rfl hl (by decide) rfl (fun ls hl => ?_)
    refine lv_iload_n hx hb dX5_mean_25 rfl (lv_at hl 0 rfl) ?_
    refine lv_if_gt (tgt := 35) hx hb dX5_mean_26 (by decide) (fun c26_2 => ?_) (fun c26_2 => ?_)
    · replace hf := if_t c26_2 hf
      refine lv_aload_n hx hb dX5_mean_35 rfl (lv_at hl 2 rfl) ?_
      refine lv_aload_n hx hb dX5_mean_36 rfl (lv_at hl 2 rfl) ?_
      refine k_get C0 hW 5 0 0 (v := .ref (a (o + 3))) rfl (by decide) inX5 mf_X5_14 rfl rfl dX5_mean_37 ?_
      refine lv_iload_n hx hb dX5_mean_40 rfl (lv_at hl 3 rfl) ?_
      obtain ⟨q41, hq41⟩ := ob_s hf
      replace hf := hq41.2
      replace hq41 := hq41.1
      refine bV1 (rest := [.ref (a o)]) (bs := bsWw G a o q6.2) (bs1 := bsWw G a o q6.2) (st1 := [.long q41, .ref (a o)]) C0 hW hl.1 (c_X3_sum l G a (o + 3) 6 40 (ww_rows q6.2) x1 _ hq41) cb_X3_sum mm_X5_113 ([1, 2, 3, 4, 5, 6, 7]) ([0, 8, 9, 10, 11, 12, 13, 14, 15, 16, 17, 18, 19, 20, 21, 22, 23, 24]) (ap_1_2_3_4_5_6_7) (ac_1_2_3_4_5_6_7 (w := q6.2)) (ac_1_2_3_4_5_6_7 (w := q6.2)) rfl rfl rfl 0 3 rfl rfl rfl (by decide) rfl rfl (Nat.le_of_ble_eq_true rfl) ⟨Nat.zero_le _, Nat.zero_le _⟩ dX5_mean_41 rfl (fun H locs hW => ?_)
      refine lv_iload_n hx hb dX5_mean_44 rfl (lv_at hl 0 rfl) ?_
      refine lv_i2l (v := q21.toInt64) hx hb dX5_mean_45 rfl ?_
      have g46_3 := (gd_some hf).1; replace hf := (gd_some hf).2
      refine lv_ldiv hx hb dX5_mean_46 (of_decide_eq_true g46_3) ?_
      refine lv_l2i (v := (q41 / (q21.toInt64)).toInt32) hx hb dX5_mean_47 rfl ?_
      obtain ⟨q48, hq48⟩ := ob_s hf
      replace hf := hq48.2
      replace hq48 := hq48.1
      refine cW1 (rest := []) (ws1 := (bWw G a o q48.2)) (st1 := [.int q48.1]) C0 hW hl.1 (c_X5_tell l G a o q6.2 ((q41 / (q21.toInt64)).toInt32) _ hq48) cb_X5_tell mm_X5_76 fst_Ww 0 5 rfl rfl rfl (by decide) rfl rfl (Nat.le_of_ble_eq_true rfl) ⟨Nat.zero_le _, Nat.zero_le _⟩ dX5_mean_48 rfl (fun H locs hW => ?_)
      have e1 := Option.some.inj hf
      subst e1
      have hF : ((q48.1, q48.2) : Int32 × Ww) = out := hF
      subst hF
      exact k_iret C0 hW dX5_mean_51
    · replace hf := if_f c26_2 hf
      refine lv_aload_n hx hb dX5_mean_29 rfl (lv_at hl 2 rfl) ?_
      refine lv_iconst (v := 4) hx hb dX5_mean_30 (by decide) ?_
      obtain ⟨q31, hq31⟩ := ob_s hf
      replace hf := hq31.2
      replace hq31 := hq31.1
      refine cW1 (rest := []) (ws1 := (bWw G a o q31.2)) (st1 := [.int q31.1]) C0 hW hl.1 (c_X5_refuse l G a o q6.2 (4 : Int32) _ hq31) cb_X5_refuse mm_X5_96 fst_Ww 0 5 rfl rfl rfl (by decide) rfl rfl (Nat.le_of_ble_eq_true rfl) ⟨Nat.zero_le _, Nat.zero_le _⟩ dX5_mean_31 rfl (fun H locs hW => ?_)
      have e1 := Option.some.inj hf
      subst e1
      have hF : ((q31.1, q31.2) : Int32 × Ww) = out := hF
      subst hF
      exact k_iret C0 hW dX5_mean_34
  · replace hf := if_f c11_1 hf
    refine lv_iload_n hx hb dX5_mean_14 rfl (lv_at hl 0 rfl) ?_
    have e1 := Option.some.inj hf
    subst e1
    have hF : ((q6.1, q6.2) : Int32 × Ww) = out := hF
    subst hF
    exact k_iret C0 hW dX5_mean_15

def f_X5_mend (w : Ww) (x1 : Int32) : Option (Int32 × Ww) :=
  Option.bind (f_X4_isSpoke (ct_wheel (ww_cart w)) x1) (fun q8 => if q8 = 0 then (some ((-1 : Int32), w)) else (Option.bind (f_X5_doDeed w (4 : Int32) x1) (fun q17 => some (q17.1, q17.2))))
set_option maxRecDepth 100000 in
set_option maxHeartbeats 8000000 in
theorem c_X5_mend (l : Launch) (G : GG) (a : Nat → Nat) (o : Nat) (w : Ww) (x1 : Int32) (out : Int32 × Ww) (hf : f_X5_mend w x1 = some out) : Cn l G 6 yX5_mend cX5_mend 2 (some .int) [.ref (a o), .int x1] (bWw G a o w) (some (.int out.1)) (bWw G a o out.2) := by
  refine cn_start (by decide) (Nat.le_of_ble_eq_true rfl) ?_
  intro p e s m below meth c A ls C0 hW hl
  have hx := C0.1
  have hb := C0.2.1
  have hl : lv_has ls 2 [(0, .ref (a o)), (1, .int x1)] := hl
  obtain ⟨r, hr⟩ : ∃ r, f_X5_mend w x1 = some r ∧ r = out := ⟨out, hf, rfl⟩
  replace hf := hr.1
  have hF := hr.2
  clear hr
  unfold f_X5_mend at hf
  refine lv_aload_n hx hb dX5_mend_0 rfl (lv_at hl 0 rfl) ?_
  refine k_get C0 hW 5 3 0 (v := .ref (a (o + 27))) rfl (by decide) inX5 mf_X5_31 rfl rfl dX5_mend_1 ?_
  refine k_get C0 hW 1 0 27 (v := .ref (a (o + 30))) rfl (by decide) inX1 mf_X5_45 rfl rfl dX5_mend_4 ?_
  refine lv_iload_n hx hb dX5_mend_7 rfl (lv_at hl 1 rfl) ?_
  obtain ⟨q8, hq8⟩ := ob_s hf
  replace hf := hq8.2
  replace hq8 := hq8.1
  refine bV1 (rest := []) (bs := bsWw G a o w) (bs1 := bsWw G a o w) (st1 := [.int q8]) C0 hW hl.1 (c_X4_isSpoke l G a (o + 30) (ct_wheel (ww_cart w)) x1 _ hq8) cb_X4_isSpoke mm_X5_136 ([16]) ([0, 1, 2, 3, 4, 5, 6, 7, 8, 9, 10, 11, 12, 13, 14, 15, 17, 18, 19, 20, 21, 22, 23, 24]) (ap_16) (ac_16 (w := w)) (ac_16 (w := w)) rfl rfl rfl 0 4 rfl rfl rfl (by decide) rfl rfl (Nat.le_of_ble_eq_true rfl) ⟨Nat.zero_le _, Nat.zero_le _⟩ dX5_mend_8 rfl (fun H locs hW => ?_)
  refine lv_if_eq (tgt := 23) hx hb dX5_mend_11 (by decide) (fun c11_1 => ?_) (fun c11_1 => ?_)
  · replace hf := if_t c11_1 hf
    refine lv_iconst (v := -1) hx hb dX5_mend_23 (by decide) ?_
    have e1 := Option.some.inj hf
    subst e1
    have hF : (((-1 : Int32), w) : Int32 × Ww) = out := hF
    subst hF
    exact k_iret C0 hW dX5_mend_24
  · replace hf := if_f c11_1 hf
    refine lv_aload_n hx hb dX5_mend_14 rfl (lv_at hl 0 rfl) ?_
    refine lv_iconst (v := 4) hx hb dX5_mend_15 (by decide) ?_
    refine lv_iload_n hx hb dX5_mend_16 rfl (lv_at hl 1 rfl) ?_
    obtain ⟨q17, hq17⟩ := ob_s hf
    replace hf := hq17.2
    replace hq17 := hq17.1
    refine cW1 (rest := []) (ws1 := (bWw G a o q17.2)) (st1 := [.int q17.1]) C0 hW hl.1 (c_X5_doDeed l G a o w (4 : Int32) x1 _ hq17) cb_X5_doDeed mm_X5_170 fst_Ww 0 5 rfl rfl rfl (by decide) rfl rfl (Nat.le_of_ble_eq_true rfl) ⟨Nat.zero_le _, Nat.zero_le _⟩ dX5_mend_17 rfl (fun H locs hW => ?_)
    refine lv_goto (tgt := 24) hx hb dX5_mend_20 (by decide) ?_
    have e1 := Option.some.inj hf
    subst e1
    have hF : ((q17.1, q17.2) : Int32 × Ww) = out := hF
    subst hF
    exact k_iret C0 hW dX5_mend_24

def f_X5_tellShare (w : Ww) (x1 : Int64) : Option (Int32 × Ww) :=
  Option.bind (f_J6_bitCount_0f7a4 (wh_there (ct_wheel (ww_cart w)))) (fun q13 => Option.bind (f_X5_power (12 : Int64) q13) (fun q16 => Option.bind (f_X5_commonDivisor x1 q16) (fun q22 => if (lg_cmp q22 (0 : Int64)) ≤ 0 then (some ((1 : Int32), w)) else (gd (decide (¬ q22 = 0)) (gd (decide (¬ q22 = 0)) (some ((1 : Int32), (ww_set_lowerLast (ww_set_upperLast w (x1 / q22)) (q16 / q22)))))))))
set_option maxRecDepth 100000 in
set_option maxHeartbeats 8000000 in
theorem c_X5_tellShare (l : Launch) (G : GG) (a : Nat → Nat) (o : Nat) (w : Ww) (x1 : Int64) (out : Int32 × Ww) (hf : f_X5_tellShare w x1 = some out) : Cn l G 1 yX5_tellShare cX5_tellShare 7 (some .int) [.ref (a o), .long x1] (bWw G a o w) (some (.int out.1)) (bWw G a o out.2) := by
  refine cn_start (by decide) (Nat.le_of_ble_eq_true rfl) ?_
  intro p e s m below meth c A ls C0 hW hl
  have hx := C0.1
  have hb := C0.2.1
  have hl : lv_has ls 7 [(0, .ref (a o)), (1, .long x1)] := hl
  obtain ⟨r, hr⟩ : ∃ r, f_X5_tellShare w x1 = some r ∧ r = out := ⟨out, hf, rfl⟩
  replace hf := hr.1
  have hF := hr.2
  clear hr
  unfold f_X5_tellShare at hf
  refine lv_ldc2 hx hb C0.2.2.2.2.2.1 (C0.2.2.2.2.2.2.1 _ mk_X5_290) dX5_tellShare_0 ?_
  refine lv_aload_n hx hb dX5_tellShare_3 rfl (lv_at hl 0 rfl) ?_
  refine k_get C0 hW 5 3 0 (v := .ref (a (o + 27))) rfl (by decide) inX5 mf_X5_31 rfl rfl dX5_tellShare_4 ?_
  refine k_get C0 hW 1 0 27 (v := .ref (a (o + 30))) rfl (by decide) inX1 mf_X5_45 rfl rfl dX5_tellShare_7 ?_
  refine k_get C0 hW 4 9 30 (v := .int (wh_there (ct_wheel (ww_cart w)))) rfl (by decide) inX4 mf_X5_228 rfl rfl dX5_tellShare_10 ?_
  obtain ⟨q13, hq13⟩ := ob_s hf
  replace hf := hq13.2
  replace hq13 := hq13.1
  refine cS0 (rest := [.long (12 : Int64)]) (st1 := [.int q13, .long (12 : Int64)]) C0 hW hl.1 (c_J6_bitCount_0f7a4 l G (wh_there (ct_wheel (ww_cart w))) _ hq13) cb_J6_bitCount_0f7a4 mm_X5_292 [] rfl rfl (by decide) rfl rfl (Nat.le_of_ble_eq_true rfl) ⟨Nat.zero_le _, Nat.zero_le _⟩ dX5_tellShare_13 rfl (fun H locs hW => ?_)
  obtain ⟨q16, hq16⟩ := ob_s hf
  replace hf := hq16.2
  replace hq16 := hq16.1
  refine cS0 (rest := []) (st1 := [.long q16]) C0 hW hl.1 (c_X5_power l G (12 : Int64) q13 _ hq16) cb_X5_power mm_X5_297 [] rfl rfl (by decide) rfl rfl (Nat.le_of_ble_eq_true rfl) ⟨Nat.zero_le _, Nat.zero_le _⟩ dX5_tellShare_16 rfl (fun H locs hW => ?_)
  refine lv_lstore_n (lv' := [(3, .long q16), (0, .ref (a o)), (1, .long x1)]) hx hb dX5_tellShare_19 rfl hl (by decide) rfl (fun ls hl => ?_)
  refine lv_lload_n hx hb dX5_tellShare_20 rfl (lv_at hl 2 rfl) ?_
  refine lv_lload_n hx hb dX5_tellShare_21 rfl (lv_at hl 0 rfl) ?_
  obtain ⟨q22, hq22⟩ := ob_s hf
  replace hf := hq22.2
  replace hq22 := hq22.1
  refine cS0 (rest := []) (st1 := [.long q22]) C0 hW hl.1 (c_X5_commonDivisor l G x1 q16 _ hq22) cb_X5_commonDivisor mm_X5_301 [] rfl rfl (by decide) rfl rfl (Nat.le_of_ble_eq_true rfl) ⟨Nat.zero_le _, Nat.zero_le _⟩ dX5_tellShare_22 rfl (fun H locs hW => ?_)
  refine lv_lstore (lv' := [(5, .long q22), (3, .long q16), (0, .ref (a o)), (1, .long x1)]) hx hb dX5_tellShare_25 hl (by decide) rfl (fun ls hl => ?_)
  refine lv_lload hx hb dX5_tellShare_27 (lv_at hl 0 rfl) ?_
  refine lv_lconst (v := 0) hx hb dX5_tellShare_29 (by decide) ?_
  refine W.lcmp hx hb dX5_tellShare_30 ?_
  refine lv_if_le (tgt := 50) hx hb dX5_tellShare_31 (by decide) (fun c31_1 => ?_) (fun c31_1 => ?_)
  · replace hf := if_t c31_1 hf
    refine lv_iconst (v := 1) hx hb dX5_tellShare_50 (by decide) ?_
    have e1 := Option.some.inj hf
    subst e1
    have hF : (((1 : Int32), w) : Int32 × Ww) = out := hF
    subst hF
    exact k_iret C0 hW dX5_tellShare_51
  · replace hf := if_f c31_1 hf
    refine lv_aload_n hx hb dX5_tellShare_34 rfl (lv_at hl 2 rfl) ?_
    refine lv_lload_n hx hb dX5_tellShare_35 rfl (lv_at hl 3 rfl) ?_
    refine lv_lload hx hb dX5_tellShare_36 (lv_at hl 0 rfl) ?_
    have g38_2 := (gd_some hf).1; replace hf := (gd_some hf).2
    refine lv_ldiv hx hb dX5_tellShare_38 (of_decide_eq_true g38_2) ?_
    refine k_put C0 hW 5 9 0 rfl (by decide) inX5 tyX5_ok nmX5 mf_X5_260 rfl rfl rfl rfl (Nat.le_of_ble_eq_true rfl) dX5_tellShare_39 (fun H locs hW => ?_)
    have hW : Wd G A s.heap H (bWw G a o (ww_set_upperLast w (x1 / q22))) locs := hW
    refine lv_aload_n hx hb dX5_tellShare_42 rfl (lv_at hl 2 rfl) ?_
    refine lv_lload_n hx hb dX5_tellShare_43 rfl (lv_at hl 1 rfl) ?_
    refine lv_lload hx hb dX5_tellShare_44 (lv_at hl 0 rfl) ?_
    have g46_3 := (gd_some hf).1; replace hf := (gd_some hf).2
    refine lv_ldiv hx hb dX5_tellShare_46 (of_decide_eq_true g46_3) ?_
    refine k_put C0 hW 5 10 0 rfl (by decide) inX5 tyX5_ok nmX5 mf_X5_60 rfl rfl rfl rfl (Nat.le_of_ble_eq_true rfl) dX5_tellShare_47 (fun H locs hW => ?_)
    have hW : Wd G A s.heap H (bWw G a o (ww_set_lowerLast (ww_set_upperLast w (x1 / q22)) (q16 / q22))) locs := hW
    refine lv_iconst (v := 1) hx hb dX5_tellShare_50 (by decide) ?_
    have e1 := Option.some.inj hf
    subst e1
    have hF : (((1 : Int32), (ww_set_lowerLast (ww_set_upperLast w (x1 / q22)) (q16 / q22))) : Int32 × Ww) = out := hF
    subst hF
    exact k_iret C0 hW dX5_tellShare_51

def f_X5_mid (w : Ww) (x1 : Int32) : Option (Int32 × Ww) :=
  if x1 < 0 then (some ((-1 : Int32), w)) else (if x1 ≤ (12 : Int32) then (Option.bind (f_X4_isEmpty (ct_wheel (ww_cart w))) (fun q19 => if q19 = 0 then (Option.bind (f_X0_limpsOverWays (ww_aside w) (ct_wheel (ww_cart w)) x1) (fun q34 => Option.bind (f_X5_tellShare (ww_set_aside w q34.2) q34.1) (fun q37 => some (q37.1, q37.2)))) else (some ((-4 : Int32), w)))) else (some ((-1 : Int32), w)))
set_option maxRecDepth 100000 in
set_option maxHeartbeats 8000000 in
theorem c_X5_mid (l : Launch) (G : GG) (a : Nat → Nat) (o : Nat) (w : Ww) (x1 : Int32) (out : Int32 × Ww) (hf : f_X5_mid w x1 = some out) : Cn l G 6 yX5_mid cX5_mid 2 (some .int) [.ref (a o), .int x1] (bWw G a o w) (some (.int out.1)) (bWw G a o out.2) := by
  refine cn_start (by decide) (Nat.le_of_ble_eq_true rfl) ?_
  intro p e s m below meth c A ls C0 hW hl
  have hx := C0.1
  have hb := C0.2.1
  have hl : lv_has ls 2 [(0, .ref (a o)), (1, .int x1)] := hl
  obtain ⟨r, hr⟩ : ∃ r, f_X5_mid w x1 = some r ∧ r = out := ⟨out, hf, rfl⟩
  replace hf := hr.1
  have hF := hr.2
  clear hr
  unfold f_X5_mid at hf
  refine lv_iload_n hx hb dX5_mid_0 rfl (lv_at hl 1 rfl) ?_
  refine lv_if_lt (tgt := 10) hx hb dX5_mid_1 (by decide) (fun c1_1 => ?_) (fun c1_1 => ?_)
  · replace hf := if_t c1_1 hf
    refine lv_iconst (v := -1) hx hb dX5_mid_10 (by decide) ?_
    have e1 := Option.some.inj hf
    subst e1
    have hF : (((-1 : Int32), w) : Int32 × Ww) = out := hF
    subst hF
    exact k_iret C0 hW dX5_mid_11
  · replace hf := if_f c1_1 hf
    refine lv_iload_n hx hb dX5_mid_4 rfl (lv_at hl 1 rfl) ?_
    refine lv_bipush (v := 12) hx hb dX5_mid_5 (by decide) ?_
    refine lv_icmp_le (tgt := 12) hx hb dX5_mid_7 (by decide) (fun c7_2 => ?_) (fun c7_2 => ?_)
    · replace hf := if_t c7_2 hf
      refine lv_aload_n hx hb dX5_mid_12 rfl (lv_at hl 0 rfl) ?_
      refine k_get C0 hW 5 3 0 (v := .ref (a (o + 27))) rfl (by decide) inX5 mf_X5_31 rfl rfl dX5_mid_13 ?_
      refine k_get C0 hW 1 0 27 (v := .ref (a (o + 30))) rfl (by decide) inX1 mf_X5_45 rfl rfl dX5_mid_16 ?_
      obtain ⟨q19, hq19⟩ := ob_s hf
      replace hf := hq19.2
      replace hq19 := hq19.1
      refine bV1 (rest := []) (bs := bsWw G a o w) (bs1 := bsWw G a o w) (st1 := [.int q19]) C0 hW hl.1 (c_X4_isEmpty l G a (o + 30) (ct_wheel (ww_cart w)) _ hq19) cb_X4_isEmpty mm_X5_163 ([16]) ([0, 1, 2, 3, 4, 5, 6, 7, 8, 9, 10, 11, 12, 13, 14, 15, 17, 18, 19, 20, 21, 22, 23, 24]) (ap_16) (ac_16 (w := w)) (ac_16 (w := w)) rfl rfl rfl 0 4 rfl rfl rfl (by decide) rfl rfl (Nat.le_of_ble_eq_true rfl) ⟨Nat.zero_le _, Nat.zero_le _⟩ dX5_mid_19 rfl (fun H locs hW => ?_)
      refine lv_if_eq (tgt := 28) hx hb dX5_mid_22 (by decide) (fun c22_3 => ?_) (fun c22_3 => ?_)
      · replace hf := if_t c22_3 hf
        refine lv_aload_n hx hb dX5_mid_28 rfl (lv_at hl 0 rfl) ?_
        refine lv_aload_n hx hb dX5_mid_29 rfl (lv_at hl 0 rfl) ?_
        refine k_get C0 hW 5 5 0 (v := .ref (a (o + 63))) rfl (by decide) inX5 mf_X5_52 rfl rfl dX5_mid_30 ?_
        refine lv_iload_n hx hb dX5_mid_33 rfl (lv_at hl 1 rfl) ?_
        obtain ⟨q34, hq34⟩ := ob_s hf
        replace hf := hq34.2
        replace hq34 := hq34.1
        refine bV1 (rest := [.ref (a o)]) (bs := bsWw G a o w) (bs1 := bsWw G a o (ww_set_aside w q34.2)) (st1 := [.long q34.1, .ref (a o)]) C0 hW hl.1 (c_X0_limpsOverWays l G a (o + 63) a (o + 30) (ww_aside w) (ct_wheel (ww_cart w)) x1 _ hq34) cb_X0_limpsOverWays mm_X5_243 ([23, 24, 16]) ([0, 1, 2, 3, 4, 5, 6, 7, 8, 9, 10, 11, 12, 13, 14, 15, 17, 18, 19, 20, 21, 22]) (ap_23_24_16) (ac_23_24_16 (w := w)) (ad_23_24_16_w (w := w)) (ar_23_24_16_w (w := w)) rfl (as_23_24_16_w (w := w)) 0 0 rfl rfl rfl (by decide) rfl rfl (Nat.le_of_ble_eq_true rfl) ⟨Nat.zero_le _, Nat.zero_le _⟩ dX5_mid_34 rfl (fun H locs hW => ?_)
        obtain ⟨q37, hq37⟩ := ob_s hf
        replace hf := hq37.2
        replace hq37 := hq37.1
        refine cW1 (rest := []) (ws1 := (bWw G a o q37.2)) (st1 := [.int q37.1]) C0 hW hl.1 (c_X5_tellShare l G a o (ww_set_aside w q34.2) q34.1 _ hq37) cb_X5_tellShare mm_X5_239 fst_Ww 0 5 rfl rfl rfl (by decide) rfl rfl (Nat.le_of_ble_eq_true rfl) ⟨Nat.zero_le _, Nat.zero_le _⟩ dX5_mid_37 rfl (fun H locs hW => ?_)
        have e1 := Option.some.inj hf
        subst e1
        have hF : ((q37.1, q37.2) : Int32 × Ww) = out := hF
        subst hF
        exact k_iret C0 hW dX5_mid_40
      · replace hf := if_f c22_3 hf
        refine lv_bipush (v := -4) hx hb dX5_mid_25 (by decide) ?_
        have e1 := Option.some.inj hf
        subst e1
        have hF : (((-4 : Int32), w) : Int32 × Ww) = out := hF
        subst hF
        exact k_iret C0 hW dX5_mid_27
    · replace hf := if_f c7_2 hf
      refine lv_iconst (v := -1) hx hb dX5_mid_10 (by decide) ?_
      have e1 := Option.some.inj hf
      subst e1
      have hF : (((-1 : Int32), w) : Int32 × Ww) = out := hF
      subst hF
      exact k_iret C0 hW dX5_mid_11

def f_X5_odds (w : Ww) (x1 : Int32) (x2 : Int32) : Option (Int32 × Ww) :=
  if x1 < 0 then (some ((-1 : Int32), w)) else (if (20 : Int32) < x1 then (some ((-1 : Int32), w)) else (if x2 < 0 then (some ((-1 : Int32), w)) else (if x2 ≤ (12 : Int32) then (Option.bind (f_X4_isEmpty (ct_wheel (ww_cart w))) (fun q29 => if q29 = 0 then (Option.bind (f_X0_waysUpTo (ww_aside w) (ct_wheel (ww_cart w)) x1 x2) (fun q45 => Option.bind (f_X5_tellShare (ww_set_aside w q45.2) q45.1) (fun q48 => some (q48.1, q48.2)))) else (some ((-4 : Int32), w)))) else (some ((-1 : Int32), w)))))
set_option maxRecDepth 100000 in
set_option maxHeartbeats 8000000 in
theorem c_X5_odds (l : Launch) (G : GG) (a : Nat → Nat) (o : Nat) (w : Ww) (x1 : Int32) (x2 : Int32) (out : Int32 × Ww) (hf : f_X5_odds w x1 x2 = some out) : Cn l G 6 yX5_odds cX5_odds 3 (some .int) [.ref (a o), .int x1, .int x2] (bWw G a o w) (some (.int out.1)) (bWw G a o out.2) := by
  refine cn_start (by decide) (Nat.le_of_ble_eq_true rfl) ?_
  intro p e s m below meth c A ls C0 hW hl
  have hx := C0.1
  have hb := C0.2.1
  have hl : lv_has ls 3 [(0, .ref (a o)), (1, .int x1), (2, .int x2)] := hl
  obtain ⟨r, hr⟩ : ∃ r, f_X5_odds w x1 x2 = some r ∧ r = out := ⟨out, hf, rfl⟩
  replace hf := hr.1
  have hF := hr.2
  clear hr
  unfold f_X5_odds at hf
  refine lv_iload_n hx hb dX5_odds_0 rfl (lv_at hl 1 rfl) ?_
  refine lv_if_lt (tgt := 20) hx hb dX5_odds_1 (by decide) (fun c1_1 => ?_) (fun c1_1 => ?_)
  · replace hf := if_t c1_1 hf
    refine lv_iconst (v := -1) hx hb dX5_odds_20 (by decide) ?_
    have e1 := Option.some.inj hf
    subst e1
    have hF : (((-1 : Int32), w) : Int32 × Ww) = out := hF
    subst hF
    exact k_iret C0 hW dX5_odds_21
  · replace hf := if_f c1_1 hf
    refine lv_iload_n hx hb dX5_odds_4 rfl (lv_at hl 1 rfl) ?_
    refine lv_bipush (v := 20) hx hb dX5_odds_5 (by decide) ?_
    refine lv_icmp_gt (tgt := 20) hx hb dX5_odds_7 (by decide) (fun c7_2 => ?_) (fun c7_2 => ?_)
    · replace hf := if_t c7_2 hf
      refine lv_iconst (v := -1) hx hb dX5_odds_20 (by decide) ?_
      have e1 := Option.some.inj hf
      subst e1
      have hF : (((-1 : Int32), w) : Int32 × Ww) = out := hF
      subst hF
      exact k_iret C0 hW dX5_odds_21
    · replace hf := if_f c7_2 hf
      refine lv_iload_n hx hb dX5_odds_10 rfl (lv_at hl 2 rfl) ?_
      refine lv_if_lt (tgt := 20) hx hb dX5_odds_11 (by decide) (fun c11_3 => ?_) (fun c11_3 => ?_)
      · replace hf := if_t c11_3 hf
        refine lv_iconst (v := -1) hx hb dX5_odds_20 (by decide) ?_
        have e1 := Option.some.inj hf
        subst e1
        have hF : (((-1 : Int32), w) : Int32 × Ww) = out := hF
        subst hF
        exact k_iret C0 hW dX5_odds_21
      · replace hf := if_f c11_3 hf
        refine lv_iload_n hx hb dX5_odds_14 rfl (lv_at hl 2 rfl) ?_
        refine lv_bipush (v := 12) hx hb dX5_odds_15 (by decide) ?_
        refine lv_icmp_le (tgt := 22) hx hb dX5_odds_17 (by decide) (fun c17_4 => ?_) (fun c17_4 => ?_)
        · replace hf := if_t c17_4 hf
          refine lv_aload_n hx hb dX5_odds_22 rfl (lv_at hl 0 rfl) ?_
          refine k_get C0 hW 5 3 0 (v := .ref (a (o + 27))) rfl (by decide) inX5 mf_X5_31 rfl rfl dX5_odds_23 ?_
          refine k_get C0 hW 1 0 27 (v := .ref (a (o + 30))) rfl (by decide) inX1 mf_X5_45 rfl rfl dX5_odds_26 ?_
          obtain ⟨q29, hq29⟩ := ob_s hf
          replace hf := hq29.2
          replace hq29 := hq29.1
          refine bV1 (rest := []) (bs := bsWw G a o w) (bs1 := bsWw G a o w) (st1 := [.int q29]) C0 hW hl.1 (c_X4_isEmpty l G a (o + 30) (ct_wheel (ww_cart w)) _ hq29) cb_X4_isEmpty mm_X5_163 ([16]) ([0, 1, 2, 3, 4, 5, 6, 7, 8, 9, 10, 11, 12, 13, 14, 15, 17, 18, 19, 20, 21, 22, 23, 24]) (ap_16) (ac_16 (w := w)) (ac_16 (w := w)) rfl rfl rfl 0 4 rfl rfl rfl (by decide) rfl rfl (Nat.le_of_ble_eq_true rfl) ⟨Nat.zero_le _, Nat.zero_le _⟩ dX5_odds_29 rfl (fun H locs hW => ?_)
          refine lv_if_eq (tgt := 38) hx hb dX5_odds_32 (by decide) (fun c32_5 => ?_) (fun c32_5 => ?_)
          · replace hf := if_t c32_5 hf
            refine lv_aload_n hx hb dX5_odds_38 rfl (lv_at hl 0 rfl) ?_
            refine lv_aload_n hx hb dX5_odds_39 rfl (lv_at hl 0 rfl) ?_
            refine k_get C0 hW 5 5 0 (v := .ref (a (o + 63))) rfl (by decide) inX5 mf_X5_52 rfl rfl dX5_odds_40 ?_
            refine lv_iload_n hx hb dX5_odds_43 rfl (lv_at hl 1 rfl) ?_
            refine lv_iload_n hx hb dX5_odds_44 rfl (lv_at hl 2 rfl) ?_
            obtain ⟨q45, hq45⟩ := ob_s hf
            replace hf := hq45.2
            replace hq45 := hq45.1
            refine bV1 (rest := [.ref (a o)]) (bs := bsWw G a o w) (bs1 := bsWw G a o (ww_set_aside w q45.2)) (st1 := [.long q45.1, .ref (a o)]) C0 hW hl.1 (c_X0_waysUpTo l G a (o + 63) a (o + 30) (ww_aside w) (ct_wheel (ww_cart w)) x1 x2 _ hq45) cb_X0_waysUpTo mm_X5_235 ([23, 24, 16]) ([0, 1, 2, 3, 4, 5, 6, 7, 8, 9, 10, 11, 12, 13, 14, 15, 17, 18, 19, 20, 21, 22]) (ap_23_24_16) (ac_23_24_16 (w := w)) (ad_23_24_16_w (w := w)) (ar_23_24_16_w (w := w)) rfl (as_23_24_16_w (w := w)) 0 0 rfl rfl rfl (by decide) rfl rfl (Nat.le_of_ble_eq_true rfl) ⟨Nat.zero_le _, Nat.zero_le _⟩ dX5_odds_45 rfl (fun H locs hW => ?_)
            obtain ⟨q48, hq48⟩ := ob_s hf
            replace hf := hq48.2
            replace hq48 := hq48.1
            refine cW1 (rest := []) (ws1 := (bWw G a o q48.2)) (st1 := [.int q48.1]) C0 hW hl.1 (c_X5_tellShare l G a o (ww_set_aside w q45.2) q45.1 _ hq48) cb_X5_tellShare mm_X5_239 fst_Ww 0 5 rfl rfl rfl (by decide) rfl rfl (Nat.le_of_ble_eq_true rfl) ⟨Nat.zero_le _, Nat.zero_le _⟩ dX5_odds_48 rfl (fun H locs hW => ?_)
            have e1 := Option.some.inj hf
            subst e1
            have hF : ((q48.1, q48.2) : Int32 × Ww) = out := hF
            subst hF
            exact k_iret C0 hW dX5_odds_51
          · replace hf := if_f c32_5 hf
            refine lv_bipush (v := -4) hx hb dX5_odds_35 (by decide) ?_
            have e1 := Option.some.inj hf
            subst e1
            have hF : (((-4 : Int32), w) : Int32 × Ww) = out := hF
            subst hF
            exact k_iret C0 hW dX5_odds_37
        · replace hf := if_f c17_4 hf
          refine lv_iconst (v := -1) hx hb dX5_odds_20 (by decide) ?_
          have e1 := Option.some.inj hf
          subst e1
          have hF : (((-1 : Int32), w) : Int32 × Ww) = out := hF
          subst hF
          exact k_iret C0 hW dX5_odds_21

def f_X5_on (w : Ww) (x1 : Int32) : Option (Int32 × Ww) :=
  if x1 < 0 then (some ((-1 : Int32), w)) else (if x1 < (3 : Int32) then (if x1 = 0 then (if (ct_done (ww_kept w 0)) = (-1 : Int32) then (Option.bind (f_X5_refuse w (1 : Int32)) (fun q26 => some (q26.1, q26.2))) else (Option.bind (f_X1_take (ww_cart w) (ww_kept w 0)) (fun q40 => some ((ct_done q40), (ww_set_cart w q40))))) else if x1 = 1 then (if (ct_done (ww_kept w 1)) = (-1 : Int32) then (Option.bind (f_X5_refuse w (1 : Int32)) (fun q26 => some (q26.1, q26.2))) else (Option.bind (f_X1_take (ww_cart w) (ww_kept w 1)) (fun q40 => some ((ct_done q40), (ww_set_cart w q40))))) else if x1 = 2 then (if (ct_done (ww_kept w 2)) = (-1 : Int32) then (Option.bind (f_X5_refuse w (1 : Int32)) (fun q26 => some (q26.1, q26.2))) else (Option.bind (f_X1_take (ww_cart w) (ww_kept w 2)) (fun q40 => some ((ct_done q40), (ww_set_cart w q40))))) else none) else (some ((-1 : Int32), w)))
set_option maxRecDepth 100000 in
set_option maxHeartbeats 8000000 in
theorem c_X5_on (l : Launch) (G : GG) (a : Nat → Nat) (o : Nat) (w : Ww) (x1 : Int32) (out : Int32 × Ww) (hf : f_X5_on w x1 = some out) : Cn l G 3 yX5_on cX5_on 2 (some .int) [.ref (a o), .int x1] (bWw G a o w) (some (.int out.1)) (bWw G a o out.2) := by
  refine cn_start (by decide) (Nat.le_of_ble_eq_true rfl) ?_
  intro p e s m below meth c A ls C0 hW hl
  have hx := C0.1
  have hb := C0.2.1
  have hl : lv_has ls 2 [(0, .ref (a o)), (1, .int x1)] := hl
  obtain ⟨r, hr⟩ : ∃ r, f_X5_on w x1 = some r ∧ r = out := ⟨out, hf, rfl⟩
  replace hf := hr.1
  have hF := hr.2
  clear hr
  unfold f_X5_on at hf
  refine lv_iload_n hx hb dX5_on_0 rfl (lv_at hl 1 rfl) ?_
  refine lv_if_lt (tgt := 9) hx hb dX5_on_1 (by decide) (fun c1_1 => ?_) (fun c1_1 => ?_)
  · replace hf := if_t c1_1 hf
    refine lv_iconst (v := -1) hx hb dX5_on_9 (by decide) ?_
    have e1 := Option.some.inj hf
    subst e1
    have hF : (((-1 : Int32), w) : Int32 × Ww) = out := hF
    subst hF
    exact k_iret C0 hW dX5_on_10
  · replace hf := if_f c1_1 hf
    refine lv_iload_n hx hb dX5_on_4 rfl (lv_at hl 1 rfl) ?_
    refine lv_iconst (v := 3) hx hb dX5_on_5 (by decide) ?_
    refine lv_icmp_lt (tgt := 11) hx hb dX5_on_6 (by decide) (fun c6_2 => ?_) (fun c6_2 => ?_)
    · replace hf := if_t c6_2 hf
      refine lv_aload_n hx hb dX5_on_11 rfl (lv_at hl 0 rfl) ?_
      refine k_get C0 hW 5 4 0 (v := .ref (a (o + 2))) rfl (by decide) inX5 mf_X5_35 rfl rfl dX5_on_12 ?_
      refine lv_iload_n hx hb dX5_on_15 rfl (lv_at hl 1 rfl) ?_
      by_cases hk9 : x1 = 0
      · replace hf := if_t hk9 hf
        refine k_aaldC C0 hW 2 (b := a (o + 36)) rfl (by rw [hk9]; exact inb_in rfl) (by rw [hk9]; rfl) dX5_on_16 ?_
        refine k_get C0 hW 1 3 36 (v := .int (ct_done (ww_kept w 0))) rfl (by decide) inX1 mf_X5_39 rfl rfl dX5_on_17 ?_
        refine lv_iconst (v := -1) hx hb dX5_on_20 (by decide) ?_
        refine lv_icmp_ne (tgt := 30) hx hb dX5_on_21 (by decide) (fun c21_3 => ?_) (fun c21_3 => ?_)
        · replace hf := if_f c21_3 hf
          refine lv_aload_n hx hb dX5_on_30 rfl (lv_at hl 0 rfl) ?_
          refine k_get C0 hW 5 3 0 (v := .ref (a (o + 27))) rfl (by decide) inX5 mf_X5_31 rfl rfl dX5_on_31 ?_
          refine lv_aload_n hx hb dX5_on_34 rfl (lv_at hl 0 rfl) ?_
          refine k_get C0 hW 5 4 0 (v := .ref (a (o + 2))) rfl (by decide) inX5 mf_X5_35 rfl rfl dX5_on_35 ?_
          refine lv_iload_n hx hb dX5_on_38 rfl (lv_at hl 1 rfl) ?_
          refine k_aaldC C0 hW 2 (b := a (o + 36)) rfl (by rw [hk9]; exact inb_in rfl) (by rw [hk9]; rfl) dX5_on_39 ?_
          obtain ⟨q40, hq40⟩ := ob_s hf
          replace hf := hq40.2
          replace hq40 := hq40.1
          refine bV1 (rest := []) (bs := bsWw G a o w) (bs1 := bsWw G a o (ww_set_cart w q40)) (st1 := []) C0 hW hl.1 (c_X1_take l G a (o + 27) a (o + 36) (ww_cart w) (ww_kept w 0) _ hq40) cb_X1_take mm_X5_179 ([15, 16, 17, 18]) ([0, 1, 2, 3, 4, 5, 6, 7, 8, 9, 10, 11, 12, 13, 14, 19, 20, 21, 22, 23, 24]) (ap_15_16_17_18) (ac_15_16_17_18 (w := w)) (ad_15_16_17_18_w (w := w)) (ar_15_16_17_18_w (w := w)) rfl (as_15_16_17_18_w (w := w)) 0 1 rfl rfl rfl (by decide) rfl rfl (Nat.le_of_ble_eq_true rfl) ⟨Nat.zero_le _, Nat.zero_le _⟩ dX5_on_40 rfl (fun H locs hW => ?_)
          refine lv_aload_n hx hb dX5_on_43 rfl (lv_at hl 0 rfl) ?_
          refine k_get C0 hW 5 3 0 (v := .ref (a (o + 27))) rfl (by decide) inX5 mf_X5_31 rfl rfl dX5_on_44 ?_
          refine k_get C0 hW 1 3 27 (v := .int (ct_done q40)) rfl (by decide) inX1 mf_X5_39 rfl rfl dX5_on_47 ?_
          have e1 := Option.some.inj hf
          subst e1
          have hF : (((ct_done q40), (ww_set_cart w q40)) : Int32 × Ww) = out := hF
          subst hF
          exact k_iret C0 hW dX5_on_50
        · replace hf := if_t c21_3 hf
          refine lv_aload_n hx hb dX5_on_24 rfl (lv_at hl 0 rfl) ?_
          refine lv_iconst (v := 1) hx hb dX5_on_25 (by decide) ?_
          obtain ⟨q26, hq26⟩ := ob_s hf
          replace hf := hq26.2
          replace hq26 := hq26.1
          refine cW1 (rest := []) (ws1 := (bWw G a o q26.2)) (st1 := [.int q26.1]) C0 hW hl.1 (c_X5_refuse l G a o w (1 : Int32) _ hq26) cb_X5_refuse mm_X5_96 fst_Ww 0 5 rfl rfl rfl (by decide) rfl rfl (Nat.le_of_ble_eq_true rfl) ⟨Nat.zero_le _, Nat.zero_le _⟩ dX5_on_26 rfl (fun H locs hW => ?_)
          have e1 := Option.some.inj hf
          subst e1
          have hF : ((q26.1, q26.2) : Int32 × Ww) = out := hF
          subst hF
          exact k_iret C0 hW dX5_on_29
      replace hf := if_f hk9 hf
      by_cases hk9 : x1 = 1
      · replace hf := if_t hk9 hf
        refine k_aaldC C0 hW 2 (b := a (o + 45)) rfl (by rw [hk9]; exact inb_in rfl) (by rw [hk9]; rfl) dX5_on_16 ?_
        refine k_get C0 hW 1 3 45 (v := .int (ct_done (ww_kept w 1))) rfl (by decide) inX1 mf_X5_39 rfl rfl dX5_on_17 ?_
        refine lv_iconst (v := -1) hx hb dX5_on_20 (by decide) ?_
        refine lv_icmp_ne (tgt := 30) hx hb dX5_on_21 (by decide) (fun c21_4 => ?_) (fun c21_4 => ?_)
        · replace hf := if_f c21_4 hf
          refine lv_aload_n hx hb dX5_on_30 rfl (lv_at hl 0 rfl) ?_
          refine k_get C0 hW 5 3 0 (v := .ref (a (o + 27))) rfl (by decide) inX5 mf_X5_31 rfl rfl dX5_on_31 ?_
          refine lv_aload_n hx hb dX5_on_34 rfl (lv_at hl 0 rfl) ?_
          refine k_get C0 hW 5 4 0 (v := .ref (a (o + 2))) rfl (by decide) inX5 mf_X5_35 rfl rfl dX5_on_35 ?_
          refine lv_iload_n hx hb dX5_on_38 rfl (lv_at hl 1 rfl) ?_
          refine k_aaldC C0 hW 2 (b := a (o + 45)) rfl (by rw [hk9]; exact inb_in rfl) (by rw [hk9]; rfl) dX5_on_39 ?_
          obtain ⟨q40, hq40⟩ := ob_s hf
          replace hf := hq40.2
          replace hq40 := hq40.1
          refine bV1 (rest := []) (bs := bsWw G a o w) (bs1 := bsWw G a o (ww_set_cart w q40)) (st1 := []) C0 hW hl.1 (c_X1_take l G a (o + 27) a (o + 45) (ww_cart w) (ww_kept w 1) _ hq40) cb_X1_take mm_X5_179 ([15, 16, 19, 20]) ([0, 1, 2, 3, 4, 5, 6, 7, 8, 9, 10, 11, 12, 13, 14, 17, 18, 21, 22, 23, 24]) (ap_15_16_19_20) (ac_15_16_19_20 (w := w)) (ad_15_16_19_20_w (w := w)) (ar_15_16_19_20_w (w := w)) rfl (as_15_16_19_20_w (w := w)) 0 1 rfl rfl rfl (by decide) rfl rfl (Nat.le_of_ble_eq_true rfl) ⟨Nat.zero_le _, Nat.zero_le _⟩ dX5_on_40 rfl (fun H locs hW => ?_)
          refine lv_aload_n hx hb dX5_on_43 rfl (lv_at hl 0 rfl) ?_
          refine k_get C0 hW 5 3 0 (v := .ref (a (o + 27))) rfl (by decide) inX5 mf_X5_31 rfl rfl dX5_on_44 ?_
          refine k_get C0 hW 1 3 27 (v := .int (ct_done q40)) rfl (by decide) inX1 mf_X5_39 rfl rfl dX5_on_47 ?_
          have e1 := Option.some.inj hf
          subst e1
          have hF : (((ct_done q40), (ww_set_cart w q40)) : Int32 × Ww) = out := hF
          subst hF
          exact k_iret C0 hW dX5_on_50
        · replace hf := if_t c21_4 hf
          refine lv_aload_n hx hb dX5_on_24 rfl (lv_at hl 0 rfl) ?_
          refine lv_iconst (v := 1) hx hb dX5_on_25 (by decide) ?_
          obtain ⟨q26, hq26⟩ := ob_s hf
          replace hf := hq26.2
          replace hq26 := hq26.1
          refine cW1 (rest := []) (ws1 := (bWw G a o q26.2)) (st1 := [.int q26.1]) C0 hW hl.1 (c_X5_refuse l G a o w (1 : Int32) _ hq26) cb_X5_refuse mm_X5_96 fst_Ww 0 5 rfl rfl rfl (by decide) rfl rfl (Nat.le_of_ble_eq_true rfl) ⟨Nat.zero_le _, Nat.zero_le _⟩ dX5_on_26 rfl (fun H locs hW => ?_)
          have e1 := Option.some.inj hf
          subst e1
          have hF : ((q26.1, q26.2) : Int32 × Ww) = out := hF
          subst hF
          exact k_iret C0 hW dX5_on_29
      replace hf := if_f hk9 hf
      by_cases hk9 : x1 = 2
      · replace hf := if_t hk9 hf
        refine k_aaldC C0 hW 2 (b := a (o + 54)) rfl (by rw [hk9]; exact inb_in rfl) (by rw [hk9]; rfl) dX5_on_16 ?_
        refine k_get C0 hW 1 3 54 (v := .int (ct_done (ww_kept w 2))) rfl (by decide) inX1 mf_X5_39 rfl rfl dX5_on_17 ?_
        refine lv_iconst (v := -1) hx hb dX5_on_20 (by decide) ?_
        refine lv_icmp_ne (tgt := 30) hx hb dX5_on_21 (by decide) (fun c21_5 => ?_) (fun c21_5 => ?_)
        · replace hf := if_f c21_5 hf
          refine lv_aload_n hx hb dX5_on_30 rfl (lv_at hl 0 rfl) ?_
          refine k_get C0 hW 5 3 0 (v := .ref (a (o + 27))) rfl (by decide) inX5 mf_X5_31 rfl rfl dX5_on_31 ?_
          refine lv_aload_n hx hb dX5_on_34 rfl (lv_at hl 0 rfl) ?_
          refine k_get C0 hW 5 4 0 (v := .ref (a (o + 2))) rfl (by decide) inX5 mf_X5_35 rfl rfl dX5_on_35 ?_
          refine lv_iload_n hx hb dX5_on_38 rfl (lv_at hl 1 rfl) ?_
          refine k_aaldC C0 hW 2 (b := a (o + 54)) rfl (by rw [hk9]; exact inb_in rfl) (by rw [hk9]; rfl) dX5_on_39 ?_
          obtain ⟨q40, hq40⟩ := ob_s hf
          replace hf := hq40.2
          replace hq40 := hq40.1
          refine bV1 (rest := []) (bs := bsWw G a o w) (bs1 := bsWw G a o (ww_set_cart w q40)) (st1 := []) C0 hW hl.1 (c_X1_take l G a (o + 27) a (o + 54) (ww_cart w) (ww_kept w 2) _ hq40) cb_X1_take mm_X5_179 ([15, 16, 21, 22]) ([0, 1, 2, 3, 4, 5, 6, 7, 8, 9, 10, 11, 12, 13, 14, 17, 18, 19, 20, 23, 24]) (ap_15_16_21_22) (ac_15_16_21_22 (w := w)) (ad_15_16_21_22_w (w := w)) (ar_15_16_21_22_w (w := w)) rfl (as_15_16_21_22_w (w := w)) 0 1 rfl rfl rfl (by decide) rfl rfl (Nat.le_of_ble_eq_true rfl) ⟨Nat.zero_le _, Nat.zero_le _⟩ dX5_on_40 rfl (fun H locs hW => ?_)
          refine lv_aload_n hx hb dX5_on_43 rfl (lv_at hl 0 rfl) ?_
          refine k_get C0 hW 5 3 0 (v := .ref (a (o + 27))) rfl (by decide) inX5 mf_X5_31 rfl rfl dX5_on_44 ?_
          refine k_get C0 hW 1 3 27 (v := .int (ct_done q40)) rfl (by decide) inX1 mf_X5_39 rfl rfl dX5_on_47 ?_
          have e1 := Option.some.inj hf
          subst e1
          have hF : (((ct_done q40), (ww_set_cart w q40)) : Int32 × Ww) = out := hF
          subst hF
          exact k_iret C0 hW dX5_on_50
        · replace hf := if_t c21_5 hf
          refine lv_aload_n hx hb dX5_on_24 rfl (lv_at hl 0 rfl) ?_
          refine lv_iconst (v := 1) hx hb dX5_on_25 (by decide) ?_
          obtain ⟨q26, hq26⟩ := ob_s hf
          replace hf := hq26.2
          replace hq26 := hq26.1
          refine cW1 (rest := []) (ws1 := (bWw G a o q26.2)) (st1 := [.int q26.1]) C0 hW hl.1 (c_X5_refuse l G a o w (1 : Int32) _ hq26) cb_X5_refuse mm_X5_96 fst_Ww 0 5 rfl rfl rfl (by decide) rfl rfl (Nat.le_of_ble_eq_true rfl) ⟨Nat.zero_le _, Nat.zero_le _⟩ dX5_on_26 rfl (fun H locs hW => ?_)
          have e1 := Option.some.inj hf
          subst e1
          have hF : ((q26.1, q26.2) : Int32 × Ww) = out := hF
          subst hF
          exact k_iret C0 hW dX5_on_29
      replace hf := if_f hk9 hf
      cases hf
    · replace hf := if_f c6_2 hf
      refine lv_iconst (v := -1) hx hb dX5_on_9 (by decide) ?_
      have e1 := Option.some.inj hf
      subst e1
      have hF : (((-1 : Int32), w) : Int32 × Ww) = out := hF
      subst hF
      exact k_iret C0 hW dX5_on_10

def f_X5_over (w : Ww) : Option (Int32 × Ww) :=
  Option.bind (f_X4_isEmpty (ct_wheel (ww_cart w))) (fun q7 => if q7 = 0 then (Option.bind (f_X0_rutOver (ww_aside w) (ct_wheel (ww_cart w))) (fun q23 => Option.bind (f_X5_tellBeside (ww_set_aside w q23.2) q23.1) (fun q26 => some (q26.1, q26.2)))) else (some ((-4 : Int32), w)))
set_option maxRecDepth 100000 in
set_option maxHeartbeats 8000000 in
theorem c_X5_over (l : Launch) (G : GG) (a : Nat → Nat) (o : Nat) (w : Ww) (out : Int32 × Ww) (hf : f_X5_over w = some out) : Cn l G 5 yX5_over cX5_over 1 (some .int) [.ref (a o)] (bWw G a o w) (some (.int out.1)) (bWw G a o out.2) := by
  refine cn_start (by decide) (Nat.le_of_ble_eq_true rfl) ?_
  intro p e s m below meth c A ls C0 hW hl
  have hx := C0.1
  have hb := C0.2.1
  have hl : lv_has ls 1 [(0, .ref (a o))] := hl
  obtain ⟨r, hr⟩ : ∃ r, f_X5_over w = some r ∧ r = out := ⟨out, hf, rfl⟩
  replace hf := hr.1
  have hF := hr.2
  clear hr
  unfold f_X5_over at hf
  refine lv_aload_n hx hb dX5_over_0 rfl (lv_at hl 0 rfl) ?_
  refine k_get C0 hW 5 3 0 (v := .ref (a (o + 27))) rfl (by decide) inX5 mf_X5_31 rfl rfl dX5_over_1 ?_
  refine k_get C0 hW 1 0 27 (v := .ref (a (o + 30))) rfl (by decide) inX1 mf_X5_45 rfl rfl dX5_over_4 ?_
  obtain ⟨q7, hq7⟩ := ob_s hf
  replace hf := hq7.2
  replace hq7 := hq7.1
  refine bV1 (rest := []) (bs := bsWw G a o w) (bs1 := bsWw G a o w) (st1 := [.int q7]) C0 hW hl.1 (c_X4_isEmpty l G a (o + 30) (ct_wheel (ww_cart w)) _ hq7) cb_X4_isEmpty mm_X5_163 ([16]) ([0, 1, 2, 3, 4, 5, 6, 7, 8, 9, 10, 11, 12, 13, 14, 15, 17, 18, 19, 20, 21, 22, 23, 24]) (ap_16) (ac_16 (w := w)) (ac_16 (w := w)) rfl rfl rfl 0 4 rfl rfl rfl (by decide) rfl rfl (Nat.le_of_ble_eq_true rfl) ⟨Nat.zero_le _, Nat.zero_le _⟩ dX5_over_7 rfl (fun H locs hW => ?_)
  refine lv_if_eq (tgt := 18) hx hb dX5_over_10 (by decide) (fun c10_1 => ?_) (fun c10_1 => ?_)
  · replace hf := if_t c10_1 hf
    refine lv_aload_n hx hb dX5_over_18 rfl (lv_at hl 0 rfl) ?_
    refine lv_aload_n hx hb dX5_over_19 rfl (lv_at hl 0 rfl) ?_
    refine k_get C0 hW 5 5 0 (v := .ref (a (o + 63))) rfl (by decide) inX5 mf_X5_52 rfl rfl dX5_over_20 ?_
    obtain ⟨q23, hq23⟩ := ob_s hf
    replace hf := hq23.2
    replace hq23 := hq23.1
    refine bV1 (rest := [.ref (a o)]) (bs := bsWw G a o w) (bs1 := bsWw G a o (ww_set_aside w q23.2)) (st1 := [.int q23.1, .ref (a o)]) C0 hW hl.1 (c_X0_rutOver l G a (o + 63) a (o + 30) (ww_aside w) (ct_wheel (ww_cart w)) _ hq23) cb_X0_rutOver mm_X5_189 ([23, 24, 16]) ([0, 1, 2, 3, 4, 5, 6, 7, 8, 9, 10, 11, 12, 13, 14, 15, 17, 18, 19, 20, 21, 22]) (ap_23_24_16) (ac_23_24_16 (w := w)) (ad_23_24_16_w (w := w)) (ar_23_24_16_w (w := w)) rfl (as_23_24_16_w (w := w)) 0 0 rfl rfl rfl (by decide) rfl rfl (Nat.le_of_ble_eq_true rfl) ⟨Nat.zero_le _, Nat.zero_le _⟩ dX5_over_23 rfl (fun H locs hW => ?_)
    obtain ⟨q26, hq26⟩ := ob_s hf
    replace hf := hq26.2
    replace hq26 := hq26.1
    refine cW1 (rest := []) (ws1 := (bWw G a o q26.2)) (st1 := [.int q26.1]) C0 hW hl.1 (c_X5_tellBeside l G a o (ww_set_aside w q23.2) q23.1 _ hq26) cb_X5_tellBeside mm_X5_186 fst_Ww 0 5 rfl rfl rfl (by decide) rfl rfl (Nat.le_of_ble_eq_true rfl) ⟨Nat.zero_le _, Nat.zero_le _⟩ dX5_over_26 rfl (fun H locs hW => ?_)
    have e1 := Option.some.inj hf
    subst e1
    have hF : ((q26.1, q26.2) : Int32 × Ww) = out := hF
    subst hF
    exact k_iret C0 hW dX5_over_29
  · replace hf := if_f c10_1 hf
    refine lv_bipush (v := -4) hx hb dX5_over_13 (by decide) ?_
    refine lv_goto (tgt := 29) hx hb dX5_over_15 (by decide) ?_
    have e1 := Option.some.inj hf
    subst e1
    have hF : (((-4 : Int32), w) : Int32 × Ww) = out := hF
    subst hF
    exact k_iret C0 hW dX5_over_29

def f_X5_refusePlace_texts (w : Ww) (x2 : Int32) (x3 : Int32) : Option (Int32 × Ww) :=
  Option.bind (f_X5_refuseMissing_texts w x2) (fun q3 => if q3.1 = 0 then (Option.bind (f_X3_isPlace 4 60 (ww_texts q3.2) x2 x3) (fun q19 => if q19 = 0 then (Option.bind (f_X5_refuse q3.2 (2 : Int32)) (fun q31 => some (q31.1, q31.2))) else (some ((0 : Int32), q3.2)))) else (some (q3.1, q3.2)))
set_option maxRecDepth 100000 in
set_option maxHeartbeats 8000000 in
theorem c_X5_refusePlace_texts (l : Launch) (G : GG) (a : Nat → Nat) (o : Nat) (w : Ww) (x2 : Int32) (x3 : Int32) (out : Int32 × Ww) (hf : f_X5_refusePlace_texts w x2 x3 = some out) : Cn l G 2 yX5_refusePlace cX5_refusePlace 5 (some .int) [.ref (a o), .ref (a (o + 12)), .int x2, .int x3] (bWw G a o w) (some (.int out.1)) (bWw G a o out.2) := by
  refine cn_start (by decide) (Nat.le_of_ble_eq_true rfl) ?_
  intro p e s m below meth c A ls C0 hW hl
  have hx := C0.1
  have hb := C0.2.1
  have hl : lv_has ls 5 [(0, .ref (a o)), (1, .ref (a (o + 12))), (2, .int x2), (3, .int x3)] := hl
  obtain ⟨r, hr⟩ : ∃ r, f_X5_refusePlace_texts w x2 x3 = some r ∧ r = out := ⟨out, hf, rfl⟩
  replace hf := hr.1
  have hF := hr.2
  clear hr
  unfold f_X5_refusePlace_texts at hf
  refine lv_aload_n hx hb dX5_refusePlace_0 rfl (lv_at hl 0 rfl) ?_
  refine lv_aload_n hx hb dX5_refusePlace_1 rfl (lv_at hl 1 rfl) ?_
  refine lv_iload_n hx hb dX5_refusePlace_2 rfl (lv_at hl 2 rfl) ?_
  obtain ⟨q3, hq3⟩ := ob_s hf
  replace hf := hq3.2
  replace hq3 := hq3.1
  refine cW1 (rest := []) (ws1 := (bWw G a o q3.2)) (st1 := [.int q3.1]) C0 hW hl.1 (c_X5_refuseMissing_texts l G a o w x2 _ hq3) cb_X5_refuseMissing mm_X5_84 fst_Ww 0 5 rfl rfl rfl (by decide) rfl rfl (Nat.le_of_ble_eq_true rfl) ⟨Nat.zero_le _, Nat.zero_le _⟩ dX5_refusePlace_3 rfl (fun H locs hW => ?_)
  refine lv_istore (lv' := [(4, .int q3.1), (0, .ref (a o)), (1, .ref (a (o + 12))), (2, .int x2), (3, .int x3)]) hx hb dX5_refusePlace_6 hl (by decide) rfl (fun ls hl => ?_)
  refine lv_iload hx hb dX5_refusePlace_8 (lv_at hl 0 rfl) ?_
  refine lv_if_eq (tgt := 16) hx hb dX5_refusePlace_10 (by decide) (fun c10_1 => ?_) (fun c10_1 => ?_)
  · replace hf := if_t c10_1 hf
    refine lv_aload_n hx hb dX5_refusePlace_16 rfl (lv_at hl 2 rfl) ?_
    refine lv_iload_n hx hb dX5_refusePlace_17 rfl (lv_at hl 3 rfl) ?_
    refine lv_iload_n hx hb dX5_refusePlace_18 rfl (lv_at hl 4 rfl) ?_
    obtain ⟨q19, hq19⟩ := ob_s hf
    replace hf := hq19.2
    replace hq19 := hq19.1
    refine bV1 (rest := []) (bs := bsWw G a o q3.2) (bs1 := bsWw G a o q3.2) (st1 := [.int q19]) C0 hW hl.1 (c_X3_isPlace l G a (o + 12) 4 60 (ww_texts q3.2) x2 x3 _ hq19) cb_X3_isPlace mm_X5_278 ([8, 9, 10, 11, 12]) ([0, 1, 2, 3, 4, 5, 6, 7, 13, 14, 15, 16, 17, 18, 19, 20, 21, 22, 23, 24]) (ap_8_9_10_11_12) (ac_8_9_10_11_12 (w := q3.2)) (ac_8_9_10_11_12 (w := q3.2)) rfl rfl rfl 0 3 rfl rfl rfl (by decide) rfl rfl (Nat.le_of_ble_eq_true rfl) ⟨Nat.zero_le _, Nat.zero_le _⟩ dX5_refusePlace_19 rfl (fun H locs hW => ?_)
    refine lv_if_eq (tgt := 29) hx hb dX5_refusePlace_22 (by decide) (fun c22_2 => ?_) (fun c22_2 => ?_)
    · replace hf := if_t c22_2 hf
      refine lv_aload_n hx hb dX5_refusePlace_29 rfl (lv_at hl 1 rfl) ?_
      refine lv_iconst (v := 2) hx hb dX5_refusePlace_30 (by decide) ?_
      obtain ⟨q31, hq31⟩ := ob_s hf
      replace hf := hq31.2
      replace hq31 := hq31.1
      refine cW1 (rest := []) (ws1 := (bWw G a o q31.2)) (st1 := [.int q31.1]) C0 hW hl.1 (c_X5_refuse l G a o q3.2 (2 : Int32) _ hq31) cb_X5_refuse mm_X5_96 fst_Ww 0 5 rfl rfl rfl (by decide) rfl rfl (Nat.le_of_ble_eq_true rfl) ⟨Nat.zero_le _, Nat.zero_le _⟩ dX5_refusePlace_31 rfl (fun H locs hW => ?_)
      have e1 := Option.some.inj hf
      subst e1
      have hF : ((q31.1, q31.2) : Int32 × Ww) = out := hF
      subst hF
      exact k_iret C0 hW dX5_refusePlace_34
    · replace hf := if_f c22_2 hf
      refine lv_iconst (v := 0) hx hb dX5_refusePlace_25 (by decide) ?_
      refine lv_goto (tgt := 34) hx hb dX5_refusePlace_26 (by decide) ?_
      have e1 := Option.some.inj hf
      subst e1
      have hF : (((0 : Int32), q3.2) : Int32 × Ww) = out := hF
      subst hF
      exact k_iret C0 hW dX5_refusePlace_34
  · replace hf := if_f c10_1 hf
    refine lv_iload hx hb dX5_refusePlace_13 (lv_at hl 0 rfl) ?_
    have e1 := Option.some.inj hf
    subst e1
    have hF : ((q3.1, q3.2) : Int32 × Ww) = out := hF
    subst hF
    exact k_iret C0 hW dX5_refusePlace_15

def f_X5_put (w : Ww) (x1 : Int32) (x2 : Int32) (x3 : Int32) : Option (Int32 × Ww) :=
  Option.bind (f_X5_refusePlace_texts w x1 x2) (fun q7 => if q7.1 = 0 then (Option.bind (f_X3_set 4 60 (ww_texts q7.2) x1 x2 (x3.toInt8.toInt32)) (fun q28 => some ((q28.1 + (1000 : Int32)), (ww_set_texts q7.2 q28.2)))) else (some (q7.1, q7.2)))
set_option maxRecDepth 100000 in
set_option maxHeartbeats 8000000 in
theorem c_X5_put (l : Launch) (G : GG) (a : Nat → Nat) (o : Nat) (w : Ww) (x1 : Int32) (x2 : Int32) (x3 : Int32) (out : Int32 × Ww) (hf : f_X5_put w x1 x2 x3 = some out) : Cn l G 3 yX5_put cX5_put 5 (some .int) [.ref (a o), .int x1, .int x2, .int x3] (bWw G a o w) (some (.int out.1)) (bWw G a o out.2) := by
  refine cn_start (by decide) (Nat.le_of_ble_eq_true rfl) ?_
  intro p e s m below meth c A ls C0 hW hl
  have hx := C0.1
  have hb := C0.2.1
  have hl : lv_has ls 5 [(0, .ref (a o)), (1, .int x1), (2, .int x2), (3, .int x3)] := hl
  obtain ⟨r, hr⟩ : ∃ r, f_X5_put w x1 x2 x3 = some r ∧ r = out := ⟨out, hf, rfl⟩
  replace hf := hr.1
  have hF := hr.2
  clear hr
  unfold f_X5_put at hf
  refine lv_aload_n hx hb dX5_put_0 rfl (lv_at hl 0 rfl) ?_
  refine lv_aload_n hx hb dX5_put_1 rfl (lv_at hl 0 rfl) ?_
  refine k_get C0 hW 5 1 0 (v := .ref (a (o + 12))) rfl (by decide) inX5 mf_X5_18 rfl rfl dX5_put_2 ?_
  refine lv_iload_n hx hb dX5_put_5 rfl (lv_at hl 1 rfl) ?_
  refine lv_iload_n hx hb dX5_put_6 rfl (lv_at hl 2 rfl) ?_
  obtain ⟨q7, hq7⟩ := ob_s hf
  replace hf := hq7.2
  replace hq7 := hq7.1
  refine cW1 (rest := []) (ws1 := (bWw G a o q7.2)) (st1 := [.int q7.1]) C0 hW hl.1 (c_X5_refusePlace_texts l G a o w x1 x2 _ hq7) cb_X5_refusePlace mm_X5_68 fst_Ww 0 5 rfl rfl rfl (by decide) rfl rfl (Nat.le_of_ble_eq_true rfl) ⟨Nat.zero_le _, Nat.zero_le _⟩ dX5_put_7 rfl (fun H locs hW => ?_)
  refine lv_istore (lv' := [(4, .int q7.1), (0, .ref (a o)), (1, .int x1), (2, .int x2), (3, .int x3)]) hx hb dX5_put_10 hl (by decide) rfl (fun ls hl => ?_)
  refine lv_iload hx hb dX5_put_12 (lv_at hl 0 rfl) ?_
  refine lv_if_eq (tgt := 20) hx hb dX5_put_14 (by decide) (fun c14_1 => ?_) (fun c14_1 => ?_)
  · replace hf := if_t c14_1 hf
    refine lv_aload_n hx hb dX5_put_20 rfl (lv_at hl 1 rfl) ?_
    refine k_get C0 hW 5 1 0 (v := .ref (a (o + 12))) rfl (by decide) inX5 mf_X5_18 rfl rfl dX5_put_21 ?_
    refine lv_iload_n hx hb dX5_put_24 rfl (lv_at hl 2 rfl) ?_
    refine lv_iload_n hx hb dX5_put_25 rfl (lv_at hl 3 rfl) ?_
    refine lv_iload_n hx hb dX5_put_26 rfl (lv_at hl 4 rfl) ?_
    refine lv_i2b (v := x3.toInt8.toInt32) hx hb dX5_put_27 rfl ?_
    obtain ⟨q28, hq28⟩ := ob_s hf
    replace hf := hq28.2
    replace hq28 := hq28.1
    refine bV1 (rest := []) (bs := bsWw G a o q7.2) (bs1 := bsWw G a o (ww_set_texts q7.2 q28.2)) (st1 := [.int q28.1]) C0 hW hl.1 (c_X3_set l G a (o + 12) 4 60 (ww_texts q7.2) x1 x2 (x3.toInt8.toInt32) _ hq28) cb_X3_set mm_X5_72 ([8, 9, 10, 11, 12]) ([0, 1, 2, 3, 4, 5, 6, 7, 13, 14, 15, 16, 17, 18, 19, 20, 21, 22, 23, 24]) (ap_8_9_10_11_12) (ac_8_9_10_11_12 (w := q7.2)) (ad_8_9_10_11_12_w (w := q7.2)) (ar_8_9_10_11_12_w (w := q7.2)) rfl (as_8_9_10_11_12_w (w := q7.2)) 0 3 rfl rfl rfl (by decide) rfl rfl (Nat.le_of_ble_eq_true rfl) ⟨Nat.zero_le _, Nat.zero_le _⟩ dX5_put_28 rfl (fun H locs hW => ?_)
    refine lv_sipush (v := 1000) hx hb dX5_put_31 (by decide) ?_
    refine lv_iadd hx hb dX5_put_34 ?_
    have e1 := Option.some.inj hf
    subst e1
    have hF : (((q28.1 + (1000 : Int32)), (ww_set_texts q7.2 q28.2)) : Int32 × Ww) = out := hF
    subst hF
    exact k_iret C0 hW dX5_put_35
  · replace hf := if_f c14_1 hf
    refine lv_iload hx hb dX5_put_17 (lv_at hl 0 rfl) ?_
    have e1 := Option.some.inj hf
    subst e1
    have hF : ((q7.1, q7.2) : Int32 × Ww) = out := hF
    subst hF
    exact k_iret C0 hW dX5_put_19

def f_X5_makeAnew_rows (w : Ww) (x2 : Int32) (x3 : Int32) (x4 : Int32) : Option (Int32 × Ww) :=
  Option.bind (f_X3_isNumber 6 40 (ww_rows w) x2) (fun q2 => if q2 = 0 then (some ((-1 : Int32), w)) else (if x3 ≤ (sh_most (ww_rows w)) then (if 0 ≤ x3 then (Option.bind (f_X3_makeOne 6 40 (ww_rows w) x2 x3 x4) (fun q33 => some (x3, (ww_set_rows w q33)))) else (Option.bind (f_X5_refuse w (5 : Int32)) (fun q24 => some (q24.1, q24.2)))) else (some ((-1 : Int32), w))))
set_option maxRecDepth 100000 in
set_option maxHeartbeats 8000000 in
theorem c_X5_makeAnew_rows (l : Launch) (G : GG) (a : Nat → Nat) (o : Nat) (w : Ww) (x2 : Int32) (x3 : Int32) (x4 : Int32) (out : Int32 × Ww) (hf : f_X5_makeAnew_rows w x2 x3 x4 = some out) : Cn l G 2 yX5_makeAnew cX5_makeAnew 5 (some .int) [.ref (a o), .ref (a (o + 3)), .int x2, .int x3, .int x4] (bWw G a o w) (some (.int out.1)) (bWw G a o out.2) := by
  refine cn_start (by decide) (Nat.le_of_ble_eq_true rfl) ?_
  intro p e s m below meth c A ls C0 hW hl
  have hx := C0.1
  have hb := C0.2.1
  have hl : lv_has ls 5 [(0, .ref (a o)), (1, .ref (a (o + 3))), (2, .int x2), (3, .int x3), (4, .int x4)] := hl
  obtain ⟨r, hr⟩ : ∃ r, f_X5_makeAnew_rows w x2 x3 x4 = some r ∧ r = out := ⟨out, hf, rfl⟩
  replace hf := hr.1
  have hF := hr.2
  clear hr
  unfold f_X5_makeAnew_rows at hf
  refine lv_aload_n hx hb dX5_makeAnew_0 rfl (lv_at hl 1 rfl) ?_
  refine lv_iload_n hx hb dX5_makeAnew_1 rfl (lv_at hl 2 rfl) ?_
  obtain ⟨q2, hq2⟩ := ob_s hf
  replace hf := hq2.2
  replace hq2 := hq2.1
  refine bV1 (rest := []) (bs := bsWw G a o w) (bs1 := bsWw G a o w) (st1 := [.int q2]) C0 hW hl.1 (c_X3_isNumber l G a (o + 3) 6 40 (ww_rows w) x2 _ hq2) cb_X3_isNumber mm_X5_92 ([1, 2, 3, 4, 5, 6, 7]) ([0, 8, 9, 10, 11, 12, 13, 14, 15, 16, 17, 18, 19, 20, 21, 22, 23, 24]) (ap_1_2_3_4_5_6_7) (ac_1_2_3_4_5_6_7 (w := w)) (ac_1_2_3_4_5_6_7 (w := w)) rfl rfl rfl 0 3 rfl rfl rfl (by decide) rfl rfl (Nat.le_of_ble_eq_true rfl) ⟨Nat.zero_le _, Nat.zero_le _⟩ dX5_makeAnew_2 rfl (fun H locs hW => ?_)
  refine lv_if_eq (tgt := 16) hx hb dX5_makeAnew_5 (by decide) (fun c5_1 => ?_) (fun c5_1 => ?_)
  · replace hf := if_t c5_1 hf
    refine lv_iconst (v := -1) hx hb dX5_makeAnew_16 (by decide) ?_
    have e1 := Option.some.inj hf
    subst e1
    have hF : (((-1 : Int32), w) : Int32 × Ww) = out := hF
    subst hF
    exact k_iret C0 hW dX5_makeAnew_17
  · replace hf := if_f c5_1 hf
    refine lv_iload_n hx hb dX5_makeAnew_8 rfl (lv_at hl 3 rfl) ?_
    refine lv_aload_n hx hb dX5_makeAnew_9 rfl (lv_at hl 1 rfl) ?_
    refine k_get C0 hW 3 0 3 (v := .int (sh_most (ww_rows w))) rfl (by decide) inX3 mf_X5_284 rfl rfl dX5_makeAnew_10 ?_
    refine lv_icmp_le (tgt := 18) hx hb dX5_makeAnew_13 (by decide) (fun c13_2 => ?_) (fun c13_2 => ?_)
    · replace hf := if_t c13_2 hf
      refine lv_iload_n hx hb dX5_makeAnew_18 rfl (lv_at hl 3 rfl) ?_
      refine lv_if_ge (tgt := 28) hx hb dX5_makeAnew_19 (by decide) (fun c19_3 => ?_) (fun c19_3 => ?_)
      · replace hf := if_t c19_3 hf
        refine lv_aload_n hx hb dX5_makeAnew_28 rfl (lv_at hl 1 rfl) ?_
        refine lv_iload_n hx hb dX5_makeAnew_29 rfl (lv_at hl 2 rfl) ?_
        refine lv_iload_n hx hb dX5_makeAnew_30 rfl (lv_at hl 3 rfl) ?_
        refine lv_iload hx hb dX5_makeAnew_31 (lv_at hl 4 rfl) ?_
        obtain ⟨q33, hq33⟩ := ob_s hf
        replace hf := hq33.2
        replace hq33 := hq33.1
        refine bV1 (rest := []) (bs := bsWw G a o w) (bs1 := bsWw G a o (ww_set_rows w q33)) (st1 := []) C0 hW hl.1 (c_X3_makeOne l G a (o + 3) 6 40 (ww_rows w) x2 x3 x4 _ hq33) cb_X3_makeOne mm_X5_193 ([1, 2, 3, 4, 5, 6, 7]) ([0, 8, 9, 10, 11, 12, 13, 14, 15, 16, 17, 18, 19, 20, 21, 22, 23, 24]) (ap_1_2_3_4_5_6_7) (ac_1_2_3_4_5_6_7 (w := w)) (ad_1_2_3_4_5_6_7_w (w := w)) (ar_1_2_3_4_5_6_7_w (w := w)) rfl (as_1_2_3_4_5_6_7_w (w := w)) 0 3 rfl rfl rfl (by decide) rfl rfl (Nat.le_of_ble_eq_true rfl) ⟨Nat.zero_le _, Nat.zero_le _⟩ dX5_makeAnew_33 rfl (fun H locs hW => ?_)
        refine lv_iload_n hx hb dX5_makeAnew_36 rfl (lv_at hl 3 rfl) ?_
        have e1 := Option.some.inj hf
        subst e1
        have hF : ((x3, (ww_set_rows w q33)) : Int32 × Ww) = out := hF
        subst hF
        exact k_iret C0 hW dX5_makeAnew_37
      · replace hf := if_f c19_3 hf
        refine lv_aload_n hx hb dX5_makeAnew_22 rfl (lv_at hl 0 rfl) ?_
        refine lv_iconst (v := 5) hx hb dX5_makeAnew_23 (by decide) ?_
        obtain ⟨q24, hq24⟩ := ob_s hf
        replace hf := hq24.2
        replace hq24 := hq24.1
        refine cW1 (rest := []) (ws1 := (bWw G a o q24.2)) (st1 := [.int q24.1]) C0 hW hl.1 (c_X5_refuse l G a o w (5 : Int32) _ hq24) cb_X5_refuse mm_X5_96 fst_Ww 0 5 rfl rfl rfl (by decide) rfl rfl (Nat.le_of_ble_eq_true rfl) ⟨Nat.zero_le _, Nat.zero_le _⟩ dX5_makeAnew_24 rfl (fun H locs hW => ?_)
        have e1 := Option.some.inj hf
        subst e1
        have hF : ((q24.1, q24.2) : Int32 × Ww) = out := hF
        subst hF
        exact k_iret C0 hW dX5_makeAnew_27
    · replace hf := if_f c13_2 hf
      refine lv_iconst (v := -1) hx hb dX5_makeAnew_16 (by decide) ?_
      have e1 := Option.some.inj hf
      subst e1
      have hF : (((-1 : Int32), w) : Int32 × Ww) = out := hF
      subst hF
      exact k_iret C0 hW dX5_makeAnew_17

def f_X5_row (w : Ww) (x1 : Int32) (x2 : Int32) : Option (Int32 × Ww) :=
  Option.bind (f_X5_makeAnew_rows w x1 x2 (0 : Int32)) (fun q8 => some (q8.1, q8.2))
set_option maxRecDepth 100000 in
set_option maxHeartbeats 8000000 in
theorem c_X5_row (l : Launch) (G : GG) (a : Nat → Nat) (o : Nat) (w : Ww) (x1 : Int32) (x2 : Int32) (out : Int32 × Ww) (hf : f_X5_row w x1 x2 = some out) : Cn l G 3 yX5_row cX5_row 3 (some .int) [.ref (a o), .int x1, .int x2] (bWw G a o w) (some (.int out.1)) (bWw G a o out.2) := by
  refine cn_start (by decide) (Nat.le_of_ble_eq_true rfl) ?_
  intro p e s m below meth c A ls C0 hW hl
  have hx := C0.1
  have hb := C0.2.1
  have hl : lv_has ls 3 [(0, .ref (a o)), (1, .int x1), (2, .int x2)] := hl
  obtain ⟨r, hr⟩ : ∃ r, f_X5_row w x1 x2 = some r ∧ r = out := ⟨out, hf, rfl⟩
  replace hf := hr.1
  have hF := hr.2
  clear hr
  unfold f_X5_row at hf
  refine lv_aload_n hx hb dX5_row_0 rfl (lv_at hl 0 rfl) ?_
  refine lv_aload_n hx hb dX5_row_1 rfl (lv_at hl 0 rfl) ?_
  refine k_get C0 hW 5 0 0 (v := .ref (a (o + 3))) rfl (by decide) inX5 mf_X5_14 rfl rfl dX5_row_2 ?_
  refine lv_iload_n hx hb dX5_row_5 rfl (lv_at hl 1 rfl) ?_
  refine lv_iload_n hx hb dX5_row_6 rfl (lv_at hl 2 rfl) ?_
  refine lv_iconst (v := 0) hx hb dX5_row_7 (by decide) ?_
  obtain ⟨q8, hq8⟩ := ob_s hf
  replace hf := hq8.2
  replace hq8 := hq8.1
  refine cW1 (rest := []) (ws1 := (bWw G a o q8.2)) (st1 := [.int q8.1]) C0 hW hl.1 (c_X5_makeAnew_rows l G a o w x1 x2 (0 : Int32) _ hq8) cb_X5_makeAnew mm_X5_64 fst_Ww 0 5 rfl rfl rfl (by decide) rfl rfl (Nat.le_of_ble_eq_true rfl) ⟨Nat.zero_le _, Nat.zero_le _⟩ dX5_row_8 rfl (fun H locs hW => ?_)
  have e1 := Option.some.inj hf
  subst e1
  have hF : ((q8.1, q8.2) : Int32 × Ww) = out := hF
  subst hF
  exact k_iret C0 hW dX5_row_11

def f_X5_soak (w : Ww) : Option (Int32 × Ww) :=
  Option.bind (f_X4_isEmpty (ct_wheel (ww_cart w))) (fun q7 => if q7 = 0 then (Option.bind (f_X5_doDeed w (1 : Int32) (0 : Int32)) (fun q21 => some (q21.1, q21.2))) else (some ((-4 : Int32), w)))
set_option maxRecDepth 100000 in
set_option maxHeartbeats 8000000 in
theorem c_X5_soak (l : Launch) (G : GG) (a : Nat → Nat) (o : Nat) (w : Ww) (out : Int32 × Ww) (hf : f_X5_soak w = some out) : Cn l G 6 yX5_soak cX5_soak 1 (some .int) [.ref (a o)] (bWw G a o w) (some (.int out.1)) (bWw G a o out.2) := by
  refine cn_start (by decide) (Nat.le_of_ble_eq_true rfl) ?_
  intro p e s m below meth c A ls C0 hW hl
  have hx := C0.1
  have hb := C0.2.1
  have hl : lv_has ls 1 [(0, .ref (a o))] := hl
  obtain ⟨r, hr⟩ : ∃ r, f_X5_soak w = some r ∧ r = out := ⟨out, hf, rfl⟩
  replace hf := hr.1
  have hF := hr.2
  clear hr
  unfold f_X5_soak at hf
  refine lv_aload_n hx hb dX5_soak_0 rfl (lv_at hl 0 rfl) ?_
  refine k_get C0 hW 5 3 0 (v := .ref (a (o + 27))) rfl (by decide) inX5 mf_X5_31 rfl rfl dX5_soak_1 ?_
  refine k_get C0 hW 1 0 27 (v := .ref (a (o + 30))) rfl (by decide) inX1 mf_X5_45 rfl rfl dX5_soak_4 ?_
  obtain ⟨q7, hq7⟩ := ob_s hf
  replace hf := hq7.2
  replace hq7 := hq7.1
  refine bV1 (rest := []) (bs := bsWw G a o w) (bs1 := bsWw G a o w) (st1 := [.int q7]) C0 hW hl.1 (c_X4_isEmpty l G a (o + 30) (ct_wheel (ww_cart w)) _ hq7) cb_X4_isEmpty mm_X5_163 ([16]) ([0, 1, 2, 3, 4, 5, 6, 7, 8, 9, 10, 11, 12, 13, 14, 15, 17, 18, 19, 20, 21, 22, 23, 24]) (ap_16) (ac_16 (w := w)) (ac_16 (w := w)) rfl rfl rfl 0 4 rfl rfl rfl (by decide) rfl rfl (Nat.le_of_ble_eq_true rfl) ⟨Nat.zero_le _, Nat.zero_le _⟩ dX5_soak_7 rfl (fun H locs hW => ?_)
  refine lv_if_eq (tgt := 18) hx hb dX5_soak_10 (by decide) (fun c10_1 => ?_) (fun c10_1 => ?_)
  · replace hf := if_t c10_1 hf
    refine lv_aload_n hx hb dX5_soak_18 rfl (lv_at hl 0 rfl) ?_
    refine lv_iconst (v := 1) hx hb dX5_soak_19 (by decide) ?_
    refine lv_iconst (v := 0) hx hb dX5_soak_20 (by decide) ?_
    obtain ⟨q21, hq21⟩ := ob_s hf
    replace hf := hq21.2
    replace hq21 := hq21.1
    refine cW1 (rest := []) (ws1 := (bWw G a o q21.2)) (st1 := [.int q21.1]) C0 hW hl.1 (c_X5_doDeed l G a o w (1 : Int32) (0 : Int32) _ hq21) cb_X5_doDeed mm_X5_170 fst_Ww 0 5 rfl rfl rfl (by decide) rfl rfl (Nat.le_of_ble_eq_true rfl) ⟨Nat.zero_le _, Nat.zero_le _⟩ dX5_soak_21 rfl (fun H locs hW => ?_)
    have e1 := Option.some.inj hf
    subst e1
    have hF : ((q21.1, q21.2) : Int32 × Ww) = out := hF
    subst hF
    exact k_iret C0 hW dX5_soak_24
  · replace hf := if_f c10_1 hf
    refine lv_bipush (v := -4) hx hb dX5_soak_13 (by decide) ?_
    refine lv_goto (tgt := 24) hx hb dX5_soak_15 (by decide) ?_
    have e1 := Option.some.inj hf
    subst e1
    have hF : (((-4 : Int32), w) : Int32 × Ww) = out := hF
    subst hF
    exact k_iret C0 hW dX5_soak_24

def f_X5_spoke (w : Ww) (x1 : Int32) (x2 : Int32) : Option (Int32 × Ww) :=
  Option.bind (f_X4_isSpoke (ct_wheel (ww_cart w)) x1) (fun q8 => if q8 = 0 then (some ((-1 : Int32), w)) else (if x2 < 0 then (some ((-1 : Int32), w)) else (if x2 ≤ (5 : Int32) then (Option.bind (f_X4_facet (ct_wheel (ww_cart w)) x1 x2) (fun q35 => Option.bind (f_X5_tell w q35) (fun q38 => some (q38.1, q38.2)))) else (some ((-1 : Int32), w)))))
set_option maxRecDepth 100000 in
set_option maxHeartbeats 8000000 in
theorem c_X5_spoke (l : Launch) (G : GG) (a : Nat → Nat) (o : Nat) (w : Ww) (x1 : Int32) (x2 : Int32) (out : Int32 × Ww) (hf : f_X5_spoke w x1 x2 = some out) : Cn l G 4 yX5_spoke cX5_spoke 3 (some .int) [.ref (a o), .int x1, .int x2] (bWw G a o w) (some (.int out.1)) (bWw G a o out.2) := by
  refine cn_start (by decide) (Nat.le_of_ble_eq_true rfl) ?_
  intro p e s m below meth c A ls C0 hW hl
  have hx := C0.1
  have hb := C0.2.1
  have hl : lv_has ls 3 [(0, .ref (a o)), (1, .int x1), (2, .int x2)] := hl
  obtain ⟨r, hr⟩ : ∃ r, f_X5_spoke w x1 x2 = some r ∧ r = out := ⟨out, hf, rfl⟩
  replace hf := hr.1
  have hF := hr.2
  clear hr
  unfold f_X5_spoke at hf
  refine lv_aload_n hx hb dX5_spoke_0 rfl (lv_at hl 0 rfl) ?_
  refine k_get C0 hW 5 3 0 (v := .ref (a (o + 27))) rfl (by decide) inX5 mf_X5_31 rfl rfl dX5_spoke_1 ?_
  refine k_get C0 hW 1 0 27 (v := .ref (a (o + 30))) rfl (by decide) inX1 mf_X5_45 rfl rfl dX5_spoke_4 ?_
  refine lv_iload_n hx hb dX5_spoke_7 rfl (lv_at hl 1 rfl) ?_
  obtain ⟨q8, hq8⟩ := ob_s hf
  replace hf := hq8.2
  replace hq8 := hq8.1
  refine bV1 (rest := []) (bs := bsWw G a o w) (bs1 := bsWw G a o w) (st1 := [.int q8]) C0 hW hl.1 (c_X4_isSpoke l G a (o + 30) (ct_wheel (ww_cart w)) x1 _ hq8) cb_X4_isSpoke mm_X5_136 ([16]) ([0, 1, 2, 3, 4, 5, 6, 7, 8, 9, 10, 11, 12, 13, 14, 15, 17, 18, 19, 20, 21, 22, 23, 24]) (ap_16) (ac_16 (w := w)) (ac_16 (w := w)) rfl rfl rfl 0 4 rfl rfl rfl (by decide) rfl rfl (Nat.le_of_ble_eq_true rfl) ⟨Nat.zero_le _, Nat.zero_le _⟩ dX5_spoke_8 rfl (fun H locs hW => ?_)
  refine lv_if_eq (tgt := 23) hx hb dX5_spoke_11 (by decide) (fun c11_1 => ?_) (fun c11_1 => ?_)
  · replace hf := if_t c11_1 hf
    refine lv_iconst (v := -1) hx hb dX5_spoke_23 (by decide) ?_
    have e1 := Option.some.inj hf
    subst e1
    have hF : (((-1 : Int32), w) : Int32 × Ww) = out := hF
    subst hF
    exact k_iret C0 hW dX5_spoke_24
  · replace hf := if_f c11_1 hf
    refine lv_iload_n hx hb dX5_spoke_14 rfl (lv_at hl 2 rfl) ?_
    refine lv_if_lt (tgt := 23) hx hb dX5_spoke_15 (by decide) (fun c15_2 => ?_) (fun c15_2 => ?_)
    · replace hf := if_t c15_2 hf
      refine lv_iconst (v := -1) hx hb dX5_spoke_23 (by decide) ?_
      have e1 := Option.some.inj hf
      subst e1
      have hF : (((-1 : Int32), w) : Int32 × Ww) = out := hF
      subst hF
      exact k_iret C0 hW dX5_spoke_24
    · replace hf := if_f c15_2 hf
      refine lv_iload_n hx hb dX5_spoke_18 rfl (lv_at hl 2 rfl) ?_
      refine lv_iconst (v := 5) hx hb dX5_spoke_19 (by decide) ?_
      refine lv_icmp_le (tgt := 25) hx hb dX5_spoke_20 (by decide) (fun c20_3 => ?_) (fun c20_3 => ?_)
      · replace hf := if_t c20_3 hf
        refine lv_aload_n hx hb dX5_spoke_25 rfl (lv_at hl 0 rfl) ?_
        refine lv_aload_n hx hb dX5_spoke_26 rfl (lv_at hl 0 rfl) ?_
        refine k_get C0 hW 5 3 0 (v := .ref (a (o + 27))) rfl (by decide) inX5 mf_X5_31 rfl rfl dX5_spoke_27 ?_
        refine k_get C0 hW 1 0 27 (v := .ref (a (o + 30))) rfl (by decide) inX1 mf_X5_45 rfl rfl dX5_spoke_30 ?_
        refine lv_iload_n hx hb dX5_spoke_33 rfl (lv_at hl 1 rfl) ?_
        refine lv_iload_n hx hb dX5_spoke_34 rfl (lv_at hl 2 rfl) ?_
        obtain ⟨q35, hq35⟩ := ob_s hf
        replace hf := hq35.2
        replace hq35 := hq35.1
        refine bV1 (rest := [.ref (a o)]) (bs := bsWw G a o w) (bs1 := bsWw G a o w) (st1 := [.int q35, .ref (a o)]) C0 hW hl.1 (c_X4_facet l G a (o + 30) (ct_wheel (ww_cart w)) x1 x2 _ hq35) cb_X4_facet mm_X5_139 ([16]) ([0, 1, 2, 3, 4, 5, 6, 7, 8, 9, 10, 11, 12, 13, 14, 15, 17, 18, 19, 20, 21, 22, 23, 24]) (ap_16) (ac_16 (w := w)) (ac_16 (w := w)) rfl rfl rfl 0 4 rfl rfl rfl (by decide) rfl rfl (Nat.le_of_ble_eq_true rfl) ⟨Nat.zero_le _, Nat.zero_le _⟩ dX5_spoke_35 rfl (fun H locs hW => ?_)
        obtain ⟨q38, hq38⟩ := ob_s hf
        replace hf := hq38.2
        replace hq38 := hq38.1
        refine cW1 (rest := []) (ws1 := (bWw G a o q38.2)) (st1 := [.int q38.1]) C0 hW hl.1 (c_X5_tell l G a o w q35 _ hq38) cb_X5_tell mm_X5_76 fst_Ww 0 5 rfl rfl rfl (by decide) rfl rfl (Nat.le_of_ble_eq_true rfl) ⟨Nat.zero_le _, Nat.zero_le _⟩ dX5_spoke_38 rfl (fun H locs hW => ?_)
        have e1 := Option.some.inj hf
        subst e1
        have hF : ((q38.1, q38.2) : Int32 × Ww) = out := hF
        subst hF
        exact k_iret C0 hW dX5_spoke_41
      · replace hf := if_f c20_3 hf
        refine lv_iconst (v := -1) hx hb dX5_spoke_23 (by decide) ?_
        have e1 := Option.some.inj hf
        subst e1
        have hF : (((-1 : Int32), w) : Int32 × Ww) = out := hF
        subst hF
        exact k_iret C0 hW dX5_spoke_24

def f_X5_step (w : Ww) : Option (Int32 × Ww) :=
  Option.bind (f_X4_isEmpty (ct_wheel (ww_cart w))) (fun q7 => if q7 = 0 then (Option.bind (f_X4_isOver (ct_wheel (ww_cart w))) (fun q20 => if q20 = 0 then (Option.bind (f_X5_doDeed w (0 : Int32) (0 : Int32)) (fun q32 => some (q32.1, q32.2))) else (some ((-4 : Int32), w)))) else (some ((-4 : Int32), w)))
set_option maxRecDepth 100000 in
set_option maxHeartbeats 8000000 in
theorem c_X5_step (l : Launch) (G : GG) (a : Nat → Nat) (o : Nat) (w : Ww) (out : Int32 × Ww) (hf : f_X5_step w = some out) : Cn l G 6 yX5_step cX5_step 1 (some .int) [.ref (a o)] (bWw G a o w) (some (.int out.1)) (bWw G a o out.2) := by
  refine cn_start (by decide) (Nat.le_of_ble_eq_true rfl) ?_
  intro p e s m below meth c A ls C0 hW hl
  have hx := C0.1
  have hb := C0.2.1
  have hl : lv_has ls 1 [(0, .ref (a o))] := hl
  obtain ⟨r, hr⟩ : ∃ r, f_X5_step w = some r ∧ r = out := ⟨out, hf, rfl⟩
  replace hf := hr.1
  have hF := hr.2
  clear hr
  unfold f_X5_step at hf
  refine lv_aload_n hx hb dX5_step_0 rfl (lv_at hl 0 rfl) ?_
  refine k_get C0 hW 5 3 0 (v := .ref (a (o + 27))) rfl (by decide) inX5 mf_X5_31 rfl rfl dX5_step_1 ?_
  refine k_get C0 hW 1 0 27 (v := .ref (a (o + 30))) rfl (by decide) inX1 mf_X5_45 rfl rfl dX5_step_4 ?_
  obtain ⟨q7, hq7⟩ := ob_s hf
  replace hf := hq7.2
  replace hq7 := hq7.1
  refine bV1 (rest := []) (bs := bsWw G a o w) (bs1 := bsWw G a o w) (st1 := [.int q7]) C0 hW hl.1 (c_X4_isEmpty l G a (o + 30) (ct_wheel (ww_cart w)) _ hq7) cb_X4_isEmpty mm_X5_163 ([16]) ([0, 1, 2, 3, 4, 5, 6, 7, 8, 9, 10, 11, 12, 13, 14, 15, 17, 18, 19, 20, 21, 22, 23, 24]) (ap_16) (ac_16 (w := w)) (ac_16 (w := w)) rfl rfl rfl 0 4 rfl rfl rfl (by decide) rfl rfl (Nat.le_of_ble_eq_true rfl) ⟨Nat.zero_le _, Nat.zero_le _⟩ dX5_step_7 rfl (fun H locs hW => ?_)
  refine lv_if_ne (tgt := 26) hx hb dX5_step_10 (by decide) (fun c10_1 => ?_) (fun c10_1 => ?_)
  · replace hf := if_f c10_1 hf
    refine lv_bipush (v := -4) hx hb dX5_step_26 (by decide) ?_
    have e1 := Option.some.inj hf
    subst e1
    have hF : (((-4 : Int32), w) : Int32 × Ww) = out := hF
    subst hF
    exact k_iret C0 hW dX5_step_28
  · replace hf := if_t c10_1 hf
    refine lv_aload_n hx hb dX5_step_13 rfl (lv_at hl 0 rfl) ?_
    refine k_get C0 hW 5 3 0 (v := .ref (a (o + 27))) rfl (by decide) inX5 mf_X5_31 rfl rfl dX5_step_14 ?_
    refine k_get C0 hW 1 0 27 (v := .ref (a (o + 30))) rfl (by decide) inX1 mf_X5_45 rfl rfl dX5_step_17 ?_
    obtain ⟨q20, hq20⟩ := ob_s hf
    replace hf := hq20.2
    replace hq20 := hq20.1
    refine bV1 (rest := []) (bs := bsWw G a o w) (bs1 := bsWw G a o w) (st1 := [.int q20]) C0 hW hl.1 (c_X4_isOver l G a (o + 30) (ct_wheel (ww_cart w)) _ hq20) cb_X4_isOver mm_X5_167 ([16]) ([0, 1, 2, 3, 4, 5, 6, 7, 8, 9, 10, 11, 12, 13, 14, 15, 17, 18, 19, 20, 21, 22, 23, 24]) (ap_16) (ac_16 (w := w)) (ac_16 (w := w)) rfl rfl rfl 0 4 rfl rfl rfl (by decide) rfl rfl (Nat.le_of_ble_eq_true rfl) ⟨Nat.zero_le _, Nat.zero_le _⟩ dX5_step_20 rfl (fun H locs hW => ?_)
    refine lv_if_eq (tgt := 29) hx hb dX5_step_23 (by decide) (fun c23_2 => ?_) (fun c23_2 => ?_)
    · replace hf := if_t c23_2 hf
      refine lv_aload_n hx hb dX5_step_29 rfl (lv_at hl 0 rfl) ?_
      refine lv_iconst (v := 0) hx hb dX5_step_30 (by decide) ?_
      refine lv_iconst (v := 0) hx hb dX5_step_31 (by decide) ?_
      obtain ⟨q32, hq32⟩ := ob_s hf
      replace hf := hq32.2
      replace hq32 := hq32.1
      refine cW1 (rest := []) (ws1 := (bWw G a o q32.2)) (st1 := [.int q32.1]) C0 hW hl.1 (c_X5_doDeed l G a o w (0 : Int32) (0 : Int32) _ hq32) cb_X5_doDeed mm_X5_170 fst_Ww 0 5 rfl rfl rfl (by decide) rfl rfl (Nat.le_of_ble_eq_true rfl) ⟨Nat.zero_le _, Nat.zero_le _⟩ dX5_step_32 rfl (fun H locs hW => ?_)
      have e1 := Option.some.inj hf
      subst e1
      have hF : ((q32.1, q32.2) : Int32 × Ww) = out := hF
      subst hF
      exact k_iret C0 hW dX5_step_35
    · replace hf := if_f c23_2 hf
      refine lv_bipush (v := -4) hx hb dX5_step_26 (by decide) ?_
      have e1 := Option.some.inj hf
      subst e1
      have hF : (((-4 : Int32), w) : Int32 × Ww) = out := hF
      subst hF
      exact k_iret C0 hW dX5_step_28

def f_X5_strengths (w : Ww) (x1 : Int32) (x2 : Int32) : Option (Int32 × Ww) :=
  Option.bind (f_X5_refuseGuess w x1 x2) (fun q3 => if q3.1 = 0 then (Option.bind (f_X3_placesOf 6 40 (ww_rows q3.2) x2) (fun q23 => Option.bind (f_X3_sizeOf 6 40 (ww_rows q3.2) x2) (fun q31 => Option.bind (f_X0_likelyStrengths 40 (ww_aside q3.2) (ct_wheel (ww_cart q3.2)) ((sh_places (ww_rows q3.2)) q23) x1 q31) (fun q34 => some (q34.1, (ww_set_aside q3.2 q34.2)))))) else (some (q3.1, q3.2)))
set_option maxRecDepth 100000 in
set_option maxHeartbeats 8000000 in
theorem c_X5_strengths (l : Launch) (G : GG) (a : Nat → Nat) (o : Nat) (w : Ww) (x1 : Int32) (x2 : Int32) (out : Int32 × Ww) (hf : f_X5_strengths w x1 x2 = some out) : Cn l G 5 yX5_strengths cX5_strengths 4 (some .int) [.ref (a o), .int x1, .int x2] (bWw G a o w) (some (.int out.1)) (bWw G a o out.2) := by
  refine cn_start (by decide) (Nat.le_of_ble_eq_true rfl) ?_
  intro p e s m below meth c A ls C0 hW hl
  have hx := C0.1
  have hb := C0.2.1
  have hl : lv_has ls 4 [(0, .ref (a o)), (1, .int x1), (2, .int x2)] := hl
  obtain ⟨r, hr⟩ : ∃ r, f_X5_strengths w x1 x2 = some r ∧ r = out := ⟨out, hf, rfl⟩
  replace hf := hr.1
  have hF := hr.2
  clear hr
  unfold f_X5_strengths at hf
  refine lv_aload_n hx hb dX5_strengths_0 rfl (lv_at hl 0 rfl) ?_
  refine lv_iload_n hx hb dX5_strengths_1 rfl (lv_at hl 1 rfl) ?_
  refine lv_iload_n hx hb dX5_strengths_2 rfl (lv_at hl 2 rfl) ?_
  obtain ⟨q3, hq3⟩ := ob_s hf
  replace hf := hq3.2
  replace hq3 := hq3.1
  refine cW1 (rest := []) (ws1 := (bWw G a o q3.2)) (st1 := [.int q3.1]) C0 hW hl.1 (c_X5_refuseGuess l G a o w x1 x2 _ hq3) cb_X5_refuseGuess mm_X5_215 fst_Ww 0 5 rfl rfl rfl (by decide) rfl rfl (Nat.le_of_ble_eq_true rfl) ⟨Nat.zero_le _, Nat.zero_le _⟩ dX5_strengths_3 rfl (fun H locs hW => ?_)
  refine lv_istore_n (lv' := [(3, .int q3.1), (0, .ref (a o)), (1, .int x1), (2, .int x2)]) hx hb dX5_strengths_6 rfl hl (by decide) rfl (fun ls hl => ?_)
  refine lv_iload_n hx hb dX5_strengths_7 rfl (lv_at hl 0 rfl) ?_
  refine lv_if_eq (tgt := 13) hx hb dX5_strengths_8 (by decide) (fun c8_1 => ?_) (fun c8_1 => ?_)
  · replace hf := if_t c8_1 hf
    refine lv_aload_n hx hb dX5_strengths_13 rfl (lv_at hl 1 rfl) ?_
    refine k_get C0 hW 5 5 0 (v := .ref (a (o + 63))) rfl (by decide) inX5 mf_X5_52 rfl rfl dX5_strengths_14 ?_
    refine lv_iload_n hx hb dX5_strengths_17 rfl (lv_at hl 2 rfl) ?_
    refine lv_aload_n hx hb dX5_strengths_18 rfl (lv_at hl 1 rfl) ?_
    refine k_get C0 hW 5 0 0 (v := .ref (a (o + 3))) rfl (by decide) inX5 mf_X5_14 rfl rfl dX5_strengths_19 ?_
    refine lv_iload_n hx hb dX5_strengths_22 rfl (lv_at hl 3 rfl) ?_
    obtain ⟨q23, hq23⟩ := ob_s hf
    replace hf := hq23.2
    replace hq23 := hq23.1
    refine bV1 (rest := [.int x1, .ref (a (o + 63))]) (bs := bsWw G a o q3.2) (bs1 := bsWw G a o q3.2) (st1 := [.ref (a (o + 6 + q23)), .int x1, .ref (a (o + 63))]) C0 hW hl.1 (c_X3_placesOf l G a (o + 3) 6 40 (ww_rows q3.2) x2 _ hq23) cb_X3_placesOf mm_X5_117 ([1, 2, 3, 4, 5, 6, 7]) ([0, 8, 9, 10, 11, 12, 13, 14, 15, 16, 17, 18, 19, 20, 21, 22, 23, 24]) (ap_1_2_3_4_5_6_7) (ac_1_2_3_4_5_6_7 (w := q3.2)) (ac_1_2_3_4_5_6_7 (w := q3.2)) rfl rfl rfl 0 3 rfl rfl rfl (by decide) rfl rfl (Nat.le_of_ble_eq_true rfl) ⟨Nat.zero_le _, Nat.zero_le _⟩ dX5_strengths_23 rfl (fun H locs hW => ?_)
    have hlt23 := placesOf_6 hq23
    refine lv_aload_n hx hb dX5_strengths_26 rfl (lv_at hl 1 rfl) ?_
    refine k_get C0 hW 5 0 0 (v := .ref (a (o + 3))) rfl (by decide) inX5 mf_X5_14 rfl rfl dX5_strengths_27 ?_
    refine lv_iload_n hx hb dX5_strengths_30 rfl (lv_at hl 3 rfl) ?_
    obtain ⟨q31, hq31⟩ := ob_s hf
    replace hf := hq31.2
    replace hq31 := hq31.1
    refine bV1 (rest := [.ref (a (o + 6 + q23)), .int x1, .ref (a (o + 63))]) (bs := bsWw G a o q3.2) (bs1 := bsWw G a o q3.2) (st1 := [.int q31, .ref (a (o + 6 + q23)), .int x1, .ref (a (o + 63))]) C0 hW hl.1 (c_X3_sizeOf l G a (o + 3) 6 40 (ww_rows q3.2) x2 _ hq31) cb_X3_sizeOf mm_X5_110 ([1, 2, 3, 4, 5, 6, 7]) ([0, 8, 9, 10, 11, 12, 13, 14, 15, 16, 17, 18, 19, 20, 21, 22, 23, 24]) (ap_1_2_3_4_5_6_7) (ac_1_2_3_4_5_6_7 (w := q3.2)) (ac_1_2_3_4_5_6_7 (w := q3.2)) rfl rfl rfl 0 3 rfl rfl rfl (by decide) rfl rfl (Nat.le_of_ble_eq_true rfl) ⟨Nat.zero_le _, Nat.zero_le _⟩ dX5_strengths_31 rfl (fun H locs hW => ?_)
    obtain ⟨q34, hq34⟩ := ob_s hf
    replace hf := hq34.2
    replace hq34 := hq34.1
    refine bV1 (rest := []) (bs := bsWw G a o q3.2) (bs1 := bsWw G a o (ww_set_aside q3.2 q34.2)) (st1 := [.int q34.1]) C0 hW hl.1 (c_X0_likelyStrengths l G a (o + 63) a (o + 30) (a (o + 6 + q23)) 40 (ww_aside q3.2) (ct_wheel (ww_cart q3.2)) ((sh_places (ww_rows q3.2)) q23) x1 q31 _ hq34) cb_X0_likelyStrengths mm_X5_218 ([23, 24, 16, 2 + q23]) ([0, 1, 8, 9, 10, 11, 12, 13, 14, 15, 17, 18, 19, 20, 21, 22] ++ ((List.range 6).filter (fun z => z != q23)).map (fun z => 2 + z)) (ap_23_24_16_2q hlt23) (ac_23_24_16_2q (w := q3.2) hlt23) (ad_23_24_16_2q_w (w := q3.2) hlt23) (ar_23_24_16_2q_w (w := q3.2) hlt23) rfl (as_23_24_16_2q_w (w := q3.2) hlt23) 0 0 rfl rfl rfl (by decide) rfl rfl (Nat.le_of_ble_eq_true rfl) ⟨Nat.zero_le _, Nat.zero_le _⟩ dX5_strengths_34 rfl (fun H locs hW => ?_)
    have e1 := Option.some.inj hf
    subst e1
    have hF : ((q34.1, (ww_set_aside q3.2 q34.2)) : Int32 × Ww) = out := hF
    subst hF
    exact k_iret C0 hW dX5_strengths_37
  · replace hf := if_f c8_1 hf
    refine lv_iload_n hx hb dX5_strengths_11 rfl (lv_at hl 0 rfl) ?_
    have e1 := Option.some.inj hf
    subst e1
    have hF : ((q3.1, q3.2) : Int32 × Ww) = out := hF
    subst hF
    exact k_iret C0 hW dX5_strengths_12

def f_X5_tear (w : Ww) (x1 : Int32) : Option (Int32 × Ww) :=
  Option.bind (f_X5_refuseMissing_rows w x1) (fun q6 => if q6.1 = 0 then (Option.bind (f_X3_drop 6 40 (ww_rows q6.2) x1) (fun q21 => some ((1 : Int32), (ww_set_rows q6.2 q21)))) else (some (q6.1, q6.2)))
set_option maxRecDepth 100000 in
set_option maxHeartbeats 8000000 in
theorem c_X5_tear (l : Launch) (G : GG) (a : Nat → Nat) (o : Nat) (w : Ww) (x1 : Int32) (out : Int32 × Ww) (hf : f_X5_tear w x1 = some out) : Cn l G 2 yX5_tear cX5_tear 3 (some .int) [.ref (a o), .int x1] (bWw G a o w) (some (.int out.1)) (bWw G a o out.2) := by
  refine cn_start (by decide) (Nat.le_of_ble_eq_true rfl) ?_
  intro p e s m below meth c A ls C0 hW hl
  have hx := C0.1
  have hb := C0.2.1
  have hl : lv_has ls 3 [(0, .ref (a o)), (1, .int x1)] := hl
  obtain ⟨r, hr⟩ : ∃ r, f_X5_tear w x1 = some r ∧ r = out := ⟨out, hf, rfl⟩
  replace hf := hr.1
  have hF := hr.2
  clear hr
  unfold f_X5_tear at hf
  refine lv_aload_n hx hb dX5_tear_0 rfl (lv_at hl 0 rfl) ?_
  refine lv_aload_n hx hb dX5_tear_1 rfl (lv_at hl 0 rfl) ?_
  refine k_get C0 hW 5 0 0 (v := .ref (a (o + 3))) rfl (by decide) inX5 mf_X5_14 rfl rfl dX5_tear_2 ?_
  refine lv_iload_n hx hb dX5_tear_5 rfl (lv_at hl 1 rfl) ?_
  obtain ⟨q6, hq6⟩ := ob_s hf
  replace hf := hq6.2
  replace hq6 := hq6.1
  refine cW1 (rest := []) (ws1 := (bWw G a o q6.2)) (st1 := [.int q6.1]) C0 hW hl.1 (c_X5_refuseMissing_rows l G a o w x1 _ hq6) cb_X5_refuseMissing mm_X5_84 fst_Ww 0 5 rfl rfl rfl (by decide) rfl rfl (Nat.le_of_ble_eq_true rfl) ⟨Nat.zero_le _, Nat.zero_le _⟩ dX5_tear_6 rfl (fun H locs hW => ?_)
  refine lv_istore_n (lv' := [(2, .int q6.1), (0, .ref (a o)), (1, .int x1)]) hx hb dX5_tear_9 rfl hl (by decide) rfl (fun ls hl => ?_)
  refine lv_iload_n hx hb dX5_tear_10 rfl (lv_at hl 0 rfl) ?_
  refine lv_if_eq (tgt := 16) hx hb dX5_tear_11 (by decide) (fun c11_1 => ?_) (fun c11_1 => ?_)
  · replace hf := if_t c11_1 hf
    refine lv_aload_n hx hb dX5_tear_16 rfl (lv_at hl 1 rfl) ?_
    refine k_get C0 hW 5 0 0 (v := .ref (a (o + 3))) rfl (by decide) inX5 mf_X5_14 rfl rfl dX5_tear_17 ?_
    refine lv_iload_n hx hb dX5_tear_20 rfl (lv_at hl 2 rfl) ?_
    obtain ⟨q21, hq21⟩ := ob_s hf
    replace hf := hq21.2
    replace hq21 := hq21.1
    refine bV1 (rest := []) (bs := bsWw G a o q6.2) (bs1 := bsWw G a o (ww_set_rows q6.2 q21)) (st1 := []) C0 hW hl.1 (c_X3_drop l G a (o + 3) 6 40 (ww_rows q6.2) x1 _ hq21) cb_X3_drop mm_X5_88 ([1, 2, 3, 4, 5, 6, 7]) ([0, 8, 9, 10, 11, 12, 13, 14, 15, 16, 17, 18, 19, 20, 21, 22, 23, 24]) (ap_1_2_3_4_5_6_7) (ac_1_2_3_4_5_6_7 (w := q6.2)) (ad_1_2_3_4_5_6_7_w (w := q6.2)) (ar_1_2_3_4_5_6_7_w (w := q6.2)) rfl (as_1_2_3_4_5_6_7_w (w := q6.2)) 0 3 rfl rfl rfl (by decide) rfl rfl (Nat.le_of_ble_eq_true rfl) ⟨Nat.zero_le _, Nat.zero_le _⟩ dX5_tear_21 rfl (fun H locs hW => ?_)
    refine lv_iconst (v := 1) hx hb dX5_tear_24 (by decide) ?_
    have e1 := Option.some.inj hf
    subst e1
    have hF : (((1 : Int32), (ww_set_rows q6.2 q21)) : Int32 × Ww) = out := hF
    subst hF
    exact k_iret C0 hW dX5_tear_25
  · replace hf := if_f c11_1 hf
    refine lv_iload_n hx hb dX5_tear_14 rfl (lv_at hl 0 rfl) ?_
    have e1 := Option.some.inj hf
    subst e1
    have hF : ((q6.1, q6.2) : Int32 × Ww) = out := hF
    subst hF
    exact k_iret C0 hW dX5_tear_15

def f_X5_makeAnew_texts (w : Ww) (x2 : Int32) (x3 : Int32) (x4 : Int32) : Option (Int32 × Ww) :=
  Option.bind (f_X3_isNumber 4 60 (ww_texts w) x2) (fun q2 => if q2 = 0 then (some ((-1 : Int32), w)) else (if x3 ≤ (sh_most (ww_texts w)) then (if 0 ≤ x3 then (Option.bind (f_X3_makeOne 4 60 (ww_texts w) x2 x3 x4) (fun q33 => some (x3, (ww_set_texts w q33)))) else (Option.bind (f_X5_refuse w (5 : Int32)) (fun q24 => some (q24.1, q24.2)))) else (some ((-1 : Int32), w))))
set_option maxRecDepth 100000 in
set_option maxHeartbeats 8000000 in
theorem c_X5_makeAnew_texts (l : Launch) (G : GG) (a : Nat → Nat) (o : Nat) (w : Ww) (x2 : Int32) (x3 : Int32) (x4 : Int32) (out : Int32 × Ww) (hf : f_X5_makeAnew_texts w x2 x3 x4 = some out) : Cn l G 2 yX5_makeAnew cX5_makeAnew 5 (some .int) [.ref (a o), .ref (a (o + 12)), .int x2, .int x3, .int x4] (bWw G a o w) (some (.int out.1)) (bWw G a o out.2) := by
  refine cn_start (by decide) (Nat.le_of_ble_eq_true rfl) ?_
  intro p e s m below meth c A ls C0 hW hl
  have hx := C0.1
  have hb := C0.2.1
  have hl : lv_has ls 5 [(0, .ref (a o)), (1, .ref (a (o + 12))), (2, .int x2), (3, .int x3), (4, .int x4)] := hl
  obtain ⟨r, hr⟩ : ∃ r, f_X5_makeAnew_texts w x2 x3 x4 = some r ∧ r = out := ⟨out, hf, rfl⟩
  replace hf := hr.1
  have hF := hr.2
  clear hr
  unfold f_X5_makeAnew_texts at hf
  refine lv_aload_n hx hb dX5_makeAnew_0 rfl (lv_at hl 1 rfl) ?_
  refine lv_iload_n hx hb dX5_makeAnew_1 rfl (lv_at hl 2 rfl) ?_
  obtain ⟨q2, hq2⟩ := ob_s hf
  replace hf := hq2.2
  replace hq2 := hq2.1
  refine bV1 (rest := []) (bs := bsWw G a o w) (bs1 := bsWw G a o w) (st1 := [.int q2]) C0 hW hl.1 (c_X3_isNumber l G a (o + 12) 4 60 (ww_texts w) x2 _ hq2) cb_X3_isNumber mm_X5_92 ([8, 9, 10, 11, 12]) ([0, 1, 2, 3, 4, 5, 6, 7, 13, 14, 15, 16, 17, 18, 19, 20, 21, 22, 23, 24]) (ap_8_9_10_11_12) (ac_8_9_10_11_12 (w := w)) (ac_8_9_10_11_12 (w := w)) rfl rfl rfl 0 3 rfl rfl rfl (by decide) rfl rfl (Nat.le_of_ble_eq_true rfl) ⟨Nat.zero_le _, Nat.zero_le _⟩ dX5_makeAnew_2 rfl (fun H locs hW => ?_)
  refine lv_if_eq (tgt := 16) hx hb dX5_makeAnew_5 (by decide) (fun c5_1 => ?_) (fun c5_1 => ?_)
  · replace hf := if_t c5_1 hf
    refine lv_iconst (v := -1) hx hb dX5_makeAnew_16 (by decide) ?_
    have e1 := Option.some.inj hf
    subst e1
    have hF : (((-1 : Int32), w) : Int32 × Ww) = out := hF
    subst hF
    exact k_iret C0 hW dX5_makeAnew_17
  · replace hf := if_f c5_1 hf
    refine lv_iload_n hx hb dX5_makeAnew_8 rfl (lv_at hl 3 rfl) ?_
    refine lv_aload_n hx hb dX5_makeAnew_9 rfl (lv_at hl 1 rfl) ?_
    refine k_get C0 hW 3 0 12 (v := .int (sh_most (ww_texts w))) rfl (by decide) inX3 mf_X5_284 rfl rfl dX5_makeAnew_10 ?_
    refine lv_icmp_le (tgt := 18) hx hb dX5_makeAnew_13 (by decide) (fun c13_2 => ?_) (fun c13_2 => ?_)
    · replace hf := if_t c13_2 hf
      refine lv_iload_n hx hb dX5_makeAnew_18 rfl (lv_at hl 3 rfl) ?_
      refine lv_if_ge (tgt := 28) hx hb dX5_makeAnew_19 (by decide) (fun c19_3 => ?_) (fun c19_3 => ?_)
      · replace hf := if_t c19_3 hf
        refine lv_aload_n hx hb dX5_makeAnew_28 rfl (lv_at hl 1 rfl) ?_
        refine lv_iload_n hx hb dX5_makeAnew_29 rfl (lv_at hl 2 rfl) ?_
        refine lv_iload_n hx hb dX5_makeAnew_30 rfl (lv_at hl 3 rfl) ?_
        refine lv_iload hx hb dX5_makeAnew_31 (lv_at hl 4 rfl) ?_
        obtain ⟨q33, hq33⟩ := ob_s hf
        replace hf := hq33.2
        replace hq33 := hq33.1
        refine bV1 (rest := []) (bs := bsWw G a o w) (bs1 := bsWw G a o (ww_set_texts w q33)) (st1 := []) C0 hW hl.1 (c_X3_makeOne l G a (o + 12) 4 60 (ww_texts w) x2 x3 x4 _ hq33) cb_X3_makeOne mm_X5_193 ([8, 9, 10, 11, 12]) ([0, 1, 2, 3, 4, 5, 6, 7, 13, 14, 15, 16, 17, 18, 19, 20, 21, 22, 23, 24]) (ap_8_9_10_11_12) (ac_8_9_10_11_12 (w := w)) (ad_8_9_10_11_12_w (w := w)) (ar_8_9_10_11_12_w (w := w)) rfl (as_8_9_10_11_12_w (w := w)) 0 3 rfl rfl rfl (by decide) rfl rfl (Nat.le_of_ble_eq_true rfl) ⟨Nat.zero_le _, Nat.zero_le _⟩ dX5_makeAnew_33 rfl (fun H locs hW => ?_)
        refine lv_iload_n hx hb dX5_makeAnew_36 rfl (lv_at hl 3 rfl) ?_
        have e1 := Option.some.inj hf
        subst e1
        have hF : ((x3, (ww_set_texts w q33)) : Int32 × Ww) = out := hF
        subst hF
        exact k_iret C0 hW dX5_makeAnew_37
      · replace hf := if_f c19_3 hf
        refine lv_aload_n hx hb dX5_makeAnew_22 rfl (lv_at hl 0 rfl) ?_
        refine lv_iconst (v := 5) hx hb dX5_makeAnew_23 (by decide) ?_
        obtain ⟨q24, hq24⟩ := ob_s hf
        replace hf := hq24.2
        replace hq24 := hq24.1
        refine cW1 (rest := []) (ws1 := (bWw G a o q24.2)) (st1 := [.int q24.1]) C0 hW hl.1 (c_X5_refuse l G a o w (5 : Int32) _ hq24) cb_X5_refuse mm_X5_96 fst_Ww 0 5 rfl rfl rfl (by decide) rfl rfl (Nat.le_of_ble_eq_true rfl) ⟨Nat.zero_le _, Nat.zero_le _⟩ dX5_makeAnew_24 rfl (fun H locs hW => ?_)
        have e1 := Option.some.inj hf
        subst e1
        have hF : ((q24.1, q24.2) : Int32 × Ww) = out := hF
        subst hF
        exact k_iret C0 hW dX5_makeAnew_27
    · replace hf := if_f c13_2 hf
      refine lv_iconst (v := -1) hx hb dX5_makeAnew_16 (by decide) ?_
      have e1 := Option.some.inj hf
      subst e1
      have hF : (((-1 : Int32), w) : Int32 × Ww) = out := hF
      subst hF
      exact k_iret C0 hW dX5_makeAnew_17

def f_X5_text (w : Ww) (x1 : Int32) (x2 : Int32) : Option (Int32 × Ww) :=
  Option.bind (f_X5_makeAnew_texts w x1 x2 (32 : Int32)) (fun q9 => some (q9.1, q9.2))
set_option maxRecDepth 100000 in
set_option maxHeartbeats 8000000 in
theorem c_X5_text (l : Launch) (G : GG) (a : Nat → Nat) (o : Nat) (w : Ww) (x1 : Int32) (x2 : Int32) (out : Int32 × Ww) (hf : f_X5_text w x1 x2 = some out) : Cn l G 3 yX5_text cX5_text 3 (some .int) [.ref (a o), .int x1, .int x2] (bWw G a o w) (some (.int out.1)) (bWw G a o out.2) := by
  refine cn_start (by decide) (Nat.le_of_ble_eq_true rfl) ?_
  intro p e s m below meth c A ls C0 hW hl
  have hx := C0.1
  have hb := C0.2.1
  have hl : lv_has ls 3 [(0, .ref (a o)), (1, .int x1), (2, .int x2)] := hl
  obtain ⟨r, hr⟩ : ∃ r, f_X5_text w x1 x2 = some r ∧ r = out := ⟨out, hf, rfl⟩
  replace hf := hr.1
  have hF := hr.2
  clear hr
  unfold f_X5_text at hf
  refine lv_aload_n hx hb dX5_text_0 rfl (lv_at hl 0 rfl) ?_
  refine lv_aload_n hx hb dX5_text_1 rfl (lv_at hl 0 rfl) ?_
  refine k_get C0 hW 5 1 0 (v := .ref (a (o + 12))) rfl (by decide) inX5 mf_X5_18 rfl rfl dX5_text_2 ?_
  refine lv_iload_n hx hb dX5_text_5 rfl (lv_at hl 1 rfl) ?_
  refine lv_iload_n hx hb dX5_text_6 rfl (lv_at hl 2 rfl) ?_
  refine lv_bipush (v := 32) hx hb dX5_text_7 (by decide) ?_
  obtain ⟨q9, hq9⟩ := ob_s hf
  replace hf := hq9.2
  replace hq9 := hq9.1
  refine cW1 (rest := []) (ws1 := (bWw G a o q9.2)) (st1 := [.int q9.1]) C0 hW hl.1 (c_X5_makeAnew_texts l G a o w x1 x2 (32 : Int32) _ hq9) cb_X5_makeAnew mm_X5_64 fst_Ww 0 5 rfl rfl rfl (by decide) rfl rfl (Nat.le_of_ble_eq_true rfl) ⟨Nat.zero_le _, Nat.zero_le _⟩ dX5_text_9 rfl (fun H locs hW => ?_)
  have e1 := Option.some.inj hf
  subst e1
  have hF : ((q9.1, q9.2) : Int32 × Ww) = out := hF
  subst hF
  exact k_iret C0 hW dX5_text_12

def f_X5_turned (w : Ww) : Option (Int32 × Ww) :=
  Option.bind (f_X4_isEmpty (ct_wheel (ww_cart w))) (fun q7 => if q7 = 0 then (Option.bind (f_X0_bestStand (ww_aside w) (ct_wheel (ww_cart w))) (fun q23 => Option.bind (f_X5_tellBeside (ww_set_aside w q23.2) q23.1) (fun q26 => some (q26.1, q26.2)))) else (some ((-4 : Int32), w)))
set_option maxRecDepth 100000 in
set_option maxHeartbeats 8000000 in
theorem c_X5_turned (l : Launch) (G : GG) (a : Nat → Nat) (o : Nat) (w : Ww) (out : Int32 × Ww) (hf : f_X5_turned w = some out) : Cn l G 5 yX5_turned cX5_turned 1 (some .int) [.ref (a o)] (bWw G a o w) (some (.int out.1)) (bWw G a o out.2) := by
  refine cn_start (by decide) (Nat.le_of_ble_eq_true rfl) ?_
  intro p e s m below meth c A ls C0 hW hl
  have hx := C0.1
  have hb := C0.2.1
  have hl : lv_has ls 1 [(0, .ref (a o))] := hl
  obtain ⟨r, hr⟩ : ∃ r, f_X5_turned w = some r ∧ r = out := ⟨out, hf, rfl⟩
  replace hf := hr.1
  have hF := hr.2
  clear hr
  unfold f_X5_turned at hf
  refine lv_aload_n hx hb dX5_turned_0 rfl (lv_at hl 0 rfl) ?_
  refine k_get C0 hW 5 3 0 (v := .ref (a (o + 27))) rfl (by decide) inX5 mf_X5_31 rfl rfl dX5_turned_1 ?_
  refine k_get C0 hW 1 0 27 (v := .ref (a (o + 30))) rfl (by decide) inX1 mf_X5_45 rfl rfl dX5_turned_4 ?_
  obtain ⟨q7, hq7⟩ := ob_s hf
  replace hf := hq7.2
  replace hq7 := hq7.1
  refine bV1 (rest := []) (bs := bsWw G a o w) (bs1 := bsWw G a o w) (st1 := [.int q7]) C0 hW hl.1 (c_X4_isEmpty l G a (o + 30) (ct_wheel (ww_cart w)) _ hq7) cb_X4_isEmpty mm_X5_163 ([16]) ([0, 1, 2, 3, 4, 5, 6, 7, 8, 9, 10, 11, 12, 13, 14, 15, 17, 18, 19, 20, 21, 22, 23, 24]) (ap_16) (ac_16 (w := w)) (ac_16 (w := w)) rfl rfl rfl 0 4 rfl rfl rfl (by decide) rfl rfl (Nat.le_of_ble_eq_true rfl) ⟨Nat.zero_le _, Nat.zero_le _⟩ dX5_turned_7 rfl (fun H locs hW => ?_)
  refine lv_if_eq (tgt := 18) hx hb dX5_turned_10 (by decide) (fun c10_1 => ?_) (fun c10_1 => ?_)
  · replace hf := if_t c10_1 hf
    refine lv_aload_n hx hb dX5_turned_18 rfl (lv_at hl 0 rfl) ?_
    refine lv_aload_n hx hb dX5_turned_19 rfl (lv_at hl 0 rfl) ?_
    refine k_get C0 hW 5 5 0 (v := .ref (a (o + 63))) rfl (by decide) inX5 mf_X5_52 rfl rfl dX5_turned_20 ?_
    obtain ⟨q23, hq23⟩ := ob_s hf
    replace hf := hq23.2
    replace hq23 := hq23.1
    refine bV1 (rest := [.ref (a o)]) (bs := bsWw G a o w) (bs1 := bsWw G a o (ww_set_aside w q23.2)) (st1 := [.int q23.1, .ref (a o)]) C0 hW hl.1 (c_X0_bestStand l G a (o + 63) a (o + 30) (ww_aside w) (ct_wheel (ww_cart w)) _ hq23) cb_X0_bestStand mm_X5_203 ([23, 24, 16]) ([0, 1, 2, 3, 4, 5, 6, 7, 8, 9, 10, 11, 12, 13, 14, 15, 17, 18, 19, 20, 21, 22]) (ap_23_24_16) (ac_23_24_16 (w := w)) (ad_23_24_16_w (w := w)) (ar_23_24_16_w (w := w)) rfl (as_23_24_16_w (w := w)) 0 0 rfl rfl rfl (by decide) rfl rfl (Nat.le_of_ble_eq_true rfl) ⟨Nat.zero_le _, Nat.zero_le _⟩ dX5_turned_23 rfl (fun H locs hW => ?_)
    obtain ⟨q26, hq26⟩ := ob_s hf
    replace hf := hq26.2
    replace hq26 := hq26.1
    refine cW1 (rest := []) (ws1 := (bWw G a o q26.2)) (st1 := [.int q26.1]) C0 hW hl.1 (c_X5_tellBeside l G a o (ww_set_aside w q23.2) q23.1 _ hq26) cb_X5_tellBeside mm_X5_186 fst_Ww 0 5 rfl rfl rfl (by decide) rfl rfl (Nat.le_of_ble_eq_true rfl) ⟨Nat.zero_le _, Nat.zero_le _⟩ dX5_turned_26 rfl (fun H locs hW => ?_)
    have e1 := Option.some.inj hf
    subst e1
    have hF : ((q26.1, q26.2) : Int32 × Ww) = out := hF
    subst hF
    exact k_iret C0 hW dX5_turned_29
  · replace hf := if_f c10_1 hf
    refine lv_bipush (v := -4) hx hb dX5_turned_13 (by decide) ?_
    refine lv_goto (tgt := 29) hx hb dX5_turned_15 (by decide) ?_
    have e1 := Option.some.inj hf
    subst e1
    have hF : (((-4 : Int32), w) : Int32 × Ww) = out := hF
    subst hF
    exact k_iret C0 hW dX5_turned_29

def f_X5_undo (w : Ww) (x1 : Int32) : Option (Int32 × Ww) :=
  if x1 < 0 then (some ((-1 : Int32), w)) else (if x1 ≤ (ct_done (ww_cart w)) then (nm ((ct_done (ww_cart w)) - x1) (fun v26 => Option.bind (f_X1_goBack (ww_cart w) x1) (fun q32 => some (v26, (ww_set_cart w q32))))) else (some ((-1 : Int32), w)))
set_option maxRecDepth 100000 in
set_option maxHeartbeats 8000000 in
theorem c_X5_undo (l : Launch) (G : GG) (a : Nat → Nat) (o : Nat) (w : Ww) (x1 : Int32) (out : Int32 × Ww) (hf : f_X5_undo w x1 = some out) : Cn l G 5 yX5_undo cX5_undo 3 (some .int) [.ref (a o), .int x1] (bWw G a o w) (some (.int out.1)) (bWw G a o out.2) := by
  refine cn_start (by decide) (Nat.le_of_ble_eq_true rfl) ?_
  intro p e s m below meth c A ls C0 hW hl
  have hx := C0.1
  have hb := C0.2.1
  have hl : lv_has ls 3 [(0, .ref (a o)), (1, .int x1)] := hl
  obtain ⟨r, hr⟩ : ∃ r, f_X5_undo w x1 = some r ∧ r = out := ⟨out, hf, rfl⟩
  replace hf := hr.1
  have hF := hr.2
  clear hr
  unfold f_X5_undo at hf
  refine lv_iload_n hx hb dX5_undo_0 rfl (lv_at hl 1 rfl) ?_
  refine lv_if_lt (tgt := 15) hx hb dX5_undo_1 (by decide) (fun c1_1 => ?_) (fun c1_1 => ?_)
  · replace hf := if_t c1_1 hf
    refine lv_iconst (v := -1) hx hb dX5_undo_15 (by decide) ?_
    have e1 := Option.some.inj hf
    subst e1
    have hF : (((-1 : Int32), w) : Int32 × Ww) = out := hF
    subst hF
    exact k_iret C0 hW dX5_undo_16
  · replace hf := if_f c1_1 hf
    refine lv_iload_n hx hb dX5_undo_4 rfl (lv_at hl 1 rfl) ?_
    refine lv_aload_n hx hb dX5_undo_5 rfl (lv_at hl 0 rfl) ?_
    refine k_get C0 hW 5 3 0 (v := .ref (a (o + 27))) rfl (by decide) inX5 mf_X5_31 rfl rfl dX5_undo_6 ?_
    refine k_get C0 hW 1 3 27 (v := .int (ct_done (ww_cart w))) rfl (by decide) inX1 mf_X5_39 rfl rfl dX5_undo_9 ?_
    refine lv_icmp_le (tgt := 17) hx hb dX5_undo_12 (by decide) (fun c12_2 => ?_) (fun c12_2 => ?_)
    · replace hf := if_t c12_2 hf
      refine lv_aload_n hx hb dX5_undo_17 rfl (lv_at hl 0 rfl) ?_
      refine k_get C0 hW 5 3 0 (v := .ref (a (o + 27))) rfl (by decide) inX5 mf_X5_31 rfl rfl dX5_undo_18 ?_
      refine k_get C0 hW 1 3 27 (v := .int (ct_done (ww_cart w))) rfl (by decide) inX1 mf_X5_39 rfl rfl dX5_undo_21 ?_
      refine lv_iload_n hx hb dX5_undo_24 rfl (lv_at hl 1 rfl) ?_
      refine lv_isub hx hb dX5_undo_25 ?_
      refine lv_topi (fun v26 ev26 => ?_)
      replace hf := nm_s ev26 hf
      refine lv_istore_n (lv' := [(2, .int v26), (0, .ref (a o)), (1, .int x1)]) hx hb dX5_undo_26 rfl hl (by decide) rfl (fun ls hl => ?_)
      refine lv_aload_n hx hb dX5_undo_27 rfl (lv_at hl 1 rfl) ?_
      refine k_get C0 hW 5 3 0 (v := .ref (a (o + 27))) rfl (by decide) inX5 mf_X5_31 rfl rfl dX5_undo_28 ?_
      refine lv_iload_n hx hb dX5_undo_31 rfl (lv_at hl 2 rfl) ?_
      obtain ⟨q32, hq32⟩ := ob_s hf
      replace hf := hq32.2
      replace hq32 := hq32.1
      refine bV1 (rest := []) (bs := bsWw G a o w) (bs1 := bsWw G a o (ww_set_cart w q32)) (st1 := []) C0 hW hl.1 (c_X1_goBack l G a (o + 27) (ww_cart w) x1 _ hq32) cb_X1_goBack mm_X5_176 ([15, 16]) ([0, 1, 2, 3, 4, 5, 6, 7, 8, 9, 10, 11, 12, 13, 14, 17, 18, 19, 20, 21, 22, 23, 24]) (ap_15_16) (ac_15_16 (w := w)) (ad_15_16_w (w := w)) (ar_15_16_w (w := w)) rfl (as_15_16_w (w := w)) 0 1 rfl rfl rfl (by decide) rfl rfl (Nat.le_of_ble_eq_true rfl) ⟨Nat.zero_le _, Nat.zero_le _⟩ dX5_undo_32 rfl (fun H locs hW => ?_)
      refine lv_iload_n hx hb dX5_undo_35 rfl (lv_at hl 0 rfl) ?_
      have e1 := Option.some.inj hf
      subst e1
      have hF : ((v26, (ww_set_cart w q32)) : Int32 × Ww) = out := hF
      subst hF
      exact k_iret C0 hW dX5_undo_36
    · replace hf := if_f c12_2 hf
      refine lv_iconst (v := -1) hx hb dX5_undo_15 (by decide) ?_
      have e1 := Option.some.inj hf
      subst e1
      have hF : (((-1 : Int32), w) : Int32 × Ww) = out := hF
      subst hF
      exact k_iret C0 hW dX5_undo_16

def f_X5_upper (w : Ww) : Option (Int64) :=
  some (ww_upperLast w)
set_option maxRecDepth 100000 in
set_option maxHeartbeats 8000000 in
theorem c_X5_upper (l : Launch) (G : GG) (a : Nat → Nat) (o : Nat) (w : Ww) (out : Int64) (hf : f_X5_upper w = some out) : Cn l G 0 yX5_upper cX5_upper 1 (some .long) [.ref (a o)] (bWw G a o w) (some (.long out)) (bWw G a o w) := by
  refine cn_start (by decide) (Nat.le_of_ble_eq_true rfl) ?_
  intro p e s m below meth c A ls C0 hW hl
  have hx := C0.1
  have hb := C0.2.1
  have hl : lv_has ls 1 [(0, .ref (a o))] := hl
  obtain ⟨r, hr⟩ : ∃ r, f_X5_upper w = some r ∧ r = out := ⟨out, hf, rfl⟩
  replace hf := hr.1
  have hF := hr.2
  clear hr
  unfold f_X5_upper at hf
  refine lv_aload_n hx hb dX5_upper_0 rfl (lv_at hl 0 rfl) ?_
  refine k_get C0 hW 5 9 0 (v := .long (ww_upperLast w)) rfl (by decide) inX5 mf_X5_260 rfl rfl dX5_upper_1 ?_
  have e1 := Option.some.inj hf
  subst e1
  have hF : ((ww_upperLast w) : Int64) = out := hF
  subst hF
  exact k_lret C0 hW dX5_upper_4

def f_X5_weather (w : Ww) : Option (Int32 × Ww) :=
  Option.bind (f_X4_isEmpty (ct_wheel (ww_cart w))) (fun q7 => if q7 = 0 then (Option.bind (f_X5_doDeed w (2 : Int32) (0 : Int32)) (fun q21 => some (q21.1, q21.2))) else (some ((-4 : Int32), w)))
set_option maxRecDepth 100000 in
set_option maxHeartbeats 8000000 in
theorem c_X5_weather (l : Launch) (G : GG) (a : Nat → Nat) (o : Nat) (w : Ww) (out : Int32 × Ww) (hf : f_X5_weather w = some out) : Cn l G 6 yX5_weather cX5_weather 1 (some .int) [.ref (a o)] (bWw G a o w) (some (.int out.1)) (bWw G a o out.2) := by
  refine cn_start (by decide) (Nat.le_of_ble_eq_true rfl) ?_
  intro p e s m below meth c A ls C0 hW hl
  have hx := C0.1
  have hb := C0.2.1
  have hl : lv_has ls 1 [(0, .ref (a o))] := hl
  obtain ⟨r, hr⟩ : ∃ r, f_X5_weather w = some r ∧ r = out := ⟨out, hf, rfl⟩
  replace hf := hr.1
  have hF := hr.2
  clear hr
  unfold f_X5_weather at hf
  refine lv_aload_n hx hb dX5_weather_0 rfl (lv_at hl 0 rfl) ?_
  refine k_get C0 hW 5 3 0 (v := .ref (a (o + 27))) rfl (by decide) inX5 mf_X5_31 rfl rfl dX5_weather_1 ?_
  refine k_get C0 hW 1 0 27 (v := .ref (a (o + 30))) rfl (by decide) inX1 mf_X5_45 rfl rfl dX5_weather_4 ?_
  obtain ⟨q7, hq7⟩ := ob_s hf
  replace hf := hq7.2
  replace hq7 := hq7.1
  refine bV1 (rest := []) (bs := bsWw G a o w) (bs1 := bsWw G a o w) (st1 := [.int q7]) C0 hW hl.1 (c_X4_isEmpty l G a (o + 30) (ct_wheel (ww_cart w)) _ hq7) cb_X4_isEmpty mm_X5_163 ([16]) ([0, 1, 2, 3, 4, 5, 6, 7, 8, 9, 10, 11, 12, 13, 14, 15, 17, 18, 19, 20, 21, 22, 23, 24]) (ap_16) (ac_16 (w := w)) (ac_16 (w := w)) rfl rfl rfl 0 4 rfl rfl rfl (by decide) rfl rfl (Nat.le_of_ble_eq_true rfl) ⟨Nat.zero_le _, Nat.zero_le _⟩ dX5_weather_7 rfl (fun H locs hW => ?_)
  refine lv_if_eq (tgt := 18) hx hb dX5_weather_10 (by decide) (fun c10_1 => ?_) (fun c10_1 => ?_)
  · replace hf := if_t c10_1 hf
    refine lv_aload_n hx hb dX5_weather_18 rfl (lv_at hl 0 rfl) ?_
    refine lv_iconst (v := 2) hx hb dX5_weather_19 (by decide) ?_
    refine lv_iconst (v := 0) hx hb dX5_weather_20 (by decide) ?_
    obtain ⟨q21, hq21⟩ := ob_s hf
    replace hf := hq21.2
    replace hq21 := hq21.1
    refine cW1 (rest := []) (ws1 := (bWw G a o q21.2)) (st1 := [.int q21.1]) C0 hW hl.1 (c_X5_doDeed l G a o w (2 : Int32) (0 : Int32) _ hq21) cb_X5_doDeed mm_X5_170 fst_Ww 0 5 rfl rfl rfl (by decide) rfl rfl (Nat.le_of_ble_eq_true rfl) ⟨Nat.zero_le _, Nat.zero_le _⟩ dX5_weather_21 rfl (fun H locs hW => ?_)
    have e1 := Option.some.inj hf
    subst e1
    have hF : ((q21.1, q21.2) : Int32 × Ww) = out := hF
    subst hF
    exact k_iret C0 hW dX5_weather_24
  · replace hf := if_f c10_1 hf
    refine lv_bipush (v := -4) hx hb dX5_weather_13 (by decide) ?_
    refine lv_goto (tgt := 24) hx hb dX5_weather_15 (by decide) ?_
    have e1 := Option.some.inj hf
    subst e1
    have hF : (((-4 : Int32), w) : Int32 × Ww) = out := hF
    subst hF
    exact k_iret C0 hW dX5_weather_24

def f_X5_wheel_J84 (w : Ww) : Option (Int32 × Ww) :=
  some ((wh_spokes (ct_wheel (ww_cart w))), w)
def f_X5_wheel_B63 (x3 : Int32) (w : Ww) : Option ((Int32 × Ww) ⊕ (Int32 × Ww)) :=
  if (3 : Int32) ≤ x3 then (Option.map Sum.inr (f_X5_wheel_J84 w)) else (if x3 = 0 then (some (Sum.inl ((x3 + (1 : Int32)), (ww_set_kept w (updK (ww_kept w) 0 (ct_set_done (ww_kept w 0) (-1 : Int32))))))) else if x3 = 1 then (some (Sum.inl ((x3 + (1 : Int32)), (ww_set_kept w (updK (ww_kept w) 1 (ct_set_done (ww_kept w 1) (-1 : Int32))))))) else if x3 = 2 then (some (Sum.inl ((x3 + (1 : Int32)), (ww_set_kept w (updK (ww_kept w) 2 (ct_set_done (ww_kept w 2) (-1 : Int32))))))) else none)
def f_X5_wheel_L63 (sg : Int32 × Ww) : Option ((Int32 × Ww) ⊕ (Int32 × Ww)) := f_X5_wheel_B63 sg.1 sg.2
def f_X5_wheel (w : Ww) (x1 : Int32) : Option (Int32 × Ww) :=
  Option.bind (f_X5_refuseMissing_texts w x1) (fun q6 => if q6.1 = 0 then (Option.bind (f_X3_placesOf 4 60 (ww_texts q6.2) x1) (fun q25 => Option.bind (f_X3_sizeOf 4 60 (ww_texts q6.2) x1) (fun q33 => Option.bind (f_X2_read 60 (ww_reader q6.2) ((sh_places (ww_texts q6.2)) q25) q33) (fun q36 => if q36.1 = (-9 : Int32) then (Option.bind (f_X1_begin (ww_cart q6.2) (rd_draft q36.2)) (fun q58 => lp (f_X5_wheel_L63) fuel ((0 : Int32), (ww_set_cart (ww_set_reader q6.2 q36.2) q58)))) else (some ((-4 : Int32), (ww_set_reader q6.2 q36.2))))))) else (some (q6.1, q6.2)))
set_option maxRecDepth 100000 in
set_option maxHeartbeats 8000000 in
theorem c_X5_wheel (l : Launch) (G : GG) (a : Nat → Nat) (o : Nat) (w : Ww) (x1 : Int32) (out : Int32 × Ww) (hf : f_X5_wheel w x1 = some out) : Cn l G 4 yX5_wheel cX5_wheel 4 (some .int) [.ref (a o), .int x1] (bWw G a o w) (some (.int out.1)) (bWw G a o out.2) := by
  refine cn_start (by decide) (Nat.le_of_ble_eq_true rfl) ?_
  intro p e s m below meth c A ls C0 hW hl
  have hx := C0.1
  have hb := C0.2.1
  have hl : lv_has ls 4 [(0, .ref (a o)), (1, .int x1)] := hl
  have J84 : ∀ (w : Ww) (r : Int32 × Ww), f_X5_wheel_J84 w = some r → (fun (r : Int32 × Ww) => r = out) r → ∀ (H : Heap) (locs : List Loc) (ls : Array Slot), Wd G A s.heap H (bWw G a o w) locs → lv_has ls 4 [(0, .ref (a o))] → WW p l e 4 s m [.ref (a o), .int x1] below meth c G A (some (.int out.1)) ((bWw G a o out.2)) H locs 84 ls [] := by
    intro w r hf hF H locs ls hW hl
    unfold f_X5_wheel_J84 at hf
    refine lv_aload_n hx hb dX5_wheel_84 rfl (lv_at hl 0 rfl) ?_
    refine k_get C0 hW 5 3 0 (v := .ref (a (o + 27))) rfl (by decide) inX5 mf_X5_31 rfl rfl dX5_wheel_85 ?_
    refine k_get C0 hW 1 0 27 (v := .ref (a (o + 30))) rfl (by decide) inX1 mf_X5_45 rfl rfl dX5_wheel_88 ?_
    refine k_get C0 hW 4 5 30 (v := .int (wh_spokes (ct_wheel (ww_cart w)))) rfl (by decide) inX4 mf_X5_131 rfl rfl dX5_wheel_91 ?_
    have e1 := Option.some.inj hf
    subst e1
    have hF : (((wh_spokes (ct_wheel (ww_cart w))), w) : Int32 × Ww) = out := hF
    subst hF
    exact k_iret C0 hW dX5_wheel_94
  have L63 : ∀ (k8 : Nat) (sg : Int32 × Ww) (o9 : Int32 × Ww), lp (f_X5_wheel_L63) k8 sg = some o9 → (fun (r : Int32 × Ww) => r = out) o9 → (fun (sg : Int32 × Ww) => ∀ (H : Heap) (locs : List Loc) (ls : Array Slot), Wd G A s.heap H (bWw G a o sg.2) locs → lv_has ls 4 [(0, .ref (a o)), (3, .int sg.1)] → WW p l e 4 s m [.ref (a o), .int x1] below meth c G A (some (.int out.1)) ((bWw G a o out.2)) H locs 63 ls []) sg := by
    have B63 : ∀ (x3 : Int32) (w : Ww) (r : (Int32 × Ww) ⊕ (Int32 × Ww)), f_X5_wheel_B63 x3 w = some r → (Sum.elim (fun (sg : Int32 × Ww) => ∀ (H : Heap) (locs : List Loc) (ls : Array Slot), Wd G A s.heap H (bWw G a o sg.2) locs → lv_has ls 4 [(0, .ref (a o)), (3, .int sg.1)] → WW p l e 4 s m [.ref (a o), .int x1] below meth c G A (some (.int out.1)) ((bWw G a o out.2)) H locs 63 ls []) (fun (r : Int32 × Ww) => r = out)) r → ∀ (H : Heap) (locs : List Loc) (ls : Array Slot), Wd G A s.heap H (bWw G a o w) locs → lv_has ls 4 [(0, .ref (a o)), (3, .int x3)] → WW p l e 4 s m [.ref (a o), .int x1] below meth c G A (some (.int out.1)) ((bWw G a o out.2)) H locs 63 ls [] := by
      intro x3 w r hf hF H locs ls hW hl
      unfold f_X5_wheel_B63 at hf
      refine lv_iload_n hx hb dX5_wheel_63 rfl (lv_at hl 1 rfl) ?_
      refine lv_iconst (v := 3) hx hb dX5_wheel_64 (by decide) ?_
      refine lv_icmp_ge (tgt := 84) hx hb dX5_wheel_65 (by decide) (fun c65_3 => ?_) (fun c65_3 => ?_)
      · replace hf := if_t c65_3 hf
        obtain ⟨r2, e2⟩ := om_s hf
        replace hf := e2.1
        replace e2 := e2.2
        subst e2
        replace hF := elim_r hF
        exact J84 _ _ hf hF _ _ _ hW (lv_sub hl [0] rfl)
      · replace hf := if_f c65_3 hf
        refine lv_aload_n hx hb dX5_wheel_68 rfl (lv_at hl 0 rfl) ?_
        refine k_get C0 hW 5 4 0 (v := .ref (a (o + 2))) rfl (by decide) inX5 mf_X5_35 rfl rfl dX5_wheel_69 ?_
        refine lv_iload_n hx hb dX5_wheel_72 rfl (lv_at hl 1 rfl) ?_
        by_cases hk9 : x3 = 0
        · replace hf := if_t hk9 hf
          refine k_aaldC C0 hW 2 (b := a (o + 36)) rfl (by rw [hk9]; exact inb_in rfl) (by rw [hk9]; rfl) dX5_wheel_73 ?_
          refine lv_iconst (v := -1) hx hb dX5_wheel_74 (by decide) ?_
          refine k_put C0 hW 1 3 36 rfl (by decide) inX1 tyX1_ok nmX1 mf_X5_39 rfl rfl rfl rfl (Nat.le_of_ble_eq_true rfl) dX5_wheel_75 (fun H locs hW => ?_)
          have hW : Wd G A s.heap H (bWw G a o (ww_set_kept w (updK (ww_kept w) 0 (ct_set_done (ww_kept w 0) (-1 : Int32))))) locs := hW
          refine lv_iinc (v := (x3 + (1 : Int32))) (lv' := [(3, .int (x3 + (1 : Int32))), (0, .ref (a o))]) hx hb dX5_wheel_78 hl (k := 1) rfl rfl (by decide) rfl (fun ls hl => ?_)
          refine lv_goto (tgt := 63) hx hb dX5_wheel_81 (by decide) ?_
          have e1 := Option.some.inj hf
          subst e1
          exact (elim_l hF) _ _ _ hW (lv_sub hl [1, 0] rfl)
        replace hf := if_f hk9 hf
        by_cases hk9 : x3 = 1
        · replace hf := if_t hk9 hf
          refine k_aaldC C0 hW 2 (b := a (o + 45)) rfl (by rw [hk9]; exact inb_in rfl) (by rw [hk9]; rfl) dX5_wheel_73 ?_
          refine lv_iconst (v := -1) hx hb dX5_wheel_74 (by decide) ?_
          refine k_put C0 hW 1 3 45 rfl (by decide) inX1 tyX1_ok nmX1 mf_X5_39 rfl rfl rfl rfl (Nat.le_of_ble_eq_true rfl) dX5_wheel_75 (fun H locs hW => ?_)
          have hW : Wd G A s.heap H (bWw G a o (ww_set_kept w (updK (ww_kept w) 1 (ct_set_done (ww_kept w 1) (-1 : Int32))))) locs := hW
          refine lv_iinc (v := (x3 + (1 : Int32))) (lv' := [(3, .int (x3 + (1 : Int32))), (0, .ref (a o))]) hx hb dX5_wheel_78 hl (k := 1) rfl rfl (by decide) rfl (fun ls hl => ?_)
          refine lv_goto (tgt := 63) hx hb dX5_wheel_81 (by decide) ?_
          have e1 := Option.some.inj hf
          subst e1
          exact (elim_l hF) _ _ _ hW (lv_sub hl [1, 0] rfl)
        replace hf := if_f hk9 hf
        by_cases hk9 : x3 = 2
        · replace hf := if_t hk9 hf
          refine k_aaldC C0 hW 2 (b := a (o + 54)) rfl (by rw [hk9]; exact inb_in rfl) (by rw [hk9]; rfl) dX5_wheel_73 ?_
          refine lv_iconst (v := -1) hx hb dX5_wheel_74 (by decide) ?_
          refine k_put C0 hW 1 3 54 rfl (by decide) inX1 tyX1_ok nmX1 mf_X5_39 rfl rfl rfl rfl (Nat.le_of_ble_eq_true rfl) dX5_wheel_75 (fun H locs hW => ?_)
          have hW : Wd G A s.heap H (bWw G a o (ww_set_kept w (updK (ww_kept w) 2 (ct_set_done (ww_kept w 2) (-1 : Int32))))) locs := hW
          refine lv_iinc (v := (x3 + (1 : Int32))) (lv' := [(3, .int (x3 + (1 : Int32))), (0, .ref (a o))]) hx hb dX5_wheel_78 hl (k := 1) rfl rfl (by decide) rfl (fun ls hl => ?_)
          refine lv_goto (tgt := 63) hx hb dX5_wheel_81 (by decide) ?_
          have e1 := Option.some.inj hf
          subst e1
          exact (elim_l hF) _ _ _ hW (lv_sub hl [1, 0] rfl)
        replace hf := if_f hk9 hf
        cases hf
    exact lp_sound (fun sg r hb hz => B63 sg.1 sg.2 r hb hz)
  obtain ⟨r, hr⟩ : ∃ r, f_X5_wheel w x1 = some r ∧ r = out := ⟨out, hf, rfl⟩
  replace hf := hr.1
  have hF := hr.2
  clear hr
  unfold f_X5_wheel at hf
  refine lv_aload_n hx hb dX5_wheel_0 rfl (lv_at hl 0 rfl) ?_
  refine lv_aload_n hx hb dX5_wheel_1 rfl (lv_at hl 0 rfl) ?_
  refine k_get C0 hW 5 1 0 (v := .ref (a (o + 12))) rfl (by decide) inX5 mf_X5_18 rfl rfl dX5_wheel_2 ?_
  refine lv_iload_n hx hb dX5_wheel_5 rfl (lv_at hl 1 rfl) ?_
  obtain ⟨q6, hq6⟩ := ob_s hf
  replace hf := hq6.2
  replace hq6 := hq6.1
  refine cW1 (rest := []) (ws1 := (bWw G a o q6.2)) (st1 := [.int q6.1]) C0 hW hl.1 (c_X5_refuseMissing_texts l G a o w x1 _ hq6) cb_X5_refuseMissing mm_X5_84 fst_Ww 0 5 rfl rfl rfl (by decide) rfl rfl (Nat.le_of_ble_eq_true rfl) ⟨Nat.zero_le _, Nat.zero_le _⟩ dX5_wheel_6 rfl (fun H locs hW => ?_)
  refine lv_istore_n (lv' := [(2, .int q6.1), (0, .ref (a o)), (1, .int x1)]) hx hb dX5_wheel_9 rfl hl (by decide) rfl (fun ls hl => ?_)
  refine lv_iload_n hx hb dX5_wheel_10 rfl (lv_at hl 0 rfl) ?_
  refine lv_if_eq (tgt := 16) hx hb dX5_wheel_11 (by decide) (fun c11_1 => ?_) (fun c11_1 => ?_)
  · replace hf := if_t c11_1 hf
    refine lv_aload_n hx hb dX5_wheel_16 rfl (lv_at hl 1 rfl) ?_
    refine k_get C0 hW 5 2 0 (v := .ref (a (o + 19))) rfl (by decide) inX5 mf_X5_24 rfl rfl dX5_wheel_17 ?_
    refine lv_aload_n hx hb dX5_wheel_20 rfl (lv_at hl 1 rfl) ?_
    refine k_get C0 hW 5 1 0 (v := .ref (a (o + 12))) rfl (by decide) inX5 mf_X5_18 rfl rfl dX5_wheel_21 ?_
    refine lv_iload_n hx hb dX5_wheel_24 rfl (lv_at hl 2 rfl) ?_
    obtain ⟨q25, hq25⟩ := ob_s hf
    replace hf := hq25.2
    replace hq25 := hq25.1
    refine bV1 (rest := [.ref (a (o + 19))]) (bs := bsWw G a o q6.2) (bs1 := bsWw G a o q6.2) (st1 := [.ref (a (o + 15 + q25)), .ref (a (o + 19))]) C0 hW hl.1 (c_X3_placesOf l G a (o + 12) 4 60 (ww_texts q6.2) x1 _ hq25) cb_X3_placesOf mm_X5_117 ([8, 9, 10, 11, 12]) ([0, 1, 2, 3, 4, 5, 6, 7, 13, 14, 15, 16, 17, 18, 19, 20, 21, 22, 23, 24]) (ap_8_9_10_11_12) (ac_8_9_10_11_12 (w := q6.2)) (ac_8_9_10_11_12 (w := q6.2)) rfl rfl rfl 0 3 rfl rfl rfl (by decide) rfl rfl (Nat.le_of_ble_eq_true rfl) ⟨Nat.zero_le _, Nat.zero_le _⟩ dX5_wheel_25 rfl (fun H locs hW => ?_)
    have hlt25 := placesOf_4 hq25
    refine lv_aload_n hx hb dX5_wheel_28 rfl (lv_at hl 1 rfl) ?_
    refine k_get C0 hW 5 1 0 (v := .ref (a (o + 12))) rfl (by decide) inX5 mf_X5_18 rfl rfl dX5_wheel_29 ?_
    refine lv_iload_n hx hb dX5_wheel_32 rfl (lv_at hl 2 rfl) ?_
    obtain ⟨q33, hq33⟩ := ob_s hf
    replace hf := hq33.2
    replace hq33 := hq33.1
    refine bV1 (rest := [.ref (a (o + 15 + q25)), .ref (a (o + 19))]) (bs := bsWw G a o q6.2) (bs1 := bsWw G a o q6.2) (st1 := [.int q33, .ref (a (o + 15 + q25)), .ref (a (o + 19))]) C0 hW hl.1 (c_X3_sizeOf l G a (o + 12) 4 60 (ww_texts q6.2) x1 _ hq33) cb_X3_sizeOf mm_X5_110 ([8, 9, 10, 11, 12]) ([0, 1, 2, 3, 4, 5, 6, 7, 13, 14, 15, 16, 17, 18, 19, 20, 21, 22, 23, 24]) (ap_8_9_10_11_12) (ac_8_9_10_11_12 (w := q6.2)) (ac_8_9_10_11_12 (w := q6.2)) rfl rfl rfl 0 3 rfl rfl rfl (by decide) rfl rfl (Nat.le_of_ble_eq_true rfl) ⟨Nat.zero_le _, Nat.zero_le _⟩ dX5_wheel_33 rfl (fun H locs hW => ?_)
    obtain ⟨q36, hq36⟩ := ob_s hf
    replace hf := hq36.2
    replace hq36 := hq36.1
    refine bV1 (rest := []) (bs := bsWw G a o q6.2) (bs1 := bsWw G a o (ww_set_reader q6.2 q36.2)) (st1 := [.int q36.1]) C0 hW hl.1 (c_X2_read l G a (o + 19) (a (o + 15 + q25)) 60 (ww_reader q6.2) ((sh_places (ww_texts q6.2)) q25) q33 _ hq36) cb_X2_read mm_X5_121 ([13, 14, 9 + q25]) ([0, 1, 2, 3, 4, 5, 6, 7, 8, 15, 16, 17, 18, 19, 20, 21, 22, 23, 24] ++ ((List.range 4).filter (fun z => z != q25)).map (fun z => 9 + z)) (ap_13_14_9q hlt25) (ac_13_14_9q (w := q6.2) hlt25) (ad_13_14_9q_w (w := q6.2) hlt25) (ar_13_14_9q_w (w := q6.2) hlt25) rfl (as_13_14_9q_w (w := q6.2) hlt25) 0 2 rfl rfl rfl (by decide) rfl rfl (Nat.le_of_ble_eq_true rfl) ⟨Nat.zero_le _, Nat.zero_le _⟩ dX5_wheel_36 rfl (fun H locs hW => ?_)
    refine lv_bipush (v := -9) hx hb dX5_wheel_39 (by decide) ?_
    refine lv_icmp_eq (tgt := 47) hx hb dX5_wheel_41 (by decide) (fun c41_2 => ?_) (fun c41_2 => ?_)
    · replace hf := if_t c41_2 hf
      refine lv_aload_n hx hb dX5_wheel_47 rfl (lv_at hl 1 rfl) ?_
      refine k_get C0 hW 5 3 0 (v := .ref (a (o + 27))) rfl (by decide) inX5 mf_X5_31 rfl rfl dX5_wheel_48 ?_
      refine lv_aload_n hx hb dX5_wheel_51 rfl (lv_at hl 1 rfl) ?_
      refine k_get C0 hW 5 2 0 (v := .ref (a (o + 19))) rfl (by decide) inX5 mf_X5_24 rfl rfl dX5_wheel_52 ?_
      refine k_get C0 hW 2 0 19 (v := .ref (a (o + 21))) rfl (by decide) inX2 mf_X5_125 rfl rfl dX5_wheel_55 ?_
      obtain ⟨q58, hq58⟩ := ob_s hf
      replace hf := hq58.2
      replace hq58 := hq58.1
      refine bV1 (rest := []) (bs := bsWw G a o (ww_set_reader q6.2 q36.2)) (bs1 := bsWw G a o (ww_set_cart (ww_set_reader q6.2 q36.2) q58)) (st1 := []) C0 hW hl.1 (c_X1_begin l G a (o + 27) a (o + 21) (ww_cart q6.2) (rd_draft q36.2) _ hq58) cb_X1_begin mm_X5_128 ([15, 16, 14]) ([0, 1, 2, 3, 4, 5, 6, 7, 8, 9, 10, 11, 12, 13, 17, 18, 19, 20, 21, 22, 23, 24]) (ap_15_16_14) (ac_15_16_14 (w := (ww_set_reader q6.2 q36.2))) (ad_15_16_14_w (w := (ww_set_reader q6.2 q36.2))) (ar_15_16_14_w (w := (ww_set_reader q6.2 q36.2))) rfl (as_15_16_14_w (w := (ww_set_reader q6.2 q36.2))) 0 1 rfl rfl rfl (by decide) rfl rfl (Nat.le_of_ble_eq_true rfl) ⟨Nat.zero_le _, Nat.zero_le _⟩ dX5_wheel_58 rfl (fun H locs hW => ?_)
      refine lv_iconst (v := 0) hx hb dX5_wheel_61 (by decide) ?_
      refine lv_istore_n (lv' := [(3, .int (0 : Int32)), (2, .int q6.1), (0, .ref (a o)), (1, .int x1)]) hx hb dX5_wheel_62 rfl hl (by decide) rfl (fun ls hl => ?_)
      exact L63  fuel ((0 : Int32), (ww_set_cart (ww_set_reader q6.2 q36.2) q58)) _ hf hF _ _ _ hW (lv_sub hl [2, 0] rfl)
    · replace hf := if_f c41_2 hf
      refine lv_bipush (v := -4) hx hb dX5_wheel_44 (by decide) ?_
      have e1 := Option.some.inj hf
      subst e1
      have hF : (((-4 : Int32), (ww_set_reader q6.2 q36.2)) : Int32 × Ww) = out := hF
      subst hF
      exact k_iret C0 hW dX5_wheel_46
  · replace hf := if_f c11_1 hf
    refine lv_iload_n hx hb dX5_wheel_14 rfl (lv_at hl 0 rfl) ?_
    have e1 := Option.some.inj hf
    subst e1
    have hF : ((q6.1, q6.2) : Int32 × Ww) = out := hF
    subst hF
    exact k_iret C0 hW dX5_wheel_15
