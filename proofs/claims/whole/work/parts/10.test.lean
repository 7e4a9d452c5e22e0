def f_X4_goneOnes (w : Wh) : Option (Int32) :=
  some (((jshl (1 : Int32) (wh_spokes w)) - (1 : Int32)) &&& ((wh_there w) ^^^ (-1 : Int32)))
set_option maxRecDepth 100000 in
set_option maxHeartbeats 8000000 in
theorem c_X4_goneOnes (l : Launch) (G : GG) (a : Nat → Nat) (o : Nat) (w : Wh) (out : Int32) (hf : f_X4_goneOnes w = some out) : Cn l G 0 yX4_goneOnes cX4_goneOnes 1 (some .int) [.ref (a o)] (bWh G a o w) (some (.int out)) (bWh G a o w) := by
  refine cn_start (by decide) (Nat.le_of_ble_eq_true rfl) ?_
  intro p e s m below meth c A ls C0 hW hl
  have hx := C0.1
  have hb := C0.2.1
  have hl : lv_has ls 1 [(0, .ref (a o))] := hl
  obtain ⟨r, hr⟩ : ∃ r, f_X4_goneOnes w = some r ∧ r = out := ⟨out, hf, rfl⟩
  replace hf := hr.1
  have hF := hr.2
  clear hr
  unfold f_X4_goneOnes at hf
  refine lv_iconst (v := 1) hx hb dX4_goneOnes_0 (by decide) ?_
  refine lv_aload_n hx hb dX4_goneOnes_1 rfl (lv_at hl 0 rfl) ?_
  refine k_get C0 hW 4 5 0 (v := .int (wh_spokes w)) rfl (by decide) inX4 mf_X4_33 rfl rfl dX4_goneOnes_2 ?_
  refine lv_ishl hx hb dX4_goneOnes_5 ?_
  refine lv_iconst (v := 1) hx hb dX4_goneOnes_6 (by decide) ?_
  refine lv_isub hx hb dX4_goneOnes_7 ?_
  refine lv_aload_n hx hb dX4_goneOnes_8 rfl (lv_at hl 0 rfl) ?_
  refine k_get C0 hW 4 9 0 (v := .int (wh_there w)) rfl (by decide) inX4 mf_X4_46 rfl rfl dX4_goneOnes_9 ?_
  refine lv_iconst (v := -1) hx hb dX4_goneOnes_12 (by decide) ?_
  refine lv_ixor hx hb dX4_goneOnes_13 ?_
  refine lv_iand hx hb dX4_goneOnes_14 ?_
  have e1 := Option.some.inj hf
  subst e1
  have hF : ((((jshl (1 : Int32) (wh_spokes w)) - (1 : Int32)) &&& ((wh_there w) ^^^ (-1 : Int32))) : Int32) = out := hF
  subst hF
  exact k_iret C0 hW dX4_goneOnes_15

def f_X4_isOver (w : Wh) : Option (Int32) :=
  Option.bind (f_X4_goneOnes w) (fun q1 => if q1 = 0 then (some (0 : Int32)) else (nm ((jshl q1 (1 : Int32)) ||| (jshr q1 ((wh_spokes w) - (1 : Int32)))) (fun v23 => if (q1 &&& v23) = 0 then (some (0 : Int32)) else (some (1 : Int32)))))
set_option maxRecDepth 100000 in
set_option maxHeartbeats 8000000 in
theorem c_X4_isOver (l : Launch) (G : GG) (a : Nat → Nat) (o : Nat) (w : Wh) (out : Int32) (hf : f_X4_isOver w = some out) : Cn l G 1 yX4_isOver cX4_isOver 3 (some .boolean) [.ref (a o)] (bWh G a o w) (some (.int out)) (bWh G a o w) := by
  refine cn_start (by decide) (Nat.le_of_ble_eq_true rfl) ?_
  intro p e s m below meth c A ls C0 hW hl
  have hx := C0.1
  have hb := C0.2.1
  have hl : lv_has ls 3 [(0, .ref (a o))] := hl
  obtain ⟨r, hr⟩ : ∃ r, f_X4_isOver w = some r ∧ r = out := ⟨out, hf, rfl⟩
  replace hf := hr.1
  have hF := hr.2
  clear hr
  unfold f_X4_isOver at hf
  refine lv_aload_n hx hb dX4_isOver_0 rfl (lv_at hl 0 rfl) ?_
  obtain ⟨q1, hq1⟩ := ob_s hf
  replace hf := hq1.2
  replace hq1 := hq1.1
  refine cV0 (rest := []) (st1 := [.int q1]) C0 hW hl.1 (c_X4_goneOnes l G a o w _ hq1) cb_X4_goneOnes mm_X4_59 [0, 1, 2, 3, 4, 5] rfl rfl 0 4 rfl rfl rfl (by decide) rfl rfl (Nat.le_of_ble_eq_true rfl) ⟨Nat.zero_le _, Nat.zero_le _⟩ dX4_isOver_1 rfl (fun H locs hW => ?_)
  refine lv_istore_n (lv' := [(1, .int q1), (0, .ref (a o))]) hx hb dX4_isOver_4 rfl hl (by decide) rfl (fun ls hl => ?_)
  refine lv_iload_n hx hb dX4_isOver_5 rfl (lv_at hl 0 rfl) ?_
  refine lv_if_ne (tgt := 11) hx hb dX4_isOver_6 (by decide) (fun c6_1 => ?_) (fun c6_1 => ?_)
  · replace hf := if_f c6_1 hf
    refine lv_iload_n hx hb dX4_isOver_11 rfl (lv_at hl 0 rfl) ?_
    refine lv_iconst (v := 1) hx hb dX4_isOver_12 (by decide) ?_
    refine lv_ishl hx hb dX4_isOver_13 ?_
    refine lv_iload_n hx hb dX4_isOver_14 rfl (lv_at hl 0 rfl) ?_
    refine lv_aload_n hx hb dX4_isOver_15 rfl (lv_at hl 1 rfl) ?_
    refine k_get C0 hW 4 5 0 (v := .int (wh_spokes w)) rfl (by decide) inX4 mf_X4_33 rfl rfl dX4_isOver_16 ?_
    refine lv_iconst (v := 1) hx hb dX4_isOver_19 (by decide) ?_
    refine lv_isub hx hb dX4_isOver_20 ?_
    refine lv_ishr hx hb dX4_isOver_21 ?_
    refine lv_ior hx hb dX4_isOver_22 ?_
    refine lv_topi (fun v23 ev23 => ?_)
    replace hf := nm_s ev23 hf
    refine lv_istore_n (lv' := [(2, .int v23), (1, .int q1), (0, .ref (a o))]) hx hb dX4_isOver_23 rfl hl (by decide) rfl (fun ls hl => ?_)
    refine lv_iload_n hx hb dX4_isOver_24 rfl (lv_at hl 1 rfl) ?_
    refine lv_iload_n hx hb dX4_isOver_25 rfl (lv_at hl 0 rfl) ?_
    refine lv_iand hx hb dX4_isOver_26 ?_
    refine lv_if_eq (tgt := 34) hx hb dX4_isOver_27 (by decide) (fun c27_3 => ?_) (fun c27_3 => ?_)
    · replace hf := if_t c27_3 hf
      refine lv_iconst (v := 0) hx hb dX4_isOver_34 (by decide) ?_
      have e1 := Option.some.inj hf
      subst e1
      have hF : ((0 : Int32) : Int32) = out := hF
      subst hF
      exact k_zret C0 hW rfl dX4_isOver_35
    · replace hf := if_f c27_3 hf
      refine lv_iconst (v := 1) hx hb dX4_isOver_30 (by decide) ?_
      refine lv_goto (tgt := 35) hx hb dX4_isOver_31 (by decide) ?_
      have e1 := Option.some.inj hf
      subst e1
      have hF : ((1 : Int32) : Int32) = out := hF
      subst hF
      exact k_zret C0 hW rfl dX4_isOver_35
  · replace hf := if_t c6_1 hf
    refine lv_iconst (v := 0) hx hb dX4_isOver_9 (by decide) ?_
    have e1 := Option.some.inj hf
    subst e1
    have hF : ((0 : Int32) : Int32) = out := hF
    subst hF
    exact k_zret C0 hW rfl dX4_isOver_10

def f_X4_depth (w : Wh) : Option (Int32) :=
  gd (inb ((wh_rut w) &&& (7 : Int32)) 8) (some ((wh_depths w) (ix ((wh_rut w) &&& (7 : Int32)))))
set_option maxRecDepth 100000 in
set_option maxHeartbeats 8000000 in
theorem c_X4_depth (l : Launch) (G : GG) (a : Nat → Nat) (o : Nat) (w : Wh) (out : Int32) (hf : f_X4_depth w = some out) : Cn l G 0 yX4_depth cX4_depth 1 (some .int) [.ref (a o)] (bWh G a o w) (some (.int out)) (bWh G a o w) := by
  refine cn_start (by decide) (Nat.le_of_ble_eq_true rfl) ?_
  intro p e s m below meth c A ls C0 hW hl
  have hx := C0.1
  have hb := C0.2.1
  have hl : lv_has ls 1 [(0, .ref (a o))] := hl
  obtain ⟨r, hr⟩ : ∃ r, f_X4_depth w = some r ∧ r = out := ⟨out, hf, rfl⟩
  replace hf := hr.1
  have hF := hr.2
  clear hr
  unfold f_X4_depth at hf
  refine lv_aload_n hx hb dX4_depth_0 rfl (lv_at hl 0 rfl) ?_
  refine k_get C0 hW 4 0 0 (v := .ref (a (o + 1))) rfl (by decide) inX4 mf_X4_9 rfl rfl dX4_depth_1 ?_
  refine lv_aload_n hx hb dX4_depth_4 rfl (lv_at hl 0 rfl) ?_
  refine k_get C0 hW 4 8 0 (v := .int (wh_rut w)) rfl (by decide) inX4 mf_X4_43 rfl rfl dX4_depth_5 ?_
  refine lv_bipush (v := 7) hx hb dX4_depth_8 (by decide) ?_
  refine lv_iand hx hb dX4_depth_10 ?_
  have g11_1 := (gd_some hf).1; replace hf := (gd_some hf).2
  refine k_iald C0 hW 1 (ix ((wh_rut w) &&& (7 : Int32))) rfl (inb_in g11_1) rfl dX4_depth_11 ?_
  have e1 := Option.some.inj hf
  subst e1
  have hF : (((wh_depths w) (ix ((wh_rut w) &&& (7 : Int32)))) : Int32) = out := hF
  subst hF
  exact k_iret C0 hW dX4_depth_12

def f_X4_isThere (w : Wh) (x1 : Int32) : Option (Int32) :=
  if ((jshr (wh_there w) x1) &&& (1 : Int32)) = (1 : Int32) then (some (1 : Int32)) else (some (0 : Int32))
set_option maxRecDepth 100000 in
set_option maxHeartbeats 8000000 in
theorem c_X4_isThere (l : Launch) (G : GG) (a : Nat → Nat) (o : Nat) (w : Wh) (x1 : Int32) (out : Int32) (hf : f_X4_isThere w x1 = some out) : Cn l G 0 yX4_isThere cX4_isThere 2 (some .boolean) [.ref (a o), .int x1] (bWh G a o w) (some (.int out)) (bWh G a o w) := by
  refine cn_start (by decide) (Nat.le_of_ble_eq_true rfl) ?_
  intro p e s m below meth c A ls C0 hW hl
  have hx := C0.1
  have hb := C0.2.1
  have hl : lv_has ls 2 [(0, .ref (a o)), (1, .int x1)] := hl
  obtain ⟨r, hr⟩ : ∃ r, f_X4_isThere w x1 = some r ∧ r = out := ⟨out, hf, rfl⟩
  replace hf := hr.1
  have hF := hr.2
  clear hr
  unfold f_X4_isThere at hf
  refine lv_aload_n hx hb dX4_isThere_0 rfl (lv_at hl 0 rfl) ?_
  refine k_get C0 hW 4 9 0 (v := .int (wh_there w)) rfl (by decide) inX4 mf_X4_46 rfl rfl dX4_isThere_1 ?_
  refine lv_iload_n hx hb dX4_isThere_4 rfl (lv_at hl 1 rfl) ?_
  refine lv_ishr hx hb dX4_isThere_5 ?_
  refine lv_iconst (v := 1) hx hb dX4_isThere_6 (by decide) ?_
  refine lv_iand hx hb dX4_isThere_7 ?_
  refine lv_iconst (v := 1) hx hb dX4_isThere_8 (by decide) ?_
  refine lv_icmp_ne (tgt := 16) hx hb dX4_isThere_9 (by decide) (fun c9_1 => ?_) (fun c9_1 => ?_)
  · replace hf := if_f c9_1 hf
    refine lv_iconst (v := 0) hx hb dX4_isThere_16 (by decide) ?_
    have e1 := Option.some.inj hf
    subst e1
    have hF : ((0 : Int32) : Int32) = out := hF
    subst hF
    exact k_zret C0 hW rfl dX4_isThere_17
  · replace hf := if_t c9_1 hf
    refine lv_iconst (v := 1) hx hb dX4_isThere_12 (by decide) ?_
    refine lv_goto (tgt := 17) hx hb dX4_isThere_13 (by decide) ?_
    have e1 := Option.some.inj hf
    subst e1
    have hF : ((1 : Int32) : Int32) = out := hF
    subst hF
    exact k_zret C0 hW rfl dX4_isThere_17

def f_X5_feltWear (x0 : Int32) (x1 : Int32) (x2 : Int32) : Option (Int32) :=
  if x0 = 3 then (some (x1 / (2 : Int32))) else if x0 = 4 then (some (0 : Int32)) else if x0 = 5 then (if x2 = 0 then (some (0 : Int32)) else (some x1)) else some x1
set_option maxRecDepth 100000 in
set_option maxHeartbeats 8000000 in
theorem c_X5_feltWear (l : Launch) (G : GG) (x0 : Int32) (x1 : Int32) (x2 : Int32) (out : Int32) (hf : f_X5_feltWear x0 x1 x2 = some out) : Cn l G 0 yX5_feltWear cX5_feltWear 3 (some .int) [.int x0, .int x1, .int x2] ([] : va_W) (some (.int out)) ([] : va_W) := by
  refine cn_start (by decide) (Nat.le_of_ble_eq_true rfl) ?_
  intro p e s m below meth c A ls C0 hW hl
  have hx := C0.1
  have hb := C0.2.1
  have hl : lv_has ls 3 [(0, .int x0), (1, .int x1), (2, .int x2)] := hl
  obtain ⟨r, hr⟩ : ∃ r, f_X5_feltWear x0 x1 x2 = some r ∧ r = out := ⟨out, hf, rfl⟩
  replace hf := hr.1
  have hF := hr.2
  clear hr
  unfold f_X5_feltWear at hf
  refine lv_iload_n hx hb dX5_feltWear_0 rfl (lv_at hl 0 rfl) ?_
  by_cases c1_1 : x0 = 3
  · replace hf := if_t c1_1 hf
    refine lv_tableIn (off := 27) (tgt := 28) hx hb dX5_feltWear_1 (by rw [c1_1]; decide) (by rw [c1_1]; decide) (by rw [c1_1]; rfl) (by decide) ?_
    refine lv_iload_n hx hb dX5_feltWear_28 rfl (lv_at hl 1 rfl) ?_
    refine lv_iconst (v := 2) hx hb dX5_feltWear_29 (by decide) ?_
    refine lv_idiv hx hb dX5_feltWear_30 (by decide) ?_
    have e1 := Option.some.inj hf
    subst e1
    have hF : ((x1 / (2 : Int32)) : Int32) = out := hF
    subst hF
    exact k_iret C0 hW dX5_feltWear_31
  replace hf := if_f c1_1 hf
  by_cases c1_2 : x0 = 4
  · replace hf := if_t c1_2 hf
    refine lv_tableIn (off := 31) (tgt := 32) hx hb dX5_feltWear_1 (by rw [c1_2]; decide) (by rw [c1_2]; decide) (by rw [c1_2]; rfl) (by decide) ?_
    refine lv_iconst (v := 0) hx hb dX5_feltWear_32 (by decide) ?_
    have e1 := Option.some.inj hf
    subst e1
    have hF : ((0 : Int32) : Int32) = out := hF
    subst hF
    exact k_iret C0 hW dX5_feltWear_33
  replace hf := if_f c1_2 hf
  by_cases c1_3 : x0 = 5
  · replace hf := if_t c1_3 hf
    refine lv_tableIn (off := 33) (tgt := 34) hx hb dX5_feltWear_1 (by rw [c1_3]; decide) (by rw [c1_3]; decide) (by rw [c1_3]; rfl) (by decide) ?_
    refine lv_iload_n hx hb dX5_feltWear_34 rfl (lv_at hl 2 rfl) ?_
    refine lv_if_eq (tgt := 42) hx hb dX5_feltWear_35 (by decide) (fun c35_4 => ?_) (fun c35_4 => ?_)
    · replace hf := if_t c35_4 hf
      refine lv_iconst (v := 0) hx hb dX5_feltWear_42 (by decide) ?_
      have e1 := Option.some.inj hf
      subst e1
      have hF : ((0 : Int32) : Int32) = out := hF
      subst hF
      exact k_iret C0 hW dX5_feltWear_43
    · replace hf := if_f c35_4 hf
      refine lv_iload_n hx hb dX5_feltWear_38 rfl (lv_at hl 1 rfl) ?_
      refine lv_goto (tgt := 43) hx hb dX5_feltWear_39 (by decide) ?_
      have e1 := Option.some.inj hf
      subst e1
      have hF : (x1 : Int32) = out := hF
      subst hF
      exact k_iret C0 hW dX5_feltWear_43
  replace hf := if_f c1_3 hf
  refine lv_tableOut (tgt := 44) hx hb dX5_feltWear_1 (by have := lv_neT c1_1 (show (3 : Int32).toInt = 3 from rfl); have := lv_neT c1_2 (show (4 : Int32).toInt = 4 from rfl); have := lv_neT c1_3 (show (5 : Int32).toInt = 5 from rfl); omega) (by decide) ?_
  refine lv_iload_n hx hb dX5_feltWear_44 rfl (lv_at hl 1 rfl) ?_
  have e1 := Option.some.inj hf
  subst e1
  have hF : (x1 : Int32) = out := hF
  subst hF
  exact k_iret C0 hW dX5_feltWear_45

def f_X5_bearing (x0 : Int32) (x1 : Int32) (x2 : Int32) (x3 : Int32) (x4 : Int32) : Option (Int32) :=
  Option.bind (f_X5_feltWear x0 x2 x4) (fun q8 => nm (jmax (0 : Int32) (((2 : Int32) * x1) - q8)) (fun v15 => if x0 = 1 then (some (v15 / (2 : Int32))) else if x0 = 2 then (if x3 < (5 : Int32) then (some v15) else (some (v15 + (3 : Int32)))) else if x0 = 3 then (if x3 < (5 : Int32) then (some v15) else (some (v15 + (3 : Int32)))) else some v15))
set_option maxRecDepth 100000 in
set_option maxHeartbeats 8000000 in
theorem c_X5_bearing (l : Launch) (G : GG) (x0 : Int32) (x1 : Int32) (x2 : Int32) (x3 : Int32) (x4 : Int32) (out : Int32) (hf : f_X5_bearing x0 x1 x2 x3 x4 = some out) : Cn l G 1 yX5_bearing cX5_bearing 6 (some .int) [.int x0, .int x1, .int x2, .int x3, .int x4] ([] : va_W) (some (.int out)) ([] : va_W) := by
  refine cn_start (by decide) (Nat.le_of_ble_eq_true rfl) ?_
  intro p e s m below meth c A ls C0 hW hl
  have hx := C0.1
  have hb := C0.2.1
  have hl : lv_has ls 6 [(0, .int x0), (1, .int x1), (2, .int x2), (3, .int x3), (4, .int x4)] := hl
  obtain ⟨r, hr⟩ : ∃ r, f_X5_bearing x0 x1 x2 x3 x4 = some r ∧ r = out := ⟨out, hf, rfl⟩
  replace hf := hr.1
  have hF := hr.2
  clear hr
  unfold f_X5_bearing at hf
  refine lv_iconst (v := 0) hx hb dX5_bearing_0 (by decide) ?_
  refine lv_iconst (v := 2) hx hb dX5_bearing_1 (by decide) ?_
  refine lv_iload_n hx hb dX5_bearing_2 rfl (lv_at hl 1 rfl) ?_
  refine lv_imul hx hb dX5_bearing_3 ?_
  refine lv_iload_n hx hb dX5_bearing_4 rfl (lv_at hl 0 rfl) ?_
  refine lv_iload_n hx hb dX5_bearing_5 rfl (lv_at hl 2 rfl) ?_
  refine lv_iload hx hb dX5_bearing_6 (lv_at hl 4 rfl) ?_
  obtain ⟨q8, hq8⟩ := ob_s hf
  replace hf := hq8.2
  replace hq8 := hq8.1
  refine cS0 (rest := [.int ((2 : Int32) * x1), .int (0 : Int32)]) (st1 := [.int q8, .int ((2 : Int32) * x1), .int (0 : Int32)]) C0 hW hl.1 (c_X5_feltWear l G x0 x2 x4 _ hq8) cb_X5_feltWear mm_X5_338 [] rfl rfl (by decide) rfl rfl (Nat.le_of_ble_eq_true rfl) ⟨Nat.zero_le _, Nat.zero_le _⟩ dX5_bearing_8 rfl (fun H locs hW => ?_)
  refine lv_isub hx hb dX5_bearing_11 ?_
  refine k_max C0 hl.1 mm_X5_310 (by decide) (Nat.le_of_ble_eq_true rfl) dX5_bearing_12 ?_
  refine lv_topi (fun v15 ev15 => ?_)
  replace hf := nm_s ev15 hf
  refine lv_istore (lv' := [(5, .int v15), (0, .int x0), (1, .int x1), (2, .int x2), (3, .int x3), (4, .int x4)]) hx hb dX5_bearing_15 hl (by decide) rfl (fun ls hl => ?_)
  refine lv_iload_n hx hb dX5_bearing_17 rfl (lv_at hl 1 rfl) ?_
  by_cases c18_2 : x0 = 1
  · replace hf := if_t c18_2 hf
    refine lv_tableIn (off := 26) (tgt := 44) hx hb dX5_bearing_18 (by rw [c18_2]; decide) (by rw [c18_2]; decide) (by rw [c18_2]; rfl) (by decide) ?_
    refine lv_iload hx hb dX5_bearing_44 (lv_at hl 0 rfl) ?_
    refine lv_iconst (v := 2) hx hb dX5_bearing_46 (by decide) ?_
    refine lv_idiv hx hb dX5_bearing_47 (by decide) ?_
    have e1 := Option.some.inj hf
    subst e1
    have hF : ((v15 / (2 : Int32)) : Int32) = out := hF
    subst hF
    exact k_iret C0 hW dX5_bearing_48
  replace hf := if_f c18_2 hf
  by_cases c18_3 : x0 = 2
  · replace hf := if_t c18_3 hf
    refine lv_tableIn (off := 31) (tgt := 49) hx hb dX5_bearing_18 (by rw [c18_3]; decide) (by rw [c18_3]; decide) (by rw [c18_3]; rfl) (by decide) ?_
    refine lv_iload_n hx hb dX5_bearing_49 rfl (lv_at hl 4 rfl) ?_
    refine lv_iconst (v := 5) hx hb dX5_bearing_50 (by decide) ?_
    refine lv_icmp_lt (tgt := 61) hx hb dX5_bearing_51 (by decide) (fun c51_4 => ?_) (fun c51_4 => ?_)
    · replace hf := if_t c51_4 hf
      refine lv_iload hx hb dX5_bearing_61 (lv_at hl 0 rfl) ?_
      have e1 := Option.some.inj hf
      subst e1
      have hF : (v15 : Int32) = out := hF
      subst hF
      exact k_iret C0 hW dX5_bearing_63
    · replace hf := if_f c51_4 hf
      refine lv_iload hx hb dX5_bearing_54 (lv_at hl 0 rfl) ?_
      refine lv_iconst (v := 3) hx hb dX5_bearing_56 (by decide) ?_
      refine lv_iadd hx hb dX5_bearing_57 ?_
      refine lv_goto (tgt := 63) hx hb dX5_bearing_58 (by decide) ?_
      have e1 := Option.some.inj hf
      subst e1
      have hF : ((v15 + (3 : Int32)) : Int32) = out := hF
      subst hF
      exact k_iret C0 hW dX5_bearing_63
  replace hf := if_f c18_3 hf
  by_cases c18_5 : x0 = 3
  · replace hf := if_t c18_5 hf
    refine lv_tableIn (off := 31) (tgt := 49) hx hb dX5_bearing_18 (by rw [c18_5]; decide) (by rw [c18_5]; decide) (by rw [c18_5]; rfl) (by decide) ?_
    refine lv_iload_n hx hb dX5_bearing_49 rfl (lv_at hl 4 rfl) ?_
    refine lv_iconst (v := 5) hx hb dX5_bearing_50 (by decide) ?_
    refine lv_icmp_lt (tgt := 61) hx hb dX5_bearing_51 (by decide) (fun c51_6 => ?_) (fun c51_6 => ?_)
    · replace hf := if_t c51_6 hf
      refine lv_iload hx hb dX5_bearing_61 (lv_at hl 0 rfl) ?_
      have e1 := Option.some.inj hf
      subst e1
      have hF : (v15 : Int32) = out := hF
      subst hF
      exact k_iret C0 hW dX5_bearing_63
    · replace hf := if_f c51_6 hf
      refine lv_iload hx hb dX5_bearing_54 (lv_at hl 0 rfl) ?_
      refine lv_iconst (v := 3) hx hb dX5_bearing_56 (by decide) ?_
      refine lv_iadd hx hb dX5_bearing_57 ?_
      refine lv_goto (tgt := 63) hx hb dX5_bearing_58 (by decide) ?_
      have e1 := Option.some.inj hf
      subst e1
      have hF : ((v15 + (3 : Int32)) : Int32) = out := hF
      subst hF
      exact k_iret C0 hW dX5_bearing_63
  replace hf := if_f c18_5 hf
  refine lv_tableOut (tgt := 64) hx hb dX5_bearing_18 (by have := lv_neT c18_2 (show (1 : Int32).toInt = 1 from rfl); have := lv_neT c18_3 (show (2 : Int32).toInt = 2 from rfl); have := lv_neT c18_5 (show (3 : Int32).toInt = 3 from rfl); omega) (by decide) ?_
  refine lv_iload hx hb dX5_bearing_64 (lv_at hl 0 rfl) ?_
  have e1 := Option.some.inj hf
  subst e1
  have hF : (v15 : Int32) = out := hF
  subst hF
  exact k_iret C0 hW dX5_bearing_66

def f_X4_roll_J152 (w : Wh) (x3 : Int32) (t1 : Int32) : Option (Int32 × Wh) :=
  if x3 = 0 then (some ((1 : Int32), (wh_set_stand w t1))) else (some ((0 : Int32), (wh_set_stand w t1)))
def f_X4_roll_J124 (w : Wh) (x1 : Int32) (x3 : Int32) : Option (Int32 × Wh) :=
  if (wh_spokes w) ≤ (x1 + (1 : Int32)) then (f_X4_roll_J152 (wh_set_rut w ((wh_rut w) + (1 : Int32))) x3 (0 : Int32)) else (f_X4_roll_J152 (wh_set_rut w ((wh_rut w) + (1 : Int32))) x3 (x1 + (1 : Int32)))
def f_X4_roll_J105 (w : Wh) (x1 : Int32) (x3 : Int32) : Option (Int32 × Wh) :=
  gd (inb x1 8) (gd (inb x1 8) (f_X4_roll_J124 (wh_set_wear w (upd (wh_wear w) (ix x1) (jmin (30 : Int32) (((wh_wear w) (ix x1)) + (1 : Int32))))) x1 x3))
def f_X4_roll_J84 (w : Wh) (x1 : Int32) (x3 : Int32) : Option (Int32 × Wh) :=
  if x3 = 0 then (f_X4_roll_J124 w x1 x3) else (if (wh_dry w) = 0 then (if ((wh_rut w) &&& (1 : Int32)) = (1 : Int32) then (f_X4_roll_J105 w x1 x3) else (f_X4_roll_J124 w x1 x3)) else (f_X4_roll_J105 w x1 x3))
def f_X4_roll_J33 (w : Wh) (x1 : Int32) (x2 : Int32) (t0 : Int32) : Option (Int32 × Wh) :=
  if t0 = 0 then (f_X4_roll_J84 w x1 t0) else (gd (inb x1 8) (gd (inb x1 8) (gd (inb x1 8) (Option.bind (f_X5_bearing ((wh_kind w) (ix x1)) ((wh_strong w) (ix x1)) ((wh_wear w) (ix x1)) x2 (wh_dry w)) (fun q61 => if x2 ≤ q61 then (f_X4_roll_J84 w x1 t0) else (f_X4_roll_J84 (wh_set_there w ((wh_there w) &&& ((jshl (1 : Int32) x1) ^^^ (-1 : Int32)))) x1 (0 : Int32)))))))
def f_X4_roll_J32 (w : Wh) (x1 : Int32) (x2 : Int32) : Option (Int32 × Wh) :=
  f_X4_roll_J33 w x1 x2 (0 : Int32)
def f_X4_roll (w : Wh) : Option (Int32 × Wh) :=
  Option.bind (f_X4_depth w) (fun q6 => Option.bind (f_X4_isThere w (wh_stand w)) (fun q12 => if q12 = 0 then (f_X4_roll_J32 w (wh_stand w) q6) else (gd (inb (wh_stand w) 8) (if ((wh_length w) (ix (wh_stand w))) < q6 then (f_X4_roll_J32 w (wh_stand w) q6) else (f_X4_roll_J33 w (wh_stand w) q6 (1 : Int32))))))
set_option maxRecDepth 100000 in
set_option maxHeartbeats 8000000 in
theorem c_X4_roll (l : Launch) (G : GG) (a : Nat → Nat) (o : Nat) (w : Wh) (out : Int32 × Wh) (hf : f_X4_roll w = some out) : Cn l G 2 yX4_roll cX4_roll 4 (some .boolean) [.ref (a o)] (bWh G a o w) (some (.int out.1)) (bWh G a o out.2) := by
  refine cn_start (by decide) (Nat.le_of_ble_eq_true rfl) ?_
  intro p e s m below meth c A ls C0 hW hl
  have hx := C0.1
  have hb := C0.2.1
  have hl : lv_has ls 4 [(0, .ref (a o))] := hl
  have J152 : ∀ (x3 : Int32) (t1 : Int32) (w : Wh) (r : Int32 × Wh), f_X4_roll_J152 w x3 t1 = some r → (fun (r : Int32 × Wh) => r = out) r → ∀ (H : Heap) (locs : List Loc) (ls : Array Slot), Wd G A s.heap H (bWh G a o w) locs → lv_has ls 4 [(3, .int x3)] → WW p l e 2 s m [.ref (a o)] below meth c G A (some (.int out.1)) ((bWh G a o out.2)) H locs 152 ls [.int t1, .ref (a o)] := by
    intro x3 t1 w r hf hF H locs ls hW hl
    unfold f_X4_roll_J152 at hf
    refine k_put C0 hW 4 7 0 rfl (by decide) inX4 tyX4_ok nmX4 mf_X4_40 rfl rfl rfl rfl (Nat.le_of_ble_eq_true rfl) dX4_roll_152 (fun H locs hW => ?_)
    have hW : Wd G A s.heap H (bWh G a o (wh_set_stand w t1)) locs := hW
    refine lv_iload_n hx hb dX4_roll_155 rfl (lv_at hl 0 rfl) ?_
    refine lv_if_ne (tgt := 163) hx hb dX4_roll_156 (by decide) (fun c156_5 => ?_) (fun c156_5 => ?_)
    · replace hf := if_f c156_5 hf
      refine lv_iconst (v := 0) hx hb dX4_roll_163 (by decide) ?_
      have e1 := Option.some.inj hf
      subst e1
      have hF : (((0 : Int32), (wh_set_stand w t1)) : Int32 × Wh) = out := hF
      subst hF
      exact k_zret C0 hW rfl dX4_roll_164
    · replace hf := if_t c156_5 hf
      refine lv_iconst (v := 1) hx hb dX4_roll_159 (by decide) ?_
      refine lv_goto (tgt := 164) hx hb dX4_roll_160 (by decide) ?_
      have e1 := Option.some.inj hf
      subst e1
      have hF : (((1 : Int32), (wh_set_stand w t1)) : Int32 × Wh) = out := hF
      subst hF
      exact k_zret C0 hW rfl dX4_roll_164
  have J124 : ∀ (x1 : Int32) (x3 : Int32) (w : Wh) (r : Int32 × Wh), f_X4_roll_J124 w x1 x3 = some r → (fun (r : Int32 × Wh) => r = out) r → ∀ (H : Heap) (locs : List Loc) (ls : Array Slot), Wd G A s.heap H (bWh G a o w) locs → lv_has ls 4 [(0, .ref (a o)), (1, .int x1), (3, .int x3)] → WW p l e 2 s m [.ref (a o)] below meth c G A (some (.int out.1)) ((bWh G a o out.2)) H locs 124 ls [] := by
    intro x1 x3 w r hf hF H locs ls hW hl
    unfold f_X4_roll_J124 at hf
    refine lv_aload_n hx hb dX4_roll_124 rfl (lv_at hl 0 rfl) ?_
    refine lv_dup hx hb dX4_roll_125 rfl ?_
    refine k_get C0 hW 4 8 0 (v := .int (wh_rut w)) rfl (by decide) inX4 mf_X4_43 rfl rfl dX4_roll_126 ?_
    refine lv_iconst (v := 1) hx hb dX4_roll_129 (by decide) ?_
    refine lv_iadd hx hb dX4_roll_130 ?_
    refine k_put C0 hW 4 8 0 rfl (by decide) inX4 tyX4_ok nmX4 mf_X4_43 rfl rfl rfl rfl (Nat.le_of_ble_eq_true rfl) dX4_roll_131 (fun H locs hW => ?_)
    have hW : Wd G A s.heap H (bWh G a o (wh_set_rut w ((wh_rut w) + (1 : Int32)))) locs := hW
    refine lv_aload_n hx hb dX4_roll_134 rfl (lv_at hl 0 rfl) ?_
    refine lv_iload_n hx hb dX4_roll_135 rfl (lv_at hl 1 rfl) ?_
    refine lv_iconst (v := 1) hx hb dX4_roll_136 (by decide) ?_
    refine lv_iadd hx hb dX4_roll_137 ?_
    refine lv_aload_n hx hb dX4_roll_138 rfl (lv_at hl 0 rfl) ?_
    refine k_get C0 hW 4 5 0 (v := .int (wh_spokes w)) rfl (by decide) inX4 mf_X4_33 rfl rfl dX4_roll_139 ?_
    refine lv_icmp_ge (tgt := 151) hx hb dX4_roll_142 (by decide) (fun c142_4 => ?_) (fun c142_4 => ?_)
    · replace hf := if_t c142_4 hf
      refine lv_iconst (v := 0) hx hb dX4_roll_151 (by decide) ?_
      exact J152 _ _ _ _ hf hF _ _ _ hW (lv_sub hl [2] rfl)
    · replace hf := if_f c142_4 hf
      refine lv_iload_n hx hb dX4_roll_145 rfl (lv_at hl 1 rfl) ?_
      refine lv_iconst (v := 1) hx hb dX4_roll_146 (by decide) ?_
      refine lv_iadd hx hb dX4_roll_147 ?_
      refine lv_goto (tgt := 152) hx hb dX4_roll_148 (by decide) ?_
      exact J152 _ _ _ _ hf hF _ _ _ hW (lv_sub hl [2] rfl)
  have J105 : ∀ (x1 : Int32) (x3 : Int32) (w : Wh) (r : Int32 × Wh), f_X4_roll_J105 w x1 x3 = some r → (fun (r : Int32 × Wh) => r = out) r → ∀ (H : Heap) (locs : List Loc) (ls : Array Slot), Wd G A s.heap H (bWh G a o w) locs → lv_has ls 4 [(0, .ref (a o)), (1, .int x1), (3, .int x3)] → WW p l e 2 s m [.ref (a o)] below meth c G A (some (.int out.1)) ((bWh G a o out.2)) H locs 105 ls [] := by
    intro x1 x3 w r hf hF H locs ls hW hl
    unfold f_X4_roll_J105 at hf
    refine lv_aload_n hx hb dX4_roll_105 rfl (lv_at hl 0 rfl) ?_
    refine k_get C0 hW 4 4 0 (v := .ref (a (o + 5))) rfl (by decide) inX4 mf_X4_24 rfl rfl dX4_roll_106 ?_
    refine lv_iload_n hx hb dX4_roll_109 rfl (lv_at hl 1 rfl) ?_
    refine lv_bipush (v := 30) hx hb dX4_roll_110 (by decide) ?_
    refine lv_aload_n hx hb dX4_roll_112 rfl (lv_at hl 0 rfl) ?_
    refine k_get C0 hW 4 4 0 (v := .ref (a (o + 5))) rfl (by decide) inX4 mf_X4_24 rfl rfl dX4_roll_113 ?_
    refine lv_iload_n hx hb dX4_roll_116 rfl (lv_at hl 1 rfl) ?_
    have g117_7 := (gd_some hf).1; replace hf := (gd_some hf).2
    refine k_iald C0 hW 5 (ix x1) rfl (inb_in g117_7) rfl dX4_roll_117 ?_
    refine lv_iconst (v := 1) hx hb dX4_roll_118 (by decide) ?_
    refine lv_iadd hx hb dX4_roll_119 ?_
    refine k_min C0 hl.1 mm_X4_99 (by decide) (Nat.le_of_ble_eq_true rfl) dX4_roll_120 ?_
    have g123_8 := (gd_some hf).1; replace hf := (gd_some hf).2
    refine k_iast C0 hW 5 (ix x1) rfl (inb_in g123_8) rfl dX4_roll_123 (fun H locs hW => ?_)
    have hW : Wd G A s.heap H (bWh G a o (wh_set_wear w (upd (wh_wear w) (ix x1) (jmin (30 : Int32) (((wh_wear w) (ix x1)) + (1 : Int32)))))) locs := hW
    exact J124 _ _ _ _ hf hF _ _ _ hW (lv_sub hl [0, 1, 2] rfl)
  have J84 : ∀ (x1 : Int32) (x3 : Int32) (w : Wh) (r : Int32 × Wh), f_X4_roll_J84 w x1 x3 = some r → (fun (r : Int32 × Wh) => r = out) r → ∀ (H : Heap) (locs : List Loc) (ls : Array Slot), Wd G A s.heap H (bWh G a o w) locs → lv_has ls 4 [(0, .ref (a o)), (1, .int x1), (3, .int x3)] → WW p l e 2 s m [.ref (a o)] below meth c G A (some (.int out.1)) ((bWh G a o out.2)) H locs 84 ls [] := by
    intro x1 x3 w r hf hF H locs ls hW hl
    unfold f_X4_roll_J84 at hf
    refine lv_iload_n hx hb dX4_roll_84 rfl (lv_at hl 2 rfl) ?_
    refine lv_if_eq (tgt := 124) hx hb dX4_roll_85 (by decide) (fun c85_3 => ?_) (fun c85_3 => ?_)
    · replace hf := if_t c85_3 hf
      exact J124 _ _ _ _ hf hF _ _ _ hW (lv_sub hl [0, 1, 2] rfl)
    · replace hf := if_f c85_3 hf
      refine lv_aload_n hx hb dX4_roll_88 rfl (lv_at hl 0 rfl) ?_
      refine k_get C0 hW 4 10 0 (v := .int (wh_dry w)) rfl (by decide) inX4 mf_X4_49 rfl rfl dX4_roll_89 ?_
      refine lv_if_ne (tgt := 105) hx hb dX4_roll_92 (by decide) (fun c92_6 => ?_) (fun c92_6 => ?_)
      · replace hf := if_f c92_6 hf
        exact J105 _ _ _ _ hf hF _ _ _ hW (lv_sub hl [0, 1, 2] rfl)
      · replace hf := if_t c92_6 hf
        refine lv_aload_n hx hb dX4_roll_95 rfl (lv_at hl 0 rfl) ?_
        refine k_get C0 hW 4 8 0 (v := .int (wh_rut w)) rfl (by decide) inX4 mf_X4_43 rfl rfl dX4_roll_96 ?_
        refine lv_iconst (v := 1) hx hb dX4_roll_99 (by decide) ?_
        refine lv_iand hx hb dX4_roll_100 ?_
        refine lv_iconst (v := 1) hx hb dX4_roll_101 (by decide) ?_
        refine lv_icmp_ne (tgt := 124) hx hb dX4_roll_102 (by decide) (fun c102_9 => ?_) (fun c102_9 => ?_)
        · replace hf := if_f c102_9 hf
          exact J124 _ _ _ _ hf hF _ _ _ hW (lv_sub hl [0, 1, 2] rfl)
        · replace hf := if_t c102_9 hf
          exact J105 _ _ _ _ hf hF _ _ _ hW (lv_sub hl [0, 1, 2] rfl)
  have J33 : ∀ (x1 : Int32) (x2 : Int32) (t0 : Int32) (w : Wh) (r : Int32 × Wh), f_X4_roll_J33 w x1 x2 t0 = some r → (fun (r : Int32 × Wh) => r = out) r → ∀ (H : Heap) (locs : List Loc) (ls : Array Slot), Wd G A s.heap H (bWh G a o w) locs → lv_has ls 4 [(0, .ref (a o)), (1, .int x1), (2, .int x2)] → WW p l e 2 s m [.ref (a o)] below meth c G A (some (.int out.1)) ((bWh G a o out.2)) H locs 33 ls [.int t0] := by
    intro x1 x2 t0 w r hf hF H locs ls hW hl
    unfold f_X4_roll_J33 at hf
    refine lv_istore_n (lv' := [(3, .int t0), (0, .ref (a o)), (1, .int x1), (2, .int x2)]) hx hb dX4_roll_33 rfl hl (by decide) rfl (fun ls hl => ?_)
    refine lv_iload_n hx hb dX4_roll_34 rfl (lv_at hl 0 rfl) ?_
    refine lv_if_eq (tgt := 84) hx hb dX4_roll_35 (by decide) (fun c35_2 => ?_) (fun c35_2 => ?_)
    · replace hf := if_t c35_2 hf
      exact J84 _ _ _ _ hf hF _ _ _ hW (lv_sub hl [1, 2, 0] rfl)
    · replace hf := if_f c35_2 hf
      refine lv_aload_n hx hb dX4_roll_38 rfl (lv_at hl 1 rfl) ?_
      refine k_get C0 hW 4 1 0 (v := .ref (a (o + 2))) rfl (by decide) inX4 mf_X4_15 rfl rfl dX4_roll_39 ?_
      refine lv_iload_n hx hb dX4_roll_42 rfl (lv_at hl 2 rfl) ?_
      have g43_10 := (gd_some hf).1; replace hf := (gd_some hf).2
      refine k_iald C0 hW 2 (ix x1) rfl (inb_in g43_10) rfl dX4_roll_43 ?_
      refine lv_aload_n hx hb dX4_roll_44 rfl (lv_at hl 1 rfl) ?_
      refine k_get C0 hW 4 3 0 (v := .ref (a (o + 4))) rfl (by decide) inX4 mf_X4_21 rfl rfl dX4_roll_45 ?_
      refine lv_iload_n hx hb dX4_roll_48 rfl (lv_at hl 2 rfl) ?_
      have g49_11 := (gd_some hf).1; replace hf := (gd_some hf).2
      refine k_iald C0 hW 4 (ix x1) rfl (inb_in g49_11) rfl dX4_roll_49 ?_
      refine lv_aload_n hx hb dX4_roll_50 rfl (lv_at hl 1 rfl) ?_
      refine k_get C0 hW 4 4 0 (v := .ref (a (o + 5))) rfl (by decide) inX4 mf_X4_24 rfl rfl dX4_roll_51 ?_
      refine lv_iload_n hx hb dX4_roll_54 rfl (lv_at hl 2 rfl) ?_
      have g55_12 := (gd_some hf).1; replace hf := (gd_some hf).2
      refine k_iald C0 hW 5 (ix x1) rfl (inb_in g55_12) rfl dX4_roll_55 ?_
      refine lv_iload_n hx hb dX4_roll_56 rfl (lv_at hl 3 rfl) ?_
      refine lv_aload_n hx hb dX4_roll_57 rfl (lv_at hl 1 rfl) ?_
      refine k_get C0 hW 4 10 0 (v := .int (wh_dry w)) rfl (by decide) inX4 mf_X4_49 rfl rfl dX4_roll_58 ?_
      obtain ⟨q61, hq61⟩ := ob_s hf
      replace hf := hq61.2
      replace hq61 := hq61.1
      refine cN0 (rest := []) (st1 := [.int q61]) C0 hW hl.1 (c_X5_bearing l G ((wh_kind w) (ix x1)) ((wh_strong w) (ix x1)) ((wh_wear w) (ix x1)) x2 (wh_dry w) _ hq61) cb_X5_bearing mn_X4_66 [] rfl rfl (by decide) rfl rfl (Nat.le_of_ble_eq_true rfl) ⟨Nat.zero_le _, Nat.zero_le _⟩ dX4_roll_61 rfl (fun H locs hW => ?_)
      refine lv_iload_n hx hb dX4_roll_64 rfl (lv_at hl 3 rfl) ?_
      refine lv_icmp_ge (tgt := 84) hx hb dX4_roll_65 (by decide) (fun c65_13 => ?_) (fun c65_13 => ?_)
      · replace hf := if_t c65_13 hf
        exact J84 _ _ _ _ hf hF _ _ _ hW (lv_sub hl [1, 2, 0] rfl)
      · replace hf := if_f c65_13 hf
        refine lv_aload_n hx hb dX4_roll_68 rfl (lv_at hl 1 rfl) ?_
        refine lv_dup hx hb dX4_roll_69 rfl ?_
        refine k_get C0 hW 4 9 0 (v := .int (wh_there w)) rfl (by decide) inX4 mf_X4_46 rfl rfl dX4_roll_70 ?_
        refine lv_iconst (v := 1) hx hb dX4_roll_73 (by decide) ?_
        refine lv_iload_n hx hb dX4_roll_74 rfl (lv_at hl 2 rfl) ?_
        refine lv_ishl hx hb dX4_roll_75 ?_
        refine lv_iconst (v := -1) hx hb dX4_roll_76 (by decide) ?_
        refine lv_ixor hx hb dX4_roll_77 ?_
        refine lv_iand hx hb dX4_roll_78 ?_
        refine k_put C0 hW 4 9 0 rfl (by decide) inX4 tyX4_ok nmX4 mf_X4_46 rfl rfl rfl rfl (Nat.le_of_ble_eq_true rfl) dX4_roll_79 (fun H locs hW => ?_)
        have hW : Wd G A s.heap H (bWh G a o (wh_set_there w ((wh_there w) &&& ((jshl (1 : Int32) x1) ^^^ (-1 : Int32))))) locs := hW
        refine lv_iconst (v := 0) hx hb dX4_roll_82 (by decide) ?_
        refine lv_istore_n (lv' := [(3, .int (0 : Int32)), (0, .ref (a o)), (1, .int x1), (2, .int x2)]) hx hb dX4_roll_83 rfl hl (by decide) rfl (fun ls hl => ?_)
        exact J84 _ _ _ _ hf hF _ _ _ hW (lv_sub hl [1, 2, 0] rfl)
  have J32 : ∀ (x1 : Int32) (x2 : Int32) (w : Wh) (r : Int32 × Wh), f_X4_roll_J32 w x1 x2 = some r → (fun (r : Int32 × Wh) => r = out) r → ∀ (H : Heap) (locs : List Loc) (ls : Array Slot), Wd G A s.heap H (bWh G a o w) locs → lv_has ls 4 [(0, .ref (a o)), (1, .int x1), (2, .int x2)] → WW p l e 2 s m [.ref (a o)] below meth c G A (some (.int out.1)) ((bWh G a o out.2)) H locs 32 ls [] := by
    intro x1 x2 w r hf hF H locs ls hW hl
    unfold f_X4_roll_J32 at hf
    refine lv_iconst (v := 0) hx hb dX4_roll_32 (by decide) ?_
    exact J33 _ _ _ _ _ hf hF _ _ _ hW (lv_sub hl [0, 1, 2] rfl)
  obtain ⟨r, hr⟩ : ∃ r, f_X4_roll w = some r ∧ r = out := ⟨out, hf, rfl⟩
  replace hf := hr.1
  have hF := hr.2
  clear hr
  unfold f_X4_roll at hf
  refine lv_aload_n hx hb dX4_roll_0 rfl (lv_at hl 0 rfl) ?_
  refine k_get C0 hW 4 7 0 (v := .int (wh_stand w)) rfl (by decide) inX4 mf_X4_40 rfl rfl dX4_roll_1 ?_
  refine lv_istore_n (lv' := [(1, .int (wh_stand w)), (0, .ref (a o))]) hx hb dX4_roll_4 rfl hl (by decide) rfl (fun ls hl => ?_)
  refine lv_aload_n hx hb dX4_roll_5 rfl (lv_at hl 1 rfl) ?_
  obtain ⟨q6, hq6⟩ := ob_s hf
  replace hf := hq6.2
  replace hq6 := hq6.1
  refine cV0 (rest := []) (st1 := [.int q6]) C0 hW hl.1 (c_X4_depth l G a o w _ hq6) cb_X4_depth mm_X4_63 [0, 1, 2, 3, 4, 5] rfl rfl 0 4 rfl rfl rfl (by decide) rfl rfl (Nat.le_of_ble_eq_true rfl) ⟨Nat.zero_le _, Nat.zero_le _⟩ dX4_roll_6 rfl (fun H locs hW => ?_)
  refine lv_istore_n (lv' := [(2, .int q6), (1, .int (wh_stand w)), (0, .ref (a o))]) hx hb dX4_roll_9 rfl hl (by decide) rfl (fun ls hl => ?_)
  refine lv_aload_n hx hb dX4_roll_10 rfl (lv_at hl 2 rfl) ?_
  refine lv_iload_n hx hb dX4_roll_11 rfl (lv_at hl 1 rfl) ?_
  obtain ⟨q12, hq12⟩ := ob_s hf
  replace hf := hq12.2
  replace hq12 := hq12.1
  refine cV0 (rest := []) (st1 := [.int q12]) C0 hW hl.1 (c_X4_isThere l G a o w (wh_stand w) _ hq12) cb_X4_isThere mm_X4_70 [0, 1, 2, 3, 4, 5] rfl rfl 0 4 rfl rfl rfl (by decide) rfl rfl (Nat.le_of_ble_eq_true rfl) ⟨Nat.zero_le _, Nat.zero_le _⟩ dX4_roll_12 rfl (fun H locs hW => ?_)
  refine lv_if_eq (tgt := 32) hx hb dX4_roll_15 (by decide) (fun c15_1 => ?_) (fun c15_1 => ?_)
  · replace hf := if_t c15_1 hf
    exact J32 _ _ _ _ hf hF _ _ _ hW (lv_sub hl [2, 1, 0] rfl)
  · replace hf := if_f c15_1 hf
    refine lv_aload_n hx hb dX4_roll_18 rfl (lv_at hl 2 rfl) ?_
    refine k_get C0 hW 4 2 0 (v := .ref (a (o + 3))) rfl (by decide) inX4 mf_X4_18 rfl rfl dX4_roll_19 ?_
    refine lv_iload_n hx hb dX4_roll_22 rfl (lv_at hl 1 rfl) ?_
    have g23_14 := (gd_some hf).1; replace hf := (gd_some hf).2
    refine k_iald C0 hW 3 (ix (wh_stand w)) rfl (inb_in g23_14) rfl dX4_roll_23 ?_
    refine lv_iload_n hx hb dX4_roll_24 rfl (lv_at hl 0 rfl) ?_
    refine lv_icmp_lt (tgt := 32) hx hb dX4_roll_25 (by decide) (fun c25_15 => ?_) (fun c25_15 => ?_)
    · replace hf := if_t c25_15 hf
      exact J32 _ _ _ _ hf hF _ _ _ hW (lv_sub hl [2, 1, 0] rfl)
    · replace hf := if_f c25_15 hf
      refine lv_iconst (v := 1) hx hb dX4_roll_28 (by decide) ?_
      refine lv_goto (tgt := 33) hx hb dX4_roll_29 (by decide) ?_
      exact J33 _ _ _ _ _ hf hF _ _ _ hW (lv_sub hl [2, 1, 0] rfl)

def f_X4_rollFar_J26 (w : Wh) (x1 : Int32) (x2 : Int32) (x3 : Int32) : Option ((Int32 × Int32 × Wh) ⊕ (Int32 × Wh)) :=
  some (Sum.inl (x2, (x3 + (1 : Int32)), w))
def f_X4_rollFar_B4 (x1 : Int32) (x2 : Int32) (x3 : Int32) (w : Wh) : Option ((Int32 × Int32 × Wh) ⊕ (Int32 × Wh)) :=
  if x1 ≤ x3 then (Option.map Sum.inr (some (x2, w))) else (Option.bind (f_X4_isOver w) (fun q10 => if q10 = 0 then (Option.bind (f_X4_roll w) (fun q17 => if q17.1 = 0 then (f_X4_rollFar_J26 q17.2 x1 x2 x3) else (f_X4_rollFar_J26 q17.2 x1 (x2 + (1 : Int32)) x3))) else (Option.map Sum.inr (some (x2, w)))))
def f_X4_rollFar_L4 (x1 : Int32) (sg : Int32 × Int32 × Wh) : Option ((Int32 × Int32 × Wh) ⊕ (Int32 × Wh)) := f_X4_rollFar_B4 x1 sg.1 sg.2.1 sg.2.2
def f_X4_rollFar (w : Wh) (x1 : Int32) : Option (Int32 × Wh) :=
  lp (f_X4_rollFar_L4 x1) fuel ((0 : Int32), (0 : Int32), w)
set_option maxRecDepth 100000 in
set_option maxHeartbeats 8000000 in
theorem c_X4_rollFar (l : Launch) (G : GG) (a : Nat → Nat) (o : Nat) (w : Wh) (x1 : Int32) (out : Int32 × Wh) (hf : f_X4_rollFar w x1 = some out) : Cn l G 3 yX4_rollFar cX4_rollFar 4 (some .int) [.ref (a o), .int x1] (bWh G a o w) (some (.int out.1)) (bWh G a o out.2) := by
  refine cn_start (by decide) (Nat.le_of_ble_eq_true rfl) ?_
  intro p e s m below meth c A ls C0 hW hl
  have hx := C0.1
  have hb := C0.2.1
  have hl : lv_has ls 4 [(0, .ref (a o)), (1, .int x1)] := hl
  have L4 : ∀ (k9 : Nat) (sg : Int32 × Int32 × Wh) (o9 : Int32 × Wh), lp (f_X4_rollFar_L4 x1) k9 sg = some o9 → (fun (r : Int32 × Wh) => r = out) o9 → (fun (sg : Int32 × Int32 × Wh) => ∀ (H : Heap) (locs : List Loc) (ls : Array Slot), Wd G A s.heap H (bWh G a o sg.2.2) locs → lv_has ls 4 [(0, .ref (a o)), (1, .int x1), (2, .int sg.1), (3, .int sg.2.1)] → WW p l e 3 s m [.ref (a o), .int x1] below meth c G A (some (.int out.1)) ((bWh G a o out.2)) H locs 4 ls []) sg := by
    have J26 : ∀ (x2 : Int32) (x3 : Int32) (w : Wh) (r : (Int32 × Int32 × Wh) ⊕ (Int32 × Wh)), f_X4_rollFar_J26 w x1 x2 x3 = some r → (Sum.elim (fun (sg : Int32 × Int32 × Wh) => ∀ (H : Heap) (locs : List Loc) (ls : Array Slot), Wd G A s.heap H (bWh G a o sg.2.2) locs → lv_has ls 4 [(0, .ref (a o)), (1, .int x1), (2, .int sg.1), (3, .int sg.2.1)] → WW p l e 3 s m [.ref (a o), .int x1] below meth c G A (some (.int out.1)) ((bWh G a o out.2)) H locs 4 ls []) (fun (r : Int32 × Wh) => r = out)) r → ∀ (H : Heap) (locs : List Loc) (ls : Array Slot), Wd G A s.heap H (bWh G a o w) locs → lv_has ls 4 [(0, .ref (a o)), (1, .int x1), (2, .int x2), (3, .int x3)] → WW p l e 3 s m [.ref (a o), .int x1] below meth c G A (some (.int out.1)) ((bWh G a o out.2)) H locs 26 ls [] := by
      intro x2 x3 w r hf hF H locs ls hW hl
      unfold f_X4_rollFar_J26 at hf
      refine lv_iinc (v := (x3 + (1 : Int32))) (lv' := [(3, .int (x3 + (1 : Int32))), (0, .ref (a o)), (1, .int x1), (2, .int x2)]) hx hb dX4_rollFar_26 hl (k := 3) rfl rfl (by decide) rfl (fun ls hl => ?_)
      refine lv_goto (tgt := 4) hx hb dX4_rollFar_29 (by decide) ?_
      have e1 := Option.some.inj hf
      subst e1
      exact (elim_l hF) _ _ _ hW (lv_sub hl [1, 2, 3, 0] rfl)
    have B4 : ∀ (x2 : Int32) (x3 : Int32) (w : Wh) (r : (Int32 × Int32 × Wh) ⊕ (Int32 × Wh)), f_X4_rollFar_B4 x1 x2 x3 w = some r → (Sum.elim (fun (sg : Int32 × Int32 × Wh) => ∀ (H : Heap) (locs : List Loc) (ls : Array Slot), Wd G A s.heap H (bWh G a o sg.2.2) locs → lv_has ls 4 [(0, .ref (a o)), (1, .int x1), (2, .int sg.1), (3, .int sg.2.1)] → WW p l e 3 s m [.ref (a o), .int x1] below meth c G A (some (.int out.1)) ((bWh G a o out.2)) H locs 4 ls []) (fun (r : Int32 × Wh) => r = out)) r → ∀ (H : Heap) (locs : List Loc) (ls : Array Slot), Wd G A s.heap H (bWh G a o w) locs → lv_has ls 4 [(0, .ref (a o)), (1, .int x1), (2, .int x2), (3, .int x3)] → WW p l e 3 s m [.ref (a o), .int x1] below meth c G A (some (.int out.1)) ((bWh G a o out.2)) H locs 4 ls [] := by
      intro x2 x3 w r hf hF H locs ls hW hl
      unfold f_X4_rollFar_B4 at hf
      refine lv_iload_n hx hb dX4_rollFar_4 rfl (lv_at hl 3 rfl) ?_
      refine lv_iload_n hx hb dX4_rollFar_5 rfl (lv_at hl 1 rfl) ?_
      refine lv_icmp_ge (tgt := 32) hx hb dX4_rollFar_6 (by decide) (fun c6_1 => ?_) (fun c6_1 => ?_)
      · replace hf := if_t c6_1 hf
        obtain ⟨r2, e2⟩ := om_s hf
        replace hf := e2.1
        replace e2 := e2.2
        subst e2
        replace hF := elim_r hF
        refine lv_iload_n hx hb dX4_rollFar_32 rfl (lv_at hl 2 rfl) ?_
        have e1 := Option.some.inj hf
        subst e1
        have hF : ((x2, w) : Int32 × Wh) = out := hF
        subst hF
        exact k_iret C0 hW dX4_rollFar_33
      · replace hf := if_f c6_1 hf
        refine lv_aload_n hx hb dX4_rollFar_9 rfl (lv_at hl 0 rfl) ?_
        obtain ⟨q10, hq10⟩ := ob_s hf
        replace hf := hq10.2
        replace hq10 := hq10.1
        refine cV0 (rest := []) (st1 := [.int q10]) C0 hW hl.1 (c_X4_isOver l G a o w _ hq10) cb_X4_isOver mm_X4_108 [0, 1, 2, 3, 4, 5] rfl rfl 0 4 rfl rfl rfl (by decide) rfl rfl (Nat.le_of_ble_eq_true rfl) ⟨Nat.zero_le _, Nat.zero_le _⟩ dX4_rollFar_10 rfl (fun H locs hW => ?_)
        refine lv_if_ne (tgt := 32) hx hb dX4_rollFar_13 (by decide) (fun c13_2 => ?_) (fun c13_2 => ?_)
        · replace hf := if_f c13_2 hf
          obtain ⟨r2, e2⟩ := om_s hf
          replace hf := e2.1
          replace e2 := e2.2
          subst e2
          replace hF := elim_r hF
          refine lv_iload_n hx hb dX4_rollFar_32 rfl (lv_at hl 2 rfl) ?_
          have e1 := Option.some.inj hf
          subst e1
          have hF : ((x2, w) : Int32 × Wh) = out := hF
          subst hF
          exact k_iret C0 hW dX4_rollFar_33
        · replace hf := if_t c13_2 hf
          refine lv_aload_n hx hb dX4_rollFar_16 rfl (lv_at hl 0 rfl) ?_
          obtain ⟨q17, hq17⟩ := ob_s hf
          replace hf := hq17.2
          replace hq17 := hq17.1
          refine cV1 (rest := []) (ws1 := (bWh G a o q17.2)) (st1 := [.int q17.1]) C0 hW hl.1 (c_X4_roll l G a o w _ hq17) cb_X4_roll mm_X4_82 [0, 1, 2, 3, 4, 5] rfl rfl rfl 0 4 rfl rfl rfl (by decide) rfl rfl (Nat.le_of_ble_eq_true rfl) ⟨Nat.zero_le _, Nat.zero_le _⟩ dX4_rollFar_17 rfl rfl (fun H locs hW => ?_)
          refine lv_if_eq (tgt := 26) hx hb dX4_rollFar_20 (by decide) (fun c20_3 => ?_) (fun c20_3 => ?_)
          · replace hf := if_t c20_3 hf
            exact J26 _ _ _ _ hf hF _ _ _ hW (lv_sub hl [0, 1, 2, 3] rfl)
          · replace hf := if_f c20_3 hf
            refine lv_iinc (v := (x2 + (1 : Int32))) (lv' := [(2, .int (x2 + (1 : Int32))), (0, .ref (a o)), (1, .int x1), (3, .int x3)]) hx hb dX4_rollFar_23 hl (k := 2) rfl rfl (by decide) rfl (fun ls hl => ?_)
            exact J26 _ _ _ _ hf hF _ _ _ hW (lv_sub hl [1, 2, 0, 3] rfl)
    exact lp_sound (fun sg r hb hz => B4 sg.1 sg.2.1 sg.2.2 r hb hz)
  obtain ⟨r, hr⟩ : ∃ r, f_X4_rollFar w x1 = some r ∧ r = out := ⟨out, hf, rfl⟩
  replace hf := hr.1
  have hF := hr.2
  clear hr
  unfold f_X4_rollFar at hf
  refine lv_iconst (v := 0) hx hb dX4_rollFar_0 (by decide) ?_
  refine lv_istore_n (lv' := [(2, .int (0 : Int32)), (0, .ref (a o)), (1, .int x1)]) hx hb dX4_rollFar_1 rfl hl (by decide) rfl (fun ls hl => ?_)
  refine lv_iconst (v := 0) hx hb dX4_rollFar_2 (by decide) ?_
  refine lv_istore_n (lv' := [(3, .int (0 : Int32)), (2, .int (0 : Int32)), (0, .ref (a o)), (1, .int x1)]) hx hb dX4_rollFar_3 rfl hl (by decide) rfl (fun ls hl => ?_)
  exact L4  fuel ((0 : Int32), (0 : Int32), w) _ hf hF _ _ _ hW (lv_sub hl [2, 3, 1, 0] rfl)

def f_X4_take (w : Wh) (w2 : Wh) : Option (Wh) :=
  gd (isB (wh_dry w2)) (some (wh_set_dry (wh_set_there (wh_set_rut (wh_set_stand (wh_set_gateRut (wh_set_spokes (wh_set_wear (wh_set_strong (wh_set_length (wh_set_kind (wh_set_depths w (acpy (wh_depths w2) (wh_depths w) (0 : Int32) (0 : Int32) (8 : Int32))) (acpy (wh_kind w2) (wh_kind w) (0 : Int32) (0 : Int32) (8 : Int32))) (acpy (wh_length w2) (wh_length w) (0 : Int32) (0 : Int32) (8 : Int32))) (acpy (wh_strong w2) (wh_strong w) (0 : Int32) (0 : Int32) (8 : Int32))) (acpy (wh_wear w2) (wh_wear w) (0 : Int32) (0 : Int32) (8 : Int32))) (wh_spokes w2)) (wh_gateRut w2)) (wh_stand w2)) (wh_rut w2)) (wh_there w2)) (wh_dry w2)))
set_option maxRecDepth 100000 in
set_option maxHeartbeats 8000000 in
theorem c_X4_take (l : Launch) (G : GG) (a : Nat → Nat) (o : Nat) (b : Nat → Nat) (q : Nat) (w : Wh) (w2 : Wh) (out : Wh) (hf : f_X4_take w w2 = some out) : Cn l G 1 yX4_take cX4_take 2 (none) [.ref (a o), .ref (b q)] ((bWh G a o w) ++ (bWh G b q w2)) (none) ((bWh G a o out) ++ (bWh G b q w2)) := by
  refine cn_start (by decide) (Nat.le_of_ble_eq_true rfl) ?_
  intro p e s m below meth c A ls C0 hW hl
  have hx := C0.1
  have hb := C0.2.1
  have hl : lv_has ls 2 [(0, .ref (a o)), (1, .ref (b q))] := hl
  obtain ⟨r, hr⟩ : ∃ r, f_X4_take w w2 = some r ∧ r = out := ⟨out, hf, rfl⟩
  replace hf := hr.1
  have hF := hr.2
  clear hr
  unfold f_X4_take at hf
  refine lv_aload_n hx hb dX4_take_0 rfl (lv_at hl 1 rfl) ?_
  refine k_get C0 hW 4 0 6 (v := .ref (b (q + 1))) rfl (by decide) inX4 mf_X4_9 rfl rfl dX4_take_1 ?_
  refine lv_iconst (v := 0) hx hb dX4_take_4 (by decide) ?_
  refine lv_aload_n hx hb dX4_take_5 rfl (lv_at hl 0 rfl) ?_
  refine k_get C0 hW 4 0 0 (v := .ref (a (o + 1))) rfl (by decide) inX4 mf_X4_9 rfl rfl dX4_take_6 ?_
  refine lv_iconst (v := 0) hx hb dX4_take_9 (by decide) ?_
  refine lv_bipush (v := 8) hx hb dX4_take_10 (by decide) ?_
  refine k_copy C0 hW hl.1 mm_X4_27 (by decide) (Nat.le_of_ble_eq_true rfl) 7 1 rfl rfl (by decide) dX4_take_12 (fun H locs hW => ?_)
  have hW : Wd G A s.heap H ((bWh G a o (wh_set_depths w (acpy (wh_depths w2) (wh_depths w) (0 : Int32) (0 : Int32) (8 : Int32)))) ++ (bWh G b q w2)) locs := hW
  refine lv_aload_n hx hb dX4_take_15 rfl (lv_at hl 1 rfl) ?_
  refine k_get C0 hW 4 1 6 (v := .ref (b (q + 2))) rfl (by decide) inX4 mf_X4_15 rfl rfl dX4_take_16 ?_
  refine lv_iconst (v := 0) hx hb dX4_take_19 (by decide) ?_
  refine lv_aload_n hx hb dX4_take_20 rfl (lv_at hl 0 rfl) ?_
  refine k_get C0 hW 4 1 0 (v := .ref (a (o + 2))) rfl (by decide) inX4 mf_X4_15 rfl rfl dX4_take_21 ?_
  refine lv_iconst (v := 0) hx hb dX4_take_24 (by decide) ?_
  refine lv_bipush (v := 8) hx hb dX4_take_25 (by decide) ?_
  refine k_copy C0 hW hl.1 mm_X4_27 (by decide) (Nat.le_of_ble_eq_true rfl) 8 2 rfl rfl (by decide) dX4_take_27 (fun H locs hW => ?_)
  have hW : Wd G A s.heap H ((bWh G a o (wh_set_kind (wh_set_depths w (acpy (wh_depths w2) (wh_depths w) (0 : Int32) (0 : Int32) (8 : Int32))) (acpy (wh_kind w2) (wh_kind w) (0 : Int32) (0 : Int32) (8 : Int32)))) ++ (bWh G b q w2)) locs := hW
  refine lv_aload_n hx hb dX4_take_30 rfl (lv_at hl 1 rfl) ?_
  refine k_get C0 hW 4 2 6 (v := .ref (b (q + 3))) rfl (by decide) inX4 mf_X4_18 rfl rfl dX4_take_31 ?_
  refine lv_iconst (v := 0) hx hb dX4_take_34 (by decide) ?_
  refine lv_aload_n hx hb dX4_take_35 rfl (lv_at hl 0 rfl) ?_
  refine k_get C0 hW 4 2 0 (v := .ref (a (o + 3))) rfl (by decide) inX4 mf_X4_18 rfl rfl dX4_take_36 ?_
  refine lv_iconst (v := 0) hx hb dX4_take_39 (by decide) ?_
  refine lv_bipush (v := 8) hx hb dX4_take_40 (by decide) ?_
  refine k_copy C0 hW hl.1 mm_X4_27 (by decide) (Nat.le_of_ble_eq_true rfl) 9 3 rfl rfl (by decide) dX4_take_42 (fun H locs hW => ?_)
  have hW : Wd G A s.heap H ((bWh G a o (wh_set_length (wh_set_kind (wh_set_depths w (acpy (wh_depths w2) (wh_depths w) (0 : Int32) (0 : Int32) (8 : Int32))) (acpy (wh_kind w2) (wh_kind w) (0 : Int32) (0 : Int32) (8 : Int32))) (acpy (wh_length w2) (wh_length w) (0 : Int32) (0 : Int32) (8 : Int32)))) ++ (bWh G b q w2)) locs := hW
  refine lv_aload_n hx hb dX4_take_45 rfl (lv_at hl 1 rfl) ?_
  refine k_get C0 hW 4 3 6 (v := .ref (b (q + 4))) rfl (by decide) inX4 mf_X4_21 rfl rfl dX4_take_46 ?_
  refine lv_iconst (v := 0) hx hb dX4_take_49 (by decide) ?_
  refine lv_aload_n hx hb dX4_take_50 rfl (lv_at hl 0 rfl) ?_
  refine k_get C0 hW 4 3 0 (v := .ref (a (o + 4))) rfl (by decide) inX4 mf_X4_21 rfl rfl dX4_take_51 ?_
  refine lv_iconst (v := 0) hx hb dX4_take_54 (by decide) ?_
  refine lv_bipush (v := 8) hx hb dX4_take_55 (by decide) ?_
  refine k_copy C0 hW hl.1 mm_X4_27 (by decide) (Nat.le_of_ble_eq_true rfl) 10 4 rfl rfl (by decide) dX4_take_57 (fun H locs hW => ?_)
  have hW : Wd G A s.heap H ((bWh G a o (wh_set_strong (wh_set_length (wh_set_kind (wh_set_depths w (acpy (wh_depths w2) (wh_depths w) (0 : Int32) (0 : Int32) (8 : Int32))) (acpy (wh_kind w2) (wh_kind w) (0 : Int32) (0 : Int32) (8 : Int32))) (acpy (wh_length w2) (wh_length w) (0 : Int32) (0 : Int32) (8 : Int32))) (acpy (wh_strong w2) (wh_strong w) (0 : Int32) (0 : Int32) (8 : Int32)))) ++ (bWh G b q w2)) locs := hW
  refine lv_aload_n hx hb dX4_take_60 rfl (lv_at hl 1 rfl) ?_
  refine k_get C0 hW 4 4 6 (v := .ref (b (q + 5))) rfl (by decide) inX4 mf_X4_24 rfl rfl dX4_take_61 ?_
  refine lv_iconst (v := 0) hx hb dX4_take_64 (by decide) ?_
  refine lv_aload_n hx hb dX4_take_65 rfl (lv_at hl 0 rfl) ?_
  refine k_get C0 hW 4 4 0 (v := .ref (a (o + 5))) rfl (by decide) inX4 mf_X4_24 rfl rfl dX4_take_66 ?_
  refine lv_iconst (v := 0) hx hb dX4_take_69 (by decide) ?_
  refine lv_bipush (v := 8) hx hb dX4_take_70 (by decide) ?_
  refine k_copy C0 hW hl.1 mm_X4_27 (by decide) (Nat.le_of_ble_eq_true rfl) 11 5 rfl rfl (by decide) dX4_take_72 (fun H locs hW => ?_)
  have hW : Wd G A s.heap H ((bWh G a o (wh_set_wear (wh_set_strong (wh_set_length (wh_set_kind (wh_set_depths w (acpy (wh_depths w2) (wh_depths w) (0 : Int32) (0 : Int32) (8 : Int32))) (acpy (wh_kind w2) (wh_kind w) (0 : Int32) (0 : Int32) (8 : Int32))) (acpy (wh_length w2) (wh_length w) (0 : Int32) (0 : Int32) (8 : Int32))) (acpy (wh_strong w2) (wh_strong w) (0 : Int32) (0 : Int32) (8 : Int32))) (acpy (wh_wear w2) (wh_wear w) (0 : Int32) (0 : Int32) (8 : Int32)))) ++ (bWh G b q w2)) locs := hW
  refine lv_aload_n hx hb dX4_take_75 rfl (lv_at hl 0 rfl) ?_
  refine lv_aload_n hx hb dX4_take_76 rfl (lv_at hl 1 rfl) ?_
  refine k_get C0 hW 4 5 6 (v := .int (wh_spokes w2)) rfl (by decide) inX4 mf_X4_33 rfl rfl dX4_take_77 ?_
  refine k_put C0 hW 4 5 0 rfl (by decide) inX4 tyX4_ok nmX4 mf_X4_33 rfl rfl rfl rfl (Nat.le_of_ble_eq_true rfl) dX4_take_80 (fun H locs hW => ?_)
  have hW : Wd G A s.heap H ((bWh G a o (wh_set_spokes (wh_set_wear (wh_set_strong (wh_set_length (wh_set_kind (wh_set_depths w (acpy (wh_depths w2) (wh_depths w) (0 : Int32) (0 : Int32) (8 : Int32))) (acpy (wh_kind w2) (wh_kind w) (0 : Int32) (0 : Int32) (8 : Int32))) (acpy (wh_length w2) (wh_length w) (0 : Int32) (0 : Int32) (8 : Int32))) (acpy (wh_strong w2) (wh_strong w) (0 : Int32) (0 : Int32) (8 : Int32))) (acpy (wh_wear w2) (wh_wear w) (0 : Int32) (0 : Int32) (8 : Int32))) (wh_spokes w2))) ++ (bWh G b q w2)) locs := hW
  refine lv_aload_n hx hb dX4_take_83 rfl (lv_at hl 0 rfl) ?_
  refine lv_aload_n hx hb dX4_take_84 rfl (lv_at hl 1 rfl) ?_
  refine k_get C0 hW 4 6 6 (v := .int (wh_gateRut w2)) rfl (by decide) inX4 mf_X4_37 rfl rfl dX4_take_85 ?_
  refine k_put C0 hW 4 6 0 rfl (by decide) inX4 tyX4_ok nmX4 mf_X4_37 rfl rfl rfl rfl (Nat.le_of_ble_eq_true rfl) dX4_take_88 (fun H locs hW => ?_)
  have hW : Wd G A s.heap H ((bWh G a o (wh_set_gateRut (wh_set_spokes (wh_set_wear (wh_set_strong (wh_set_length (wh_set_kind (wh_set_depths w (acpy (wh_depths w2) (wh_depths w) (0 : Int32) (0 : Int32) (8 : Int32))) (acpy (wh_kind w2) (wh_kind w) (0 : Int32) (0 : Int32) (8 : Int32))) (acpy (wh_length w2) (wh_length w) (0 : Int32) (0 : Int32) (8 : Int32))) (acpy (wh_strong w2) (wh_strong w) (0 : Int32) (0 : Int32) (8 : Int32))) (acpy (wh_wear w2) (wh_wear w) (0 : Int32) (0 : Int32) (8 : Int32))) (wh_spokes w2)) (wh_gateRut w2))) ++ (bWh G b q w2)) locs := hW
  refine lv_aload_n hx hb dX4_take_91 rfl (lv_at hl 0 rfl) ?_
  refine lv_aload_n hx hb dX4_take_92 rfl (lv_at hl 1 rfl) ?_
  refine k_get C0 hW 4 7 6 (v := .int (wh_stand w2)) rfl (by decide) inX4 mf_X4_40 rfl rfl dX4_take_93 ?_
  refine k_put C0 hW 4 7 0 rfl (by decide) inX4 tyX4_ok nmX4 mf_X4_40 rfl rfl rfl rfl (Nat.le_of_ble_eq_true rfl) dX4_take_96 (fun H locs hW => ?_)
  have hW : Wd G A s.heap H ((bWh G a o (wh_set_stand (wh_set_gateRut (wh_set_spokes (wh_set_wear (wh_set_strong (wh_set_length (wh_set_kind (wh_set_depths w (acpy (wh_depths w2) (wh_depths w) (0 : Int32) (0 : Int32) (8 : Int32))) (acpy (wh_kind w2) (wh_kind w) (0 : Int32) (0 : Int32) (8 : Int32))) (acpy (wh_length w2) (wh_length w) (0 : Int32) (0 : Int32) (8 : Int32))) (acpy (wh_strong w2) (wh_strong w) (0 : Int32) (0 : Int32) (8 : Int32))) (acpy (wh_wear w2) (wh_wear w) (0 : Int32) (0 : Int32) (8 : Int32))) (wh_spokes w2)) (wh_gateRut w2)) (wh_stand w2))) ++ (bWh G b q w2)) locs := hW
  refine lv_aload_n hx hb dX4_take_99 rfl (lv_at hl 0 rfl) ?_
  refine lv_aload_n hx hb dX4_take_100 rfl (lv_at hl 1 rfl) ?_
  refine k_get C0 hW 4 8 6 (v := .int (wh_rut w2)) rfl (by decide) inX4 mf_X4_43 rfl rfl dX4_take_101 ?_
  refine k_put C0 hW 4 8 0 rfl (by decide) inX4 tyX4_ok nmX4 mf_X4_43 rfl rfl rfl rfl (Nat.le_of_ble_eq_true rfl) dX4_take_104 (fun H locs hW => ?_)
  have hW : Wd G A s.heap H ((bWh G a o (wh_set_rut (wh_set_stand (wh_set_gateRut (wh_set_spokes (wh_set_wear (wh_set_strong (wh_set_length (wh_set_kind (wh_set_depths w (acpy (wh_depths w2) (wh_depths w) (0 : Int32) (0 : Int32) (8 : Int32))) (acpy (wh_kind w2) (wh_kind w) (0 : Int32) (0 : Int32) (8 : Int32))) (acpy (wh_length w2) (wh_length w) (0 : Int32) (0 : Int32) (8 : Int32))) (acpy (wh_strong w2) (wh_strong w) (0 : Int32) (0 : Int32) (8 : Int32))) (acpy (wh_wear w2) (wh_wear w) (0 : Int32) (0 : Int32) (8 : Int32))) (wh_spokes w2)) (wh_gateRut w2)) (wh_stand w2)) (wh_rut w2))) ++ (bWh G b q w2)) locs := hW
  refine lv_aload_n hx hb dX4_take_107 rfl (lv_at hl 0 rfl) ?_
  refine lv_aload_n hx hb dX4_take_108 rfl (lv_at hl 1 rfl) ?_
  refine k_get C0 hW 4 9 6 (v := .int (wh_there w2)) rfl (by decide) inX4 mf_X4_46 rfl rfl dX4_take_109 ?_
  refine k_put C0 hW 4 9 0 rfl (by decide) inX4 tyX4_ok nmX4 mf_X4_46 rfl rfl rfl rfl (Nat.le_of_ble_eq_true rfl) dX4_take_112 (fun H locs hW => ?_)
  have hW : Wd G A s.heap H ((bWh G a o (wh_set_there (wh_set_rut (wh_set_stand (wh_set_gateRut (wh_set_spokes (wh_set_wear (wh_set_strong (wh_set_length (wh_set_kind (wh_set_depths w (acpy (wh_depths w2) (wh_depths w) (0 : Int32) (0 : Int32) (8 : Int32))) (acpy (wh_kind w2) (wh_kind w) (0 : Int32) (0 : Int32) (8 : Int32))) (acpy (wh_length w2) (wh_length w) (0 : Int32) (0 : Int32) (8 : Int32))) (acpy (wh_strong w2) (wh_strong w) (0 : Int32) (0 : Int32) (8 : Int32))) (acpy (wh_wear w2) (wh_wear w) (0 : Int32) (0 : Int32) (8 : Int32))) (wh_spokes w2)) (wh_gateRut w2)) (wh_stand w2)) (wh_rut w2)) (wh_there w2))) ++ (bWh G b q w2)) locs := hW
  refine lv_aload_n hx hb dX4_take_115 rfl (lv_at hl 0 rfl) ?_
  refine lv_aload_n hx hb dX4_take_116 rfl (lv_at hl 1 rfl) ?_
  refine k_get C0 hW 4 10 6 (v := .int (wh_dry w2)) rfl (by decide) inX4 mf_X4_49 rfl rfl dX4_take_117 ?_
  have g120_6 := (gd_some hf).1; replace hf := (gd_some hf).2
  refine k_put C0 hW 4 10 0 rfl (by decide) inX4 tyX4_ok nmX4 mf_X4_49 rfl rfl (isB_nar g120_6) (isB_fits g120_6) (Nat.le_of_ble_eq_true rfl) dX4_take_120 (fun H locs hW => ?_)
  have hW : Wd G A s.heap H ((bWh G a o (wh_set_dry (wh_set_there (wh_set_rut (wh_set_stand (wh_set_gateRut (wh_set_spokes (wh_set_wear (wh_set_strong (wh_set_length (wh_set_kind (wh_set_depths w (acpy (wh_depths w2) (wh_depths w) (0 : Int32) (0 : Int32) (8 : Int32))) (acpy (wh_kind w2) (wh_kind w) (0 : Int32) (0 : Int32) (8 : Int32))) (acpy (wh_length w2) (wh_length w) (0 : Int32) (0 : Int32) (8 : Int32))) (acpy (wh_strong w2) (wh_strong w) (0 : Int32) (0 : Int32) (8 : Int32))) (acpy (wh_wear w2) (wh_wear w) (0 : Int32) (0 : Int32) (8 : Int32))) (wh_spokes w2)) (wh_gateRut w2)) (wh_stand w2)) (wh_rut w2)) (wh_there w2)) (wh_dry w2))) ++ (bWh G b q w2)) locs := hW
  have e1 := Option.some.inj hf
  subst e1
  have hF : ((wh_set_dry (wh_set_there (wh_set_rut (wh_set_stand (wh_set_gateRut (wh_set_spokes (wh_set_wear (wh_set_strong (wh_set_length (wh_set_kind (wh_set_depths w (acpy (wh_depths w2) (wh_depths w) (0 : Int32) (0 : Int32) (8 : Int32))) (acpy (wh_kind w2) (wh_kind w) (0 : Int32) (0 : Int32) (8 : Int32))) (acpy (wh_length w2) (wh_length w) (0 : Int32) (0 : Int32) (8 : Int32))) (acpy (wh_strong w2) (wh_strong w) (0 : Int32) (0 : Int32) (8 : Int32))) (acpy (wh_wear w2) (wh_wear w) (0 : Int32) (0 : Int32) (8 : Int32))) (wh_spokes w2)) (wh_gateRut w2)) (wh_stand w2)) (wh_rut w2)) (wh_there w2)) (wh_dry w2)) : Wh) = out := hF
  subst hF
  exact k_vret C0 hW dX4_take_123

def f_X6_bits_B4 (x1 : Int32) (x2 : Int32) : Option ((Int32 × Int32) ⊕ (Int32)) :=
  if x2 = 0 then (Option.map Sum.inr (some x1)) else (nm (x2 &&& (x2 - (1 : Int32))) (fun v16 => some (Sum.inl ((x1 + (1 : Int32)), v16))))
def f_X6_bits_L4 (sg : Int32 × Int32) : Option ((Int32 × Int32) ⊕ (Int32)) := f_X6_bits_B4 sg.1 sg.2
def f_X6_bits (x0 : Int32) : Option (Int32) :=
  lp (f_X6_bits_L4) fuel ((0 : Int32), x0)
set_option maxRecDepth 100000 in
set_option maxHeartbeats 8000000 in
theorem c_X6_bits (l : Launch) (G : GG) (x0 : Int32) (out : Int32) (hf : f_X6_bits x0 = some out) : Cn l G 0 yX6_bits cX6_bits 3 (some .int) [.int x0] ([] : va_W) (some (.int out)) ([] : va_W) := by
  refine cn_start (by decide) (Nat.le_of_ble_eq_true rfl) ?_
  intro p e s m below meth c A ls C0 hW hl
  have hx := C0.1
  have hb := C0.2.1
  have hl : lv_has ls 3 [(0, .int x0)] := hl
  have L4 : ∀ (k9 : Nat) (sg : Int32 × Int32) (o9 : Int32), lp (f_X6_bits_L4) k9 sg = some o9 → (fun (r : Int32) => r = out) o9 → (fun (sg : Int32 × Int32) => ∀ (H : Heap) (locs : List Loc) (ls : Array Slot), Wd G A s.heap H ([] : va_W) locs → lv_has ls 3 [(1, .int sg.1), (2, .int sg.2)] → WW p l e 0 s m [.int x0] below meth c G A (some (.int out)) (([] : va_W)) H locs 4 ls []) sg := by
    have B4 : ∀ (x1 : Int32) (x2 : Int32) (r : (Int32 × Int32) ⊕ (Int32)), f_X6_bits_B4 x1 x2 = some r → (Sum.elim (fun (sg : Int32 × Int32) => ∀ (H : Heap) (locs : List Loc) (ls : Array Slot), Wd G A s.heap H ([] : va_W) locs → lv_has ls 3 [(1, .int sg.1), (2, .int sg.2)] → WW p l e 0 s m [.int x0] below meth c G A (some (.int out)) (([] : va_W)) H locs 4 ls []) (fun (r : Int32) => r = out)) r → ∀ (H : Heap) (locs : List Loc) (ls : Array Slot), Wd G A s.heap H ([] : va_W) locs → lv_has ls 3 [(1, .int x1), (2, .int x2)] → WW p l e 0 s m [.int x0] below meth c G A (some (.int out)) (([] : va_W)) H locs 4 ls [] := by
      intro x1 x2 r hf hF H locs ls hW hl
      unfold f_X6_bits_B4 at hf
      refine lv_iload_n hx hb dX6_bits_4 rfl (lv_at hl 1 rfl) ?_
      refine lv_if_eq (tgt := 20) hx hb dX6_bits_5 (by decide) (fun c5_1 => ?_) (fun c5_1 => ?_)
      · replace hf := if_t c5_1 hf
        obtain ⟨r2, e2⟩ := om_s hf
        replace hf := e2.1
        replace e2 := e2.2
        subst e2
        replace hF := elim_r hF
        refine lv_iload_n hx hb dX6_bits_20 rfl (lv_at hl 0 rfl) ?_
        have e1 := Option.some.inj hf
        subst e1
        have hF : (x1 : Int32) = out := hF
        subst hF
        exact k_iret C0 hW dX6_bits_21
      · replace hf := if_f c5_1 hf
        refine lv_iinc (v := (x1 + (1 : Int32))) (lv' := [(1, .int (x1 + (1 : Int32))), (2, .int x2)]) hx hb dX6_bits_8 hl (k := 0) rfl rfl (by decide) rfl (fun ls hl => ?_)
        refine lv_iload_n hx hb dX6_bits_11 rfl (lv_at hl 1 rfl) ?_
        refine lv_iload_n hx hb dX6_bits_12 rfl (lv_at hl 1 rfl) ?_
        refine lv_iconst (v := 1) hx hb dX6_bits_13 (by decide) ?_
        refine lv_isub hx hb dX6_bits_14 ?_
        refine lv_iand hx hb dX6_bits_15 ?_
        refine lv_topi (fun v16 ev16 => ?_)
        replace hf := nm_s ev16 hf
        refine lv_istore_n (lv' := [(2, .int v16), (1, .int (x1 + (1 : Int32)))]) hx hb dX6_bits_16 rfl hl (by decide) rfl (fun ls hl => ?_)
        refine lv_goto (tgt := 4) hx hb dX6_bits_17 (by decide) ?_
        have e1 := Option.some.inj hf
        subst e1
        exact (elim_l hF) _ _ _ hW (lv_sub hl [1, 0] rfl)
    exact lp_sound (fun sg r hb hz => B4 sg.1 sg.2 r hb hz)
  obtain ⟨r, hr⟩ : ∃ r, f_X6_bits x0 = some r ∧ r = out := ⟨out, hf, rfl⟩
  replace hf := hr.1
  have hF := hr.2
  clear hr
  unfold f_X6_bits at hf
  refine lv_iconst (v := 0) hx hb dX6_bits_0 (by decide) ?_
  refine lv_istore_n (lv' := [(1, .int (0 : Int32)), (0, .int x0)]) hx hb dX6_bits_1 rfl hl (by decide) rfl (fun ls hl => ?_)
  refine lv_iload_n hx hb dX6_bits_2 rfl (lv_at hl 1 rfl) ?_
  refine lv_istore_n (lv' := [(2, .int x0), (1, .int (0 : Int32)), (0, .int x0)]) hx hb dX6_bits_3 rfl hl (by decide) rfl (fun ls hl => ?_)
  exact L4  fuel ((0 : Int32), x0) _ hf hF _ _ _ hW (lv_sub hl [1, 0] rfl)
