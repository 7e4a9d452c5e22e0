def ww0 : Ww := (sh6, sh4, rd0, ct0, (fun _ => ct_set_done ct0 (-1)), as0, z0, 0, 0, 0, 1)
set_option maxRecDepth 100000 in
set_option maxHeartbeats 1000000 in
theorem c_X5_init (l : Launch) (G : GG) (h0 : Nat) : Ca l G 3 69 1224 yX5_init cX5_init 2 [.ref h0] h0 [(h0, .inr (5, [.null, .null, .null, .null, .null, .null, .null, .int 0, .int 0, .long 0, .long 0]))] (fun a => bWw G a 0 ww0) := by
  refine ca_start (by decide) (Nat.le_of_ble_eq_true rfl) ?_
  intro p e s m below meth c A ls C0 hO hin hW hl
  have hx := C0.1
  have hb := C0.2.1
  have hl : lv_has ls 2 [(0, .ref h0)] := hl
  refine lv_aload_n hx hb dX5_init_0 rfl (lv_at hl 0 rfl) ?_
  refine k_oinit C0 hl.1 mm_X5_1 (by decide) (Nat.le_of_ble_eq_true rfl) dX5_init_1 ?_
  refine lv_aload_n hx hb dX5_init_4 rfl (lv_at hl 0 rfl) ?_
  refine k_new C0 hW 3 rfl inX3 tyX3_ok mo_cl_X5_7 mo_in_3 mz_X3 df_X3 (Nat.le_of_ble_eq_true rfl) (Nat.le_of_ble_eq_true rfl) dX5_init_5 (fun q1 H hW => ?_)
  refine lv_dup hx hb dX5_init_8 rfl ?_
  refine lv_bipush (v := 6) hx hb dX5_init_9 (by decide) ?_
  refine lv_bipush (v := 40) hx hb dX5_init_11 (by decide) ?_
  refine k_cI (rest := [.ref (q1), .ref (h0)]) C0 hO hW hl.1 (c_X3_6_40_init l G q1) cb_X3_init mm_X5_11 (by decide) rfl rfl (Nat.le_of_ble_eq_true rfl) ⟨(Nat.le_of_ble_eq_true rfl), (Nat.le_of_ble_eq_true rfl)⟩ dX5_init_13 (fun a2 H locs h0_a2 hW_a2 => ?_)
  subst h0_a2
  have hW : Wd G A s.heap H ([(h0, .inr (5, [.null, .null, .null, .null, .null, .null, .null, .int 0, .int 0, .long 0, .long 0]))] ++ bSh G 6 40 a2 0 sh6) _ := hW_a2
  refine k_putF C0 hin hW 5 0 0 rfl (by decide) inX5 tyX5_ok nmX5 mf_X5_14 rfl rfl rfl rfl rfl (Nat.le_of_ble_eq_true rfl) dX5_init_16 (fun H locs hW => ?_)
  have hW : Wd G A s.heap H ([(h0, .inr (5, [.ref (a2 0), .null, .null, .null, .null, .null, .null, .int 0, .int 0, .long 0, .long 0]))] ++ bSh G 6 40 a2 0 sh6) _ := hW
  refine lv_aload_n hx hb dX5_init_19 rfl (lv_at hl 0 rfl) ?_
  refine k_new C0 hW 3 rfl inX3 tyX3_ok mo_cl_X5_7 mo_in_3 mz_X3 df_X3 (Nat.le_of_ble_eq_true rfl) (Nat.le_of_ble_eq_true rfl) dX5_init_20 (fun q3 H hW => ?_)
  refine lv_dup hx hb dX5_init_23 rfl ?_
  refine lv_iconst (v := 4) hx hb dX5_init_24 (by decide) ?_
  refine lv_bipush (v := 60) hx hb dX5_init_25 (by decide) ?_
  refine k_cI (rest := [.ref (q3), .ref (h0)]) C0 hO hW hl.1 (c_X3_4_60_init l G q3) cb_X3_init mm_X5_11 (by decide) rfl rfl (Nat.le_of_ble_eq_true rfl) ⟨(Nat.le_of_ble_eq_true rfl), (Nat.le_of_ble_eq_true rfl)⟩ dX5_init_27 (fun a4 H locs h0_a4 hW_a4 => ?_)
  subst h0_a4
  have hW : Wd G A s.heap H ([(h0, .inr (5, [.ref (a2 0), .null, .null, .null, .null, .null, .null, .int 0, .int 0, .long 0, .long 0]))] ++ (bSh G 6 40 a2 0 sh6 ++ bSh G 4 60 a4 0 sh4)) _ := hW_a4
  refine k_putF C0 hin hW 5 1 0 rfl (by decide) inX5 tyX5_ok nmX5 mf_X5_18 rfl rfl rfl rfl rfl (Nat.le_of_ble_eq_true rfl) dX5_init_30 (fun H locs hW => ?_)
  have hW : Wd G A s.heap H ([(h0, .inr (5, [.ref (a2 0), .ref (a4 0), .null, .null, .null, .null, .null, .int 0, .int 0, .long 0, .long 0]))] ++ (bSh G 6 40 a2 0 sh6 ++ bSh G 4 60 a4 0 sh4)) _ := hW
  refine lv_aload_n hx hb dX5_init_33 rfl (lv_at hl 0 rfl) ?_
  refine k_new C0 hW 2 rfl inX2 tyX2_ok mo_cl_X5_21 mo_in_2 mz_X2 df_X2 (Nat.le_of_ble_eq_true rfl) (Nat.le_of_ble_eq_true rfl) dX5_init_34 (fun q5 H hW => ?_)
  refine lv_dup hx hb dX5_init_37 rfl ?_
  refine k_cN (rest := [.ref (q5), .ref (h0)]) C0 hO hW hl.1 (c_X2_init l G q5) cb_X2_init mn_X5_23 (by decide) rfl rfl (Nat.le_of_ble_eq_true rfl) ⟨(Nat.le_of_ble_eq_true rfl), (Nat.le_of_ble_eq_true rfl)⟩ dX5_init_38 (fun a6 H locs h0_a6 hW_a6 => ?_)
  subst h0_a6
  have hW : Wd G A s.heap H ([(h0, .inr (5, [.ref (a2 0), .ref (a4 0), .null, .null, .null, .null, .null, .int 0, .int 0, .long 0, .long 0]))] ++ (bSh G 6 40 a2 0 sh6 ++ (bSh G 4 60 a4 0 sh4 ++ bRd G a6 0 rd0))) _ := hW_a6
  refine k_putF C0 hin hW 5 2 0 rfl (by decide) inX5 tyX5_ok nmX5 mf_X5_24 rfl rfl rfl rfl rfl (Nat.le_of_ble_eq_true rfl) dX5_init_41 (fun H locs hW => ?_)
  have hW : Wd G A s.heap H ([(h0, .inr (5, [.ref (a2 0), .ref (a4 0), .ref (a6 0), .null, .null, .null, .null, .int 0, .int 0, .long 0, .long 0]))] ++ (bSh G 6 40 a2 0 sh6 ++ (bSh G 4 60 a4 0 sh4 ++ bRd G a6 0 rd0))) _ := hW
  refine lv_aload_n hx hb dX5_init_44 rfl (lv_at hl 0 rfl) ?_
  refine k_new C0 hW 1 rfl inX1 tyX1_ok mo_cl_X5_28 mo_in_1 mz_X1 df_X1 (Nat.le_of_ble_eq_true rfl) (Nat.le_of_ble_eq_true rfl) dX5_init_45 (fun q7 H hW => ?_)
  refine lv_dup hx hb dX5_init_48 rfl ?_
  refine k_cN (rest := [.ref (q7), .ref (h0)]) C0 hO hW hl.1 (c_X1_init l G q7) cb_X1_init mn_X5_30 (by decide) rfl rfl (Nat.le_of_ble_eq_true rfl) ⟨(Nat.le_of_ble_eq_true rfl), (Nat.le_of_ble_eq_true rfl)⟩ dX5_init_49 (fun a8 H locs h0_a8 hW_a8 => ?_)
  subst h0_a8
  have hW : Wd G A s.heap H ([(h0, .inr (5, [.ref (a2 0), .ref (a4 0), .ref (a6 0), .null, .null, .null, .null, .int 0, .int 0, .long 0, .long 0]))] ++ (bSh G 6 40 a2 0 sh6 ++ (bSh G 4 60 a4 0 sh4 ++ (bRd G a6 0 rd0 ++ bCt G a8 0 ct0)))) _ := hW_a8
  refine k_putF C0 hin hW 5 3 0 rfl (by decide) inX5 tyX5_ok nmX5 mf_X5_31 rfl rfl rfl rfl rfl (Nat.le_of_ble_eq_true rfl) dX5_init_52 (fun H locs hW => ?_)
  have hW : Wd G A s.heap H ([(h0, .inr (5, [.ref (a2 0), .ref (a4 0), .ref (a6 0), .ref (a8 0), .null, .null, .null, .int 0, .int 0, .long 0, .long 0]))] ++ (bSh G 6 40 a2 0 sh6 ++ (bSh G 4 60 a4 0 sh4 ++ (bRd G a6 0 rd0 ++ bCt G a8 0 ct0)))) _ := hW
  refine lv_aload_n hx hb dX5_init_55 rfl (lv_at hl 0 rfl) ?_
  refine lv_iconst (v := 3) hx hb dX5_init_56 (by decide) ?_
  refine k_newC C0 hO hW mo_cl_X5_28 (N := 3) (by decide) (by decide) (by decide) (Nat.le_of_ble_eq_true rfl) (Nat.le_of_ble_eq_true rfl) dX5_init_57 (fun q9 H hW => ?_)
  have hW : Wd G A s.heap H ([(h0, .inr (5, [.ref (a2 0), .ref (a4 0), .ref (a6 0), .ref (a8 0), .null, .null, .null, .int 0, .int 0, .long 0, .long 0]))] ++ (bSh G 6 40 a2 0 sh6 ++ (bSh G 4 60 a4 0 sh4 ++ (bRd G a6 0 rd0 ++ (bCt G a8 0 ct0 ++ [(q9, eC G 3 (fun _ => none))]))))) _ := hW
  refine k_putF C0 hin hW 5 4 0 rfl (by decide) inX5 tyX5_ok nmX5 mf_X5_35 rfl rfl rfl rfl rfl (Nat.le_of_ble_eq_true rfl) dX5_init_60 (fun H locs hW => ?_)
  have hW : Wd G A s.heap H ([(h0, .inr (5, [.ref (a2 0), .ref (a4 0), .ref (a6 0), .ref (a8 0), .ref (q9), .null, .null, .int 0, .int 0, .long 0, .long 0]))] ++ (bSh G 6 40 a2 0 sh6 ++ (bSh G 4 60 a4 0 sh4 ++ (bRd G a6 0 rd0 ++ (bCt G a8 0 ct0 ++ [(q9, eC G 3 (fun _ => none))]))))) _ := hW
  refine lv_iconst (v := 0) hx hb dX5_init_63 (by decide) ?_
  refine lv_istore_n (lv' := [(1, .int (0 : Int32)), (0, .ref (h0))]) hx hb dX5_init_64 rfl hl (by decide) rfl (fun ls hl => ?_)
  refine lv_iload_n hx hb dX5_init_65 rfl (lv_at hl 0 rfl) ?_
  refine lv_iconst (v := 3) hx hb dX5_init_66 (by decide) ?_
  refine lv_icmp_ge (tgt := 99) hx hb dX5_init_67 (by decide) (fun c9 => absurd c9 (by decide)) (fun _ => ?_)
  refine lv_aload_n hx hb dX5_init_70 rfl (lv_at hl 1 rfl) ?_
  refine k_get C0 hW 5 4 0 (v := .ref (q9)) rfl (by decide) inX5 mf_X5_35 rfl rfl dX5_init_71 ?_
  refine lv_iload_n hx hb dX5_init_74 rfl (lv_at hl 0 rfl) ?_
  refine k_new C0 hW 1 rfl inX1 tyX1_ok mo_cl_X5_28 mo_in_1 mz_X1 df_X1 (Nat.le_of_ble_eq_true rfl) (Nat.le_of_ble_eq_true rfl) dX5_init_75 (fun q10 H hW => ?_)
  refine lv_dup hx hb dX5_init_78 rfl ?_
  refine k_cN (rest := [.ref (q10), .int (0 : Int32), .ref (q9)]) C0 hO hW hl.1 (c_X1_init l G q10) cb_X1_init mn_X5_30 (by decide) rfl rfl (Nat.le_of_ble_eq_true rfl) ⟨(Nat.le_of_ble_eq_true rfl), (Nat.le_of_ble_eq_true rfl)⟩ dX5_init_79 (fun a11 H locs h0_a11 hW_a11 => ?_)
  subst h0_a11
  have hW : Wd G A s.heap H ([(h0, .inr (5, [.ref (a2 0), .ref (a4 0), .ref (a6 0), .ref (a8 0), .ref (q9), .null, .null, .int 0, .int 0, .long 0, .long 0]))] ++ (bSh G 6 40 a2 0 sh6 ++ (bSh G 4 60 a4 0 sh4 ++ (bRd G a6 0 rd0 ++ (bCt G a8 0 ct0 ++ ([(q9, eC G 3 (fun _ => none))] ++ bCt G a11 0 ct0)))))) _ := hW_a11
  refine k_aast C0 hW 34 35 0 rfl rfl (inb_in rfl) rfl dX5_init_82 (fun H locs hW => ?_)
  have hW : Wd G A s.heap H ([(h0, .inr (5, [.ref (a2 0), .ref (a4 0), .ref (a6 0), .ref (a8 0), .ref (q9), .null, .null, .int 0, .int 0, .long 0, .long 0]))] ++ (bSh G 6 40 a2 0 sh6 ++ (bSh G 4 60 a4 0 sh4 ++ (bRd G a6 0 rd0 ++ (bCt G a8 0 ct0 ++ ([(q9, eC G 3 (va_up (fun _ => none) 0 (some (a11 0))))] ++ bCt G a11 0 ct0)))))) _ := hW
  refine lv_aload_n hx hb dX5_init_83 rfl (lv_at hl 1 rfl) ?_
  refine k_get C0 hW 5 4 0 (v := .ref (q9)) rfl (by decide) inX5 mf_X5_35 rfl rfl dX5_init_84 ?_
  refine lv_iload_n hx hb dX5_init_87 rfl (lv_at hl 0 rfl) ?_
  refine k_aaldC C0 hW 34 (b := a11 0) rfl (inb_in rfl) rfl dX5_init_88 ?_
  refine lv_iconst (v := -1) hx hb dX5_init_89 (by decide) ?_
  refine k_put C0 hW 1 3 35 rfl (by decide) inX1 tyX1_ok nmX1 mf_X5_39 rfl rfl rfl rfl (Nat.le_of_ble_eq_true rfl) dX5_init_90 (fun H locs hW => ?_)
  have hW : Wd G A s.heap H ([(h0, .inr (5, [.ref (a2 0), .ref (a4 0), .ref (a6 0), .ref (a8 0), .ref (q9), .null, .null, .int 0, .int 0, .long 0, .long 0]))] ++ (bSh G 6 40 a2 0 sh6 ++ (bSh G 4 60 a4 0 sh4 ++ (bRd G a6 0 rd0 ++ (bCt G a8 0 ct0 ++ ([(q9, eC G 3 (va_up (fun _ => none) 0 (some (a11 0))))] ++ bCt G a11 0 (ct_set_done ct0 (-1 : Int32)))))))) _ := hW
  refine lv_iinc (v := (1 : Int32)) (lv' := [(1, .int (1 : Int32)), (0, .ref (h0))]) hx hb dX5_init_93 hl (k := 0) rfl (by decide) (by decide) rfl (fun ls hl => ?_)
  refine lv_goto (tgt := 65) hx hb dX5_init_96 (by decide) ?_
  refine lv_iload_n hx hb dX5_init_65 rfl (lv_at hl 0 rfl) ?_
  refine lv_iconst (v := 3) hx hb dX5_init_66 (by decide) ?_
  refine lv_icmp_ge (tgt := 99) hx hb dX5_init_67 (by decide) (fun c9 => absurd c9 (by decide)) (fun _ => ?_)
  refine lv_aload_n hx hb dX5_init_70 rfl (lv_at hl 1 rfl) ?_
  refine k_get C0 hW 5 4 0 (v := .ref (q9)) rfl (by decide) inX5 mf_X5_35 rfl rfl dX5_init_71 ?_
  refine lv_iload_n hx hb dX5_init_74 rfl (lv_at hl 0 rfl) ?_
  refine k_new C0 hW 1 rfl inX1 tyX1_ok mo_cl_X5_28 mo_in_1 mz_X1 df_X1 (Nat.le_of_ble_eq_true rfl) (Nat.le_of_ble_eq_true rfl) dX5_init_75 (fun q12 H hW => ?_)
  refine lv_dup hx hb dX5_init_78 rfl ?_
  refine k_cN (rest := [.ref (q12), .int (1 : Int32), .ref (q9)]) C0 hO hW hl.1 (c_X1_init l G q12) cb_X1_init mn_X5_30 (by decide) rfl rfl (Nat.le_of_ble_eq_true rfl) ⟨(Nat.le_of_ble_eq_true rfl), (Nat.le_of_ble_eq_true rfl)⟩ dX5_init_79 (fun a13 H locs h0_a13 hW_a13 => ?_)
  subst h0_a13
  have hW : Wd G A s.heap H ([(h0, .inr (5, [.ref (a2 0), .ref (a4 0), .ref (a6 0), .ref (a8 0), .ref (q9), .null, .null, .int 0, .int 0, .long 0, .long 0]))] ++ (bSh G 6 40 a2 0 sh6 ++ (bSh G 4 60 a4 0 sh4 ++ (bRd G a6 0 rd0 ++ (bCt G a8 0 ct0 ++ ([(q9, eC G 3 (va_up (fun _ => none) 0 (some (a11 0))))] ++ (bCt G a11 0 (ct_set_done ct0 (-1 : Int32)) ++ bCt G a13 0 ct0))))))) _ := hW_a13
  refine k_aast C0 hW 34 44 1 rfl rfl (inb_in rfl) rfl dX5_init_82 (fun H locs hW => ?_)
  have hW : Wd G A s.heap H ([(h0, .inr (5, [.ref (a2 0), .ref (a4 0), .ref (a6 0), .ref (a8 0), .ref (q9), .null, .null, .int 0, .int 0, .long 0, .long 0]))] ++ (bSh G 6 40 a2 0 sh6 ++ (bSh G 4 60 a4 0 sh4 ++ (bRd G a6 0 rd0 ++ (bCt G a8 0 ct0 ++ ([(q9, eC G 3 (va_up (va_up (fun _ => none) 0 (some (a11 0))) 1 (some (a13 0))))] ++ (bCt G a11 0 (ct_set_done ct0 (-1 : Int32)) ++ bCt G a13 0 ct0))))))) _ := hW
  refine lv_aload_n hx hb dX5_init_83 rfl (lv_at hl 1 rfl) ?_
  refine k_get C0 hW 5 4 0 (v := .ref (q9)) rfl (by decide) inX5 mf_X5_35 rfl rfl dX5_init_84 ?_
  refine lv_iload_n hx hb dX5_init_87 rfl (lv_at hl 0 rfl) ?_
  refine k_aaldC C0 hW 34 (b := a13 0) rfl (inb_in rfl) rfl dX5_init_88 ?_
  refine lv_iconst (v := -1) hx hb dX5_init_89 (by decide) ?_
  refine k_put C0 hW 1 3 44 rfl (by decide) inX1 tyX1_ok nmX1 mf_X5_39 rfl rfl rfl rfl (Nat.le_of_ble_eq_true rfl) dX5_init_90 (fun H locs hW => ?_)
  have hW : Wd G A s.heap H ([(h0, .inr (5, [.ref (a2 0), .ref (a4 0), .ref (a6 0), .ref (a8 0), .ref (q9), .null, .null, .int 0, .int 0, .long 0, .long 0]))] ++ (bSh G 6 40 a2 0 sh6 ++ (bSh G 4 60 a4 0 sh4 ++ (bRd G a6 0 rd0 ++ (bCt G a8 0 ct0 ++ ([(q9, eC G 3 (va_up (va_up (fun _ => none) 0 (some (a11 0))) 1 (some (a13 0))))] ++ (bCt G a11 0 (ct_set_done ct0 (-1 : Int32)) ++ bCt G a13 0 (ct_set_done ct0 (-1 : Int32))))))))) _ := hW
  refine lv_iinc (v := (2 : Int32)) (lv' := [(1, .int (2 : Int32)), (0, .ref (h0))]) hx hb dX5_init_93 hl (k := 0) rfl (by decide) (by decide) rfl (fun ls hl => ?_)
  refine lv_goto (tgt := 65) hx hb dX5_init_96 (by decide) ?_
  refine lv_iload_n hx hb dX5_init_65 rfl (lv_at hl 0 rfl) ?_
  refine lv_iconst (v := 3) hx hb dX5_init_66 (by decide) ?_
  refine lv_icmp_ge (tgt := 99) hx hb dX5_init_67 (by decide) (fun c9 => absurd c9 (by decide)) (fun _ => ?_)
  refine lv_aload_n hx hb dX5_init_70 rfl (lv_at hl 1 rfl) ?_
  refine k_get C0 hW 5 4 0 (v := .ref (q9)) rfl (by decide) inX5 mf_X5_35 rfl rfl dX5_init_71 ?_
  refine lv_iload_n hx hb dX5_init_74 rfl (lv_at hl 0 rfl) ?_
  refine k_new C0 hW 1 rfl inX1 tyX1_ok mo_cl_X5_28 mo_in_1 mz_X1 df_X1 (Nat.le_of_ble_eq_true rfl) (Nat.le_of_ble_eq_true rfl) dX5_init_75 (fun q14 H hW => ?_)
  refine lv_dup hx hb dX5_init_78 rfl ?_
  refine k_cN (rest := [.ref (q14), .int (2 : Int32), .ref (q9)]) C0 hO hW hl.1 (c_X1_init l G q14) cb_X1_init mn_X5_30 (by decide) rfl rfl (Nat.le_of_ble_eq_true rfl) ⟨(Nat.le_of_ble_eq_true rfl), (Nat.le_of_ble_eq_true rfl)⟩ dX5_init_79 (fun a15 H locs h0_a15 hW_a15 => ?_)
  subst h0_a15
  have hW : Wd G A s.heap H ([(h0, .inr (5, [.ref (a2 0), .ref (a4 0), .ref (a6 0), .ref (a8 0), .ref (q9), .null, .null, .int 0, .int 0, .long 0, .long 0]))] ++ (bSh G 6 40 a2 0 sh6 ++ (bSh G 4 60 a4 0 sh4 ++ (bRd G a6 0 rd0 ++ (bCt G a8 0 ct0 ++ ([(q9, eC G 3 (va_up (va_up (fun _ => none) 0 (some (a11 0))) 1 (some (a13 0))))] ++ (bCt G a11 0 (ct_set_done ct0 (-1 : Int32)) ++ (bCt G a13 0 (ct_set_done ct0 (-1 : Int32)) ++ bCt G a15 0 ct0)))))))) _ := hW_a15
  refine k_aast C0 hW 34 53 2 rfl rfl (inb_in rfl) rfl dX5_init_82 (fun H locs hW => ?_)
  have hW : Wd G A s.heap H ([(h0, .inr (5, [.ref (a2 0), .ref (a4 0), .ref (a6 0), .ref (a8 0), .ref (q9), .null, .null, .int 0, .int 0, .long 0, .long 0]))] ++ (bSh G 6 40 a2 0 sh6 ++ (bSh G 4 60 a4 0 sh4 ++ (bRd G a6 0 rd0 ++ (bCt G a8 0 ct0 ++ ([(q9, eC G 3 (va_up (va_up (va_up (fun _ => none) 0 (some (a11 0))) 1 (some (a13 0))) 2 (some (a15 0))))] ++ (bCt G a11 0 (ct_set_done ct0 (-1 : Int32)) ++ (bCt G a13 0 (ct_set_done ct0 (-1 : Int32)) ++ bCt G a15 0 ct0)))))))) _ := hW
  refine lv_aload_n hx hb dX5_init_83 rfl (lv_at hl 1 rfl) ?_
  refine k_get C0 hW 5 4 0 (v := .ref (q9)) rfl (by decide) inX5 mf_X5_35 rfl rfl dX5_init_84 ?_
  refine lv_iload_n hx hb dX5_init_87 rfl (lv_at hl 0 rfl) ?_
  refine k_aaldC C0 hW 34 (b := a15 0) rfl (inb_in rfl) rfl dX5_init_88 ?_
  refine lv_iconst (v := -1) hx hb dX5_init_89 (by decide) ?_
  refine k_put C0 hW 1 3 53 rfl (by decide) inX1 tyX1_ok nmX1 mf_X5_39 rfl rfl rfl rfl (Nat.le_of_ble_eq_true rfl) dX5_init_90 (fun H locs hW => ?_)
  have hW : Wd G A s.heap H ([(h0, .inr (5, [.ref (a2 0), .ref (a4 0), .ref (a6 0), .ref (a8 0), .ref (q9), .null, .null, .int 0, .int 0, .long 0, .long 0]))] ++ (bSh G 6 40 a2 0 sh6 ++ (bSh G 4 60 a4 0 sh4 ++ (bRd G a6 0 rd0 ++ (bCt G a8 0 ct0 ++ ([(q9, eC G 3 (va_up (va_up (va_up (fun _ => none) 0 (some (a11 0))) 1 (some (a13 0))) 2 (some (a15 0))))] ++ (bCt G a11 0 (ct_set_done ct0 (-1 : Int32)) ++ (bCt G a13 0 (ct_set_done ct0 (-1 : Int32)) ++ bCt G a15 0 (ct_set_done ct0 (-1 : Int32)))))))))) _ := hW
  refine lv_iinc (v := (3 : Int32)) (lv' := [(1, .int (3 : Int32)), (0, .ref (h0))]) hx hb dX5_init_93 hl (k := 0) rfl (by decide) (by decide) rfl (fun ls hl => ?_)
  refine lv_goto (tgt := 65) hx hb dX5_init_96 (by decide) ?_
  refine lv_iload_n hx hb dX5_init_65 rfl (lv_at hl 0 rfl) ?_
  refine lv_iconst (v := 3) hx hb dX5_init_66 (by decide) ?_
  refine lv_icmp_ge (tgt := 99) hx hb dX5_init_67 (by decide) (fun _ => ?_) (fun c9 => absurd (by decide) c9)
  refine lv_aload_n hx hb dX5_init_99 rfl (lv_at hl 1 rfl) ?_
  refine k_new C0 hW 0 rfl inX0 tyX0_ok mo_cl_X5_43 mo_in_0 mz_X0 df_X0 (Nat.le_of_ble_eq_true rfl) (Nat.le_of_ble_eq_true rfl) dX5_init_100 (fun q16 H hW => ?_)
  refine lv_dup hx hb dX5_init_103 rfl ?_
  refine lv_aload_n hx hb dX5_init_104 rfl (lv_at hl 1 rfl) ?_
  refine k_get C0 hW 5 3 0 (v := .ref (a8 0)) rfl (by decide) inX5 mf_X5_31 rfl rfl dX5_init_105 ?_
  refine k_get C0 hW 1 0 25 (v := .ref (a8 3)) rfl (by decide) inX1 mf_X5_45 rfl rfl dX5_init_108 ?_
  refine k_cI (rest := [.ref (q16), .ref (h0)]) C0 hO hW hl.1 (c_X0_init l G q16 (a8 3)) cb_X0_init mm_X5_49 (by decide) rfl rfl (Nat.le_of_ble_eq_true rfl) ⟨(Nat.le_of_ble_eq_true rfl), (Nat.le_of_ble_eq_true rfl)⟩ dX5_init_111 (fun a17 H locs h0_a17 hW_a17 => ?_)
  subst h0_a17
  have hW : Wd G A s.heap H ([(h0, .inr (5, [.ref (a2 0), .ref (a4 0), .ref (a6 0), .ref (a8 0), .ref (q9), .null, .null, .int 0, .int 0, .long 0, .long 0]))] ++ (bSh G 6 40 a2 0 sh6 ++ (bSh G 4 60 a4 0 sh4 ++ (bRd G a6 0 rd0 ++ (bCt G a8 0 ct0 ++ ([(q9, eC G 3 (va_up (va_up (va_up (fun _ => none) 0 (some (a11 0))) 1 (some (a13 0))) 2 (some (a15 0))))] ++ (bCt G a11 0 (ct_set_done ct0 (-1 : Int32)) ++ (bCt G a13 0 (ct_set_done ct0 (-1 : Int32)) ++ (bCt G a15 0 (ct_set_done ct0 (-1 : Int32)) ++ bAs G a17 0 (a8 3) as0))))))))) _ := hW_a17
  refine k_putF C0 hin hW 5 5 0 rfl (by decide) inX5 tyX5_ok nmX5 mf_X5_52 rfl rfl rfl rfl rfl (Nat.le_of_ble_eq_true rfl) dX5_init_114 (fun H locs hW => ?_)
  have hW : Wd G A s.heap H ([(h0, .inr (5, [.ref (a2 0), .ref (a4 0), .ref (a6 0), .ref (a8 0), .ref (q9), .ref (a17 0), .null, .int 0, .int 0, .long 0, .long 0]))] ++ (bSh G 6 40 a2 0 sh6 ++ (bSh G 4 60 a4 0 sh4 ++ (bRd G a6 0 rd0 ++ (bCt G a8 0 ct0 ++ ([(q9, eC G 3 (va_up (va_up (va_up (fun _ => none) 0 (some (a11 0))) 1 (some (a13 0))) 2 (some (a15 0))))] ++ (bCt G a11 0 (ct_set_done ct0 (-1 : Int32)) ++ (bCt G a13 0 (ct_set_done ct0 (-1 : Int32)) ++ (bCt G a15 0 (ct_set_done ct0 (-1 : Int32)) ++ bAs G a17 0 (a8 3) as0))))))))) _ := hW
  refine lv_aload_n hx hb dX5_init_117 rfl (lv_at hl 1 rfl) ?_
  refine lv_bipush (v := 6) hx hb dX5_init_118 (by decide) ?_
  refine k_newI C0 hW (N := 6) (by decide) (by decide) (by decide) (Nat.le_of_ble_eq_true rfl) (Nat.le_of_ble_eq_true rfl) dX5_init_120 (fun q18 H hW => ?_)
  have hW : Wd G A s.heap H ([(h0, .inr (5, [.ref (a2 0), .ref (a4 0), .ref (a6 0), .ref (a8 0), .ref (q9), .ref (a17 0), .null, .int 0, .int 0, .long 0, .long 0]))] ++ (bSh G 6 40 a2 0 sh6 ++ (bSh G 4 60 a4 0 sh4 ++ (bRd G a6 0 rd0 ++ (bCt G a8 0 ct0 ++ ([(q9, eC G 3 (va_up (va_up (va_up (fun _ => none) 0 (some (a11 0))) 1 (some (a13 0))) 2 (some (a15 0))))] ++ (bCt G a11 0 (ct_set_done ct0 (-1 : Int32)) ++ (bCt G a13 0 (ct_set_done ct0 (-1 : Int32)) ++ (bCt G a15 0 (ct_set_done ct0 (-1 : Int32)) ++ (bAs G a17 0 (a8 3) as0 ++ [(q18, eI G 6 (fun _ => 0))])))))))))) _ := hW
  refine k_putF C0 hin hW 5 6 0 rfl (by decide) inX5 tyX5_ok nmX5 mf_X5_56 rfl rfl rfl rfl rfl (Nat.le_of_ble_eq_true rfl) dX5_init_122 (fun H locs hW => ?_)
  have hW : Wd G A s.heap H ([(h0, .inr (5, [.ref (a2 0), .ref (a4 0), .ref (a6 0), .ref (a8 0), .ref (q9), .ref (a17 0), .ref (q18), .int 0, .int 0, .long 0, .long 0]))] ++ (bSh G 6 40 a2 0 sh6 ++ (bSh G 4 60 a4 0 sh4 ++ (bRd G a6 0 rd0 ++ (bCt G a8 0 ct0 ++ ([(q9, eC G 3 (va_up (va_up (va_up (fun _ => none) 0 (some (a11 0))) 1 (some (a13 0))) 2 (some (a15 0))))] ++ (bCt G a11 0 (ct_set_done ct0 (-1 : Int32)) ++ (bCt G a13 0 (ct_set_done ct0 (-1 : Int32)) ++ (bCt G a15 0 (ct_set_done ct0 (-1 : Int32)) ++ (bAs G a17 0 (a8 3) as0 ++ [(q18, eI G 6 (fun _ => 0))])))))))))) _ := hW
  refine lv_aload_n hx hb dX5_init_125 rfl (lv_at hl 1 rfl) ?_
  refine lv_lconst (v := 1) hx hb dX5_init_126 (by decide) ?_
  refine k_put C0 hW 5 10 0 rfl (by decide) inX5 tyX5_ok nmX5 mf_X5_60 rfl rfl rfl rfl (Nat.le_of_ble_eq_true rfl) dX5_init_127 (fun H locs hW => ?_)
  have hW : Wd G A s.heap H ([(h0, .inr (5, [.ref (a2 0), .ref (a4 0), .ref (a6 0), .ref (a8 0), .ref (q9), .ref (a17 0), .ref (q18), .int 0, .int 0, .long 0, .long (1 : Int64)]))] ++ (bSh G 6 40 a2 0 sh6 ++ (bSh G 4 60 a4 0 sh4 ++ (bRd G a6 0 rd0 ++ (bCt G a8 0 ct0 ++ ([(q9, eC G 3 (va_up (va_up (va_up (fun _ => none) 0 (some (a11 0))) 1 (some (a13 0))) 2 (some (a15 0))))] ++ (bCt G a11 0 (ct_set_done ct0 (-1 : Int32)) ++ (bCt G a13 0 (ct_set_done ct0 (-1 : Int32)) ++ (bCt G a15 0 (ct_set_done ct0 (-1 : Int32)) ++ (bAs G a17 0 (a8 3) as0 ++ [(q18, eI G 6 (fun _ => 0))])))))))))) _ := hW
  have ef : (va_up (va_up (va_up (fun _ => none) 0 (some (a11 0))) 1 (some (a13 0))) 2 (some (a15 0))) = (fun j => if j < 3 then some ((fun k => if k = 0 then h0 else if k = 1 then q18 else if k = 2 then q9 else if k < 12 then a2 (k - 3) else if k < 19 then a4 (k - 12) else if k < 27 then a6 (k - 19) else if k < 36 then a8 (k - 27) else if k < 45 then a11 (k - 36) else if k < 54 then a13 (k - 45) else if k < 63 then a15 (k - 54) else a17 (k - 63)) (0 + 36 + 9 * j)) else none) := by
    funext j
    match j with
    | 0 => rfl
    | 1 => rfl
    | 2 => rfl
    | j + 3 =>
      rw [if_neg (show ¬ j + 3 < 3 by omega)]
      simp [va_up]
  have efR : (fun j => if j < 6 then some (a2 (0 + 3 + j)) else none) = (fun j => if j < 6 then some ((fun k => if k = 0 then h0 else if k = 1 then q18 else if k = 2 then q9 else if k < 12 then a2 (k - 3) else if k < 19 then a4 (k - 12) else if k < 27 then a6 (k - 19) else if k < 36 then a8 (k - 27) else if k < 45 then a11 (k - 36) else if k < 54 then a13 (k - 45) else if k < 63 then a15 (k - 54) else a17 (k - 63)) (0 + 6 + j)) else none) := by
    funext j
    match j with
    | 0 => rfl
    | 1 => rfl
    | 2 => rfl
    | 3 => rfl
    | 4 => rfl
    | 5 => rfl
    | j + 6 => rw [if_neg (show ¬ j + 6 < 6 by omega), if_neg (show ¬ j + 6 < 6 by omega)]
  have efT : (fun j => if j < 4 then some (a4 (0 + 3 + j)) else none) = (fun j => if j < 4 then some ((fun k => if k = 0 then h0 else if k = 1 then q18 else if k = 2 then q9 else if k < 12 then a2 (k - 3) else if k < 19 then a4 (k - 12) else if k < 27 then a6 (k - 19) else if k < 36 then a8 (k - 27) else if k < 45 then a11 (k - 36) else if k < 54 then a13 (k - 45) else if k < 63 then a15 (k - 54) else a17 (k - 63)) (0 + 15 + j)) else none) := by
    funext j
    match j with
    | 0 => rfl
    | 1 => rfl
    | 2 => rfl
    | 3 => rfl
    | j + 4 => rw [if_neg (show ¬ j + 4 < 4 by omega), if_neg (show ¬ j + 4 < 4 by omega)]
  have hW : Wd G A s.heap H (List.flatten [[(h0, .inr (5, [.ref (a2 0), .ref (a4 0), .ref (a6 0), .ref (a8 0), .ref (q9), .ref (a17 0), .ref (q18), .int 0, .int 0, .long 0, .long (1 : Int64)]))], [(a2 0, .inr (3, [.int 40, .ref (a2 1), .ref (a2 2)])), (a2 1, eR G 6 (fun j => if j < 6 then some (a2 (0 + 3 + j)) else none)), (a2 2, eI G 6 sz6), (a2 3, eI G 40 z0), (a2 4, eI G 40 z0), (a2 5, eI G 40 z0), (a2 6, eI G 40 z0), (a2 7, eI G 40 z0), (a2 8, eI G 40 z0)], [(a4 0, .inr (3, [.int 60, .ref (a4 1), .ref (a4 2)])), (a4 1, eR G 4 (fun j => if j < 4 then some (a4 (0 + 3 + j)) else none)), (a4 2, eI G 4 sz4), (a4 3, eI G 60 z0), (a4 4, eI G 60 z0), (a4 5, eI G 60 z0), (a4 6, eI G 60 z0)], bRd G a6 0 rd0, bCt G a8 0 ct0, [(q9, eC G 3 (va_up (va_up (va_up (fun _ => none) 0 (some (a11 0))) 1 (some (a13 0))) 2 (some (a15 0))))], bCt G a11 0 (ct_set_done ct0 (-1 : Int32)), bCt G a13 0 (ct_set_done ct0 (-1 : Int32)), bCt G a15 0 (ct_set_done ct0 (-1 : Int32)), bAs G a17 0 (a8 3) as0, [(q18, eI G 6 (fun _ => 0))]]) _ := hW
  rw [ef, efR, efT] at hW
  replace hW := perm_W ((pick_mem (is := [0, 10, 5, 1, 2, 3, 4, 6, 7, 8, 9]) (by show List.Perm _ (List.range 11); decide)).symm.flatten) hW
  exact k_cret C0 (fun k => if k = 0 then h0 else if k = 1 then q18 else if k = 2 then q9 else if k < 12 then a2 (k - 3) else if k < 19 then a4 (k - 12) else if k < 27 then a6 (k - 19) else if k < 36 then a8 (k - 27) else if k < 45 then a11 (k - 36) else if k < 54 then a13 (k - 45) else if k < 63 then a15 (k - 54) else a17 (k - 63)) rfl hW dX5_init_130
