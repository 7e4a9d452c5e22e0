theorem k_aast {p : Program} {l : Launch} {e : Env} {R : Room} {s : State} {m : MethodId} {args : Array Value} {below : List Frame} {meth : Method} {c : Code} {H : Heap} {locs : List Loc} {cells slots : Nat} {Q : State → Prop} {G : GG} {A : Nat → Prop} {own : String} {cc : ByteArray} {nL : Nat} {ret : Option FieldType} {pc : Nat} {ls : Array Slot} {rest : List Value} {ws : va_W} (C0 : Cx p s m args meth c G A own cc nL ret) (hW : Wd G A s.heap H ws locs) (q0 qk j : Nat) {a n v : Nat} {vs : List Value} {f : Nat → Option Nat} {i : Int32} (ha : ws[q0]? = some (a, eC G n f)) (hv : ws[qk]? = some (v, .inr (1, vs))) (hin : vp_in i n) (hj : i.toNatClampNeg = j) (hdg : decode cc pc = .ok (.aastore, 1))
    (kk : ∀ (H1 : Heap) (locs1 : List Loc), Wd G A s.heap H1 (ws.set q0 (a, eC G n (va_up f j (some v)))) locs1 → W p l e R s m args below meth c H1 locs1 cells slots Q (F0 m (pc + 1) ls rest)) : W p l e R s m args below meth c H locs cells slots Q (F0 m pc ls (.ref v :: .int i :: .ref a :: rest)) := by
  obtain ⟨hx, hb, -, -, -, ho, hts, hK, -, -, -⟩ := C0
  subst hj
  exact va_astq (r := (RX1, TX1, 4)) hx hb hK hW.1 hW.2.1 hW.2.2 q0 3 qk 1 ha rfl hv rfl hin hdg (fun H1 locs1 h1 h2 h3 => kk H1 locs1 ⟨h1, h2, h3⟩)
abbrev z0 : Ar := fun _ => 0
def wh0 : Wh := (z0, z0, z0, z0, z0, 0, 0, 0, 0, 0, 0)
def ct0 : Ct := (wh0, z0, z0, 0)
def rd0 : Rd := (wh0, z0, 0, 0)
def as0 : As := (0, wh0)
theorem cb_X0_init : cbI yX0_init cX0_init 2 1 := ⟨mi_X0_init, mz_X0, mc_X0_init, rfl, by decide +kernel, by decide +kernel, by decide +kernel⟩
theorem df_X0 : ∀ j, j < 3 → defaultValue (tyX0 j) = vp_V [.int 0, .null, .null] j := by
  intro j hj
  match j, hj with
  | 0, _ => rfl
  | 1, _ => rfl
  | 2, _ => rfl
  | k + 3, h => exact absurd h (by omega)
theorem cb_X1_init : cbI yX1_init cX1_init 1 0 := ⟨mi_X1_init, mz_X1, mc_X1_init, rfl, by decide +kernel, by decide +kernel, by decide +kernel⟩
theorem df_X1 : ∀ j, j < 4 → defaultValue (tyX1 j) = vp_V [.null, .null, .null, .int 0] j := by
  intro j hj
  match j, hj with
  | 0, _ => rfl
  | 1, _ => rfl
  | 2, _ => rfl
  | 3, _ => rfl
  | k + 4, h => exact absurd h (by omega)
theorem cb_X2_init : cbI yX2_init cX2_init 1 0 := ⟨mi_X2_init, mz_X2, mc_X2_init, rfl, by decide +kernel, by decide +kernel, by decide +kernel⟩
theorem df_X2 : ∀ j, j < 4 → defaultValue (tyX2 j) = vp_V [.null, .null, .int 0, .int 0] j := by
  intro j hj
  match j, hj with
  | 0, _ => rfl
  | 1, _ => rfl
  | 2, _ => rfl
  | 3, _ => rfl
  | k + 4, h => exact absurd h (by omega)
theorem cb_X3_init : cbI yX3_init cX3_init 3 2 := ⟨mi_X3_init, mz_X3, mc_X3_init, rfl, by decide +kernel, by decide +kernel, by decide +kernel⟩
theorem df_X3 : ∀ j, j < 3 → defaultValue (tyX3 j) = vp_V [.int 0, .null, .null] j := by
  intro j hj
  match j, hj with
  | 0, _ => rfl
  | 1, _ => rfl
  | 2, _ => rfl
  | k + 3, h => exact absurd h (by omega)
theorem cb_X4_init : cbI yX4_init cX4_init 1 0 := ⟨mi_X4_init, mz_X4, mc_X4_init, rfl, by decide +kernel, by decide +kernel, by decide +kernel⟩
theorem df_X4 : ∀ j, j < 11 → defaultValue (tyX4 j) = vp_V [.null, .null, .null, .null, .null, .int 0, .int 0, .int 0, .int 0, .int 0, .int 0] j := by
  intro j hj
  match j, hj with
  | 0, _ => rfl
  | 1, _ => rfl
  | 2, _ => rfl
  | 3, _ => rfl
  | 4, _ => rfl
  | 5, _ => rfl
  | 6, _ => rfl
  | 7, _ => rfl
  | 8, _ => rfl
  | 9, _ => rfl
  | 10, _ => rfl
  | k + 11, h => exact absurd h (by omega)
theorem cb_X5_init : cbI yX5_init cX5_init 2 0 := ⟨mi_X5_init, mz_X5, mc_X5_init, rfl, by decide +kernel, by decide +kernel, by decide +kernel⟩
theorem df_X5 : ∀ j, j < 11 → defaultValue (tyX5 j) = vp_V [.null, .null, .null, .null, .null, .null, .null, .int 0, .int 0, .long 0, .long 0] j := by
  intro j hj
  match j, hj with
  | 0, _ => rfl
  | 1, _ => rfl
  | 2, _ => rfl
  | 3, _ => rfl
  | 4, _ => rfl
  | 5, _ => rfl
  | 6, _ => rfl
  | 7, _ => rfl
  | 8, _ => rfl
  | 9, _ => rfl
  | 10, _ => rfl
  | k + 11, h => exact absurd h (by omega)
theorem cb_X6_init : cbI yX6_init cX6_init 2 0 := ⟨mi_X6_init, mz_X6, mc_X6_init, rfl, by decide +kernel, by decide +kernel, by decide +kernel⟩
theorem df_X6 : ∀ j, j < 34 → defaultValue (tyX6 j) = vp_V [.int 0, .long 0, .long 0, .int 0, .null, .null, .null, .null, .null, .null, .int 0, .int 0, .int 0, .int 0, .null, .null, .null, .null, .int 0, .int 0, .null, .null, .null, .null, .null, .null, .int 0, .null, .null, .null, .null, .null, .long 0, .long 0] j := by
  intro j hj
  match j, hj with
  | 0, _ => rfl
  | 1, _ => rfl
  | 2, _ => rfl
  | 3, _ => rfl
  | 4, _ => rfl
  | 5, _ => rfl
  | 6, _ => rfl
  | 7, _ => rfl
  | 8, _ => rfl
  | 9, _ => rfl
  | 10, _ => rfl
  | 11, _ => rfl
  | 12, _ => rfl
  | 13, _ => rfl
  | 14, _ => rfl
  | 15, _ => rfl
  | 16, _ => rfl
  | 17, _ => rfl
  | 18, _ => rfl
  | 19, _ => rfl
  | 20, _ => rfl
  | 21, _ => rfl
  | 22, _ => rfl
  | 23, _ => rfl
  | 24, _ => rfl
  | 25, _ => rfl
  | 26, _ => rfl
  | 27, _ => rfl
  | 28, _ => rfl
  | 29, _ => rfl
  | 30, _ => rfl
  | 31, _ => rfl
  | 32, _ => rfl
  | 33, _ => rfl
  | k + 34, h => exact absurd h (by omega)

set_option maxRecDepth 100000 in
set_option maxHeartbeats 4000000 in
theorem c_X4_init (l : Launch) (G : GG) (h0 : Nat) : Ca l G 1 5 40 yX4_init cX4_init 1 [.ref h0] h0 [(h0, .inr (4, [.null, .null, .null, .null, .null, .int 0, .int 0, .int 0, .int 0, .int 0, .int 0]))] (fun a => bWh G a 0 wh0) := by
  refine ca_start (by decide) (Nat.le_of_ble_eq_true rfl) ?_
  intro p e s m below meth c A ls C0 hO hin hW hl
  have hx := C0.1
  have hb := C0.2.1
  have hl : lv_has ls 1 [(0, .ref h0)] := hl
  refine lv_aload_n hx hb dX4_init_0 rfl (lv_at hl 0 rfl) ?_
  refine k_oinit C0 hl.1 mm_X4_3 (by decide) (Nat.le_of_ble_eq_true rfl) dX4_init_1 ?_
  refine lv_aload_n hx hb dX4_init_4 rfl (lv_at hl 0 rfl) ?_
  refine lv_bipush (v := 8) hx hb dX4_init_5 (by decide) ?_
  refine k_newI C0 hW (N := 8) (by decide) (by decide) (by decide) (Nat.le_of_ble_eq_true rfl) (Nat.le_of_ble_eq_true rfl) dX4_init_7 (fun q1 H hW => ?_)
  have hW : Wd G A s.heap H [(h0, .inr (4, [.null, .null, .null, .null, .null, .int 0, .int 0, .int 0, .int 0, .int 0, .int 0])), (q1, eI G 8 (fun _ => 0))] _ := hW
  refine k_putF C0 hin hW 4 0 0 rfl (by decide) inX4 tyX4_ok nmX4 mf_X4_9 rfl rfl rfl rfl rfl (Nat.le_of_ble_eq_true rfl) dX4_init_9 (fun H locs hW => ?_)
  have hW : Wd G A s.heap H [(h0, .inr (4, [.ref (q1), .null, .null, .null, .null, .int 0, .int 0, .int 0, .int 0, .int 0, .int 0])), (q1, eI G 8 (fun _ => 0))] _ := hW
  refine lv_aload_n hx hb dX4_init_12 rfl (lv_at hl 0 rfl) ?_
  refine lv_bipush (v := 8) hx hb dX4_init_13 (by decide) ?_
  refine k_newI C0 hW (N := 8) (by decide) (by decide) (by decide) (Nat.le_of_ble_eq_true rfl) (Nat.le_of_ble_eq_true rfl) dX4_init_15 (fun q2 H hW => ?_)
  have hW : Wd G A s.heap H [(h0, .inr (4, [.ref (q1), .null, .null, .null, .null, .int 0, .int 0, .int 0, .int 0, .int 0, .int 0])), (q1, eI G 8 (fun _ => 0)), (q2, eI G 8 (fun _ => 0))] _ := hW
  refine k_putF C0 hin hW 4 1 0 rfl (by decide) inX4 tyX4_ok nmX4 mf_X4_15 rfl rfl rfl rfl rfl (Nat.le_of_ble_eq_true rfl) dX4_init_17 (fun H locs hW => ?_)
  have hW : Wd G A s.heap H [(h0, .inr (4, [.ref (q1), .ref (q2), .null, .null, .null, .int 0, .int 0, .int 0, .int 0, .int 0, .int 0])), (q1, eI G 8 (fun _ => 0)), (q2, eI G 8 (fun _ => 0))] _ := hW
  refine lv_aload_n hx hb dX4_init_20 rfl (lv_at hl 0 rfl) ?_
  refine lv_bipush (v := 8) hx hb dX4_init_21 (by decide) ?_
  refine k_newI C0 hW (N := 8) (by decide) (by decide) (by decide) (Nat.le_of_ble_eq_true rfl) (Nat.le_of_ble_eq_true rfl) dX4_init_23 (fun q3 H hW => ?_)
  have hW : Wd G A s.heap H [(h0, .inr (4, [.ref (q1), .ref (q2), .null, .null, .null, .int 0, .int 0, .int 0, .int 0, .int 0, .int 0])), (q1, eI G 8 (fun _ => 0)), (q2, eI G 8 (fun _ => 0)), (q3, eI G 8 (fun _ => 0))] _ := hW
  refine k_putF C0 hin hW 4 2 0 rfl (by decide) inX4 tyX4_ok nmX4 mf_X4_18 rfl rfl rfl rfl rfl (Nat.le_of_ble_eq_true rfl) dX4_init_25 (fun H locs hW => ?_)
  have hW : Wd G A s.heap H [(h0, .inr (4, [.ref (q1), .ref (q2), .ref (q3), .null, .null, .int 0, .int 0, .int 0, .int 0, .int 0, .int 0])), (q1, eI G 8 (fun _ => 0)), (q2, eI G 8 (fun _ => 0)), (q3, eI G 8 (fun _ => 0))] _ := hW
  refine lv_aload_n hx hb dX4_init_28 rfl (lv_at hl 0 rfl) ?_
  refine lv_bipush (v := 8) hx hb dX4_init_29 (by decide) ?_
  refine k_newI C0 hW (N := 8) (by decide) (by decide) (by decide) (Nat.le_of_ble_eq_true rfl) (Nat.le_of_ble_eq_true rfl) dX4_init_31 (fun q4 H hW => ?_)
  have hW : Wd G A s.heap H [(h0, .inr (4, [.ref (q1), .ref (q2), .ref (q3), .null, .null, .int 0, .int 0, .int 0, .int 0, .int 0, .int 0])), (q1, eI G 8 (fun _ => 0)), (q2, eI G 8 (fun _ => 0)), (q3, eI G 8 (fun _ => 0)), (q4, eI G 8 (fun _ => 0))] _ := hW
  refine k_putF C0 hin hW 4 3 0 rfl (by decide) inX4 tyX4_ok nmX4 mf_X4_21 rfl rfl rfl rfl rfl (Nat.le_of_ble_eq_true rfl) dX4_init_33 (fun H locs hW => ?_)
  have hW : Wd G A s.heap H [(h0, .inr (4, [.ref (q1), .ref (q2), .ref (q3), .ref (q4), .null, .int 0, .int 0, .int 0, .int 0, .int 0, .int 0])), (q1, eI G 8 (fun _ => 0)), (q2, eI G 8 (fun _ => 0)), (q3, eI G 8 (fun _ => 0)), (q4, eI G 8 (fun _ => 0))] _ := hW
  refine lv_aload_n hx hb dX4_init_36 rfl (lv_at hl 0 rfl) ?_
  refine lv_bipush (v := 8) hx hb dX4_init_37 (by decide) ?_
  refine k_newI C0 hW (N := 8) (by decide) (by decide) (by decide) (Nat.le_of_ble_eq_true rfl) (Nat.le_of_ble_eq_true rfl) dX4_init_39 (fun q5 H hW => ?_)
  have hW : Wd G A s.heap H [(h0, .inr (4, [.ref (q1), .ref (q2), .ref (q3), .ref (q4), .null, .int 0, .int 0, .int 0, .int 0, .int 0, .int 0])), (q1, eI G 8 (fun _ => 0)), (q2, eI G 8 (fun _ => 0)), (q3, eI G 8 (fun _ => 0)), (q4, eI G 8 (fun _ => 0)), (q5, eI G 8 (fun _ => 0))] _ := hW
  refine k_putF C0 hin hW 4 4 0 rfl (by decide) inX4 tyX4_ok nmX4 mf_X4_24 rfl rfl rfl rfl rfl (Nat.le_of_ble_eq_true rfl) dX4_init_41 (fun H locs hW => ?_)
  have hW : Wd G A s.heap H [(h0, .inr (4, [.ref (q1), .ref (q2), .ref (q3), .ref (q4), .ref (q5), .int 0, .int 0, .int 0, .int 0, .int 0, .int 0])), (q1, eI G 8 (fun _ => 0)), (q2, eI G 8 (fun _ => 0)), (q3, eI G 8 (fun _ => 0)), (q4, eI G 8 (fun _ => 0)), (q5, eI G 8 (fun _ => 0))] _ := hW
  exact k_cret C0 (fun k => ([h0, q1, q2, q3, q4, q5] : List Nat).getD k 0) rfl hW dX4_init_44

set_option maxRecDepth 100000 in
set_option maxHeartbeats 4000000 in
theorem c_X1_init (l : Launch) (G : GG) (h0 : Nat) : Ca l G 2 8 131 yX1_init cX1_init 1 [.ref h0] h0 [(h0, .inr (1, [.null, .null, .null, .int 0]))] (fun a => bCt G a 0 ct0) := by
  refine ca_start (by decide) (Nat.le_of_ble_eq_true rfl) ?_
  intro p e s m below meth c A ls C0 hO hin hW hl
  have hx := C0.1
  have hb := C0.2.1
  have hl : lv_has ls 1 [(0, .ref h0)] := hl
  refine lv_aload_n hx hb dX1_init_0 rfl (lv_at hl 0 rfl) ?_
  refine k_oinit C0 hl.1 mm_X1_3 (by decide) (Nat.le_of_ble_eq_true rfl) dX1_init_1 ?_
  refine lv_aload_n hx hb dX1_init_4 rfl (lv_at hl 0 rfl) ?_
  refine k_new C0 hW 4 rfl inX4 tyX4_ok mo_cl_X1_9 mo_in_4 mz_X4 df_X4 (Nat.le_of_ble_eq_true rfl) (Nat.le_of_ble_eq_true rfl) dX1_init_5 (fun q1 H hW => ?_)
  refine lv_dup hx hb dX1_init_8 rfl ?_
  refine k_cN (rest := [.ref (q1), .ref (h0)]) C0 hO hW hl.1 (c_X4_init l G q1) cb_X4_init mn_X1_11 (by decide) rfl rfl (Nat.le_of_ble_eq_true rfl) ⟨(Nat.le_of_ble_eq_true rfl), (Nat.le_of_ble_eq_true rfl)⟩ dX1_init_9 (fun a2 H locs h0_a2 hW_a2 => ?_)
  subst h0_a2
  have hW : Wd G A s.heap H ([(h0, .inr (1, [.null, .null, .null, .int 0]))] ++ bWh G a2 0 wh0) _ := hW_a2
  refine k_putF C0 hin hW 1 0 0 rfl (by decide) inX1 tyX1_ok nmX1 mf_X1_12 rfl rfl rfl rfl rfl (Nat.le_of_ble_eq_true rfl) dX1_init_12 (fun H locs hW => ?_)
  have hW : Wd G A s.heap H ([(h0, .inr (1, [.ref (a2 0), .null, .null, .int 0]))] ++ bWh G a2 0 wh0) _ := hW
  refine lv_aload_n hx hb dX1_init_15 rfl (lv_at hl 0 rfl) ?_
  refine lv_bipush (v := 40) hx hb dX1_init_16 (by decide) ?_
  refine k_newI C0 hW (N := 40) (by decide) (by decide) (by decide) (Nat.le_of_ble_eq_true rfl) (Nat.le_of_ble_eq_true rfl) dX1_init_18 (fun q3 H hW => ?_)
  have hW : Wd G A s.heap H ([(h0, .inr (1, [.ref (a2 0), .null, .null, .int 0]))] ++ (bWh G a2 0 wh0 ++ [(q3, eI G 40 (fun _ => 0))])) _ := hW
  refine k_putF C0 hin hW 1 1 0 rfl (by decide) inX1 tyX1_ok nmX1 mf_X1_18 rfl rfl rfl rfl rfl (Nat.le_of_ble_eq_true rfl) dX1_init_20 (fun H locs hW => ?_)
  have hW : Wd G A s.heap H ([(h0, .inr (1, [.ref (a2 0), .ref (q3), .null, .int 0]))] ++ (bWh G a2 0 wh0 ++ [(q3, eI G 40 (fun _ => 0))])) _ := hW
  refine lv_aload_n hx hb dX1_init_23 rfl (lv_at hl 0 rfl) ?_
  refine lv_bipush (v := 40) hx hb dX1_init_24 (by decide) ?_
  refine k_newI C0 hW (N := 40) (by decide) (by decide) (by decide) (Nat.le_of_ble_eq_true rfl) (Nat.le_of_ble_eq_true rfl) dX1_init_26 (fun q4 H hW => ?_)
  have hW : Wd G A s.heap H ([(h0, .inr (1, [.ref (a2 0), .ref (q3), .null, .int 0]))] ++ (bWh G a2 0 wh0 ++ [(q3, eI G 40 (fun _ => 0)), (q4, eI G 40 (fun _ => 0))])) _ := hW
  refine k_putF C0 hin hW 1 2 0 rfl (by decide) inX1 tyX1_ok nmX1 mf_X1_22 rfl rfl rfl rfl rfl (Nat.le_of_ble_eq_true rfl) dX1_init_28 (fun H locs hW => ?_)
  have hW : Wd G A s.heap H ([(h0, .inr (1, [.ref (a2 0), .ref (q3), .ref (q4), .int 0]))] ++ (bWh G a2 0 wh0 ++ [(q3, eI G 40 (fun _ => 0)), (q4, eI G 40 (fun _ => 0))])) _ := hW
  have hW : Wd G A s.heap H (List.flatten [[(h0, .inr (1, [.ref (a2 0), .ref (q3), .ref (q4), .int 0]))], bWh G a2 0 wh0, [(q3, eI G 40 (fun _ => 0))], [(q4, eI G 40 (fun _ => 0))]]) _ := hW
  replace hW := perm_W ((pick_mem (l := [[(h0, .inr (1, [.ref (a2 0), .ref (q3), .ref (q4), .int 0]))], bWh G a2 0 wh0, [(q3, eI G 40 (fun _ => 0))], [(q4, eI G 40 (fun _ => 0))]]) (is := [0, 2, 3, 1]) (by show List.Perm _ (List.range 4); decide)).symm.flatten) hW
  exact k_cret C0 (fun k => if k = 0 then h0 else if k = 1 then q3 else if k = 2 then q4 else a2 (k - 3)) rfl hW dX1_init_31

set_option maxRecDepth 100000 in
set_option maxHeartbeats 4000000 in
theorem c_X2_init (l : Launch) (G : GG) (h0 : Nat) : Ca l G 2 7 111 yX2_init cX2_init 1 [.ref h0] h0 [(h0, .inr (2, [.null, .null, .int 0, .int 0]))] (fun a => bRd G a 0 rd0) := by
  refine ca_start (by decide) (Nat.le_of_ble_eq_true rfl) ?_
  intro p e s m below meth c A ls C0 hO hin hW hl
  have hx := C0.1
  have hb := C0.2.1
  have hl : lv_has ls 1 [(0, .ref h0)] := hl
  refine lv_aload_n hx hb dX2_init_0 rfl (lv_at hl 0 rfl) ?_
  refine k_oinit C0 hl.1 mm_X2_3 (by decide) (Nat.le_of_ble_eq_true rfl) dX2_init_1 ?_
  refine lv_aload_n hx hb dX2_init_4 rfl (lv_at hl 0 rfl) ?_
  refine k_new C0 hW 4 rfl inX4 tyX4_ok mo_cl_X2_9 mo_in_4 mz_X4 df_X4 (Nat.le_of_ble_eq_true rfl) (Nat.le_of_ble_eq_true rfl) dX2_init_5 (fun q1 H hW => ?_)
  refine lv_dup hx hb dX2_init_8 rfl ?_
  refine k_cN (rest := [.ref (q1), .ref (h0)]) C0 hO hW hl.1 (c_X4_init l G q1) cb_X4_init mn_X2_11 (by decide) rfl rfl (Nat.le_of_ble_eq_true rfl) ⟨(Nat.le_of_ble_eq_true rfl), (Nat.le_of_ble_eq_true rfl)⟩ dX2_init_9 (fun a2 H locs h0_a2 hW_a2 => ?_)
  subst h0_a2
  have hW : Wd G A s.heap H ([(h0, .inr (2, [.null, .null, .int 0, .int 0]))] ++ bWh G a2 0 wh0) _ := hW_a2
  refine k_putF C0 hin hW 2 0 0 rfl (by decide) inX2 tyX2_ok nmX2 mf_X2_12 rfl rfl rfl rfl rfl (Nat.le_of_ble_eq_true rfl) dX2_init_12 (fun H locs hW => ?_)
  have hW : Wd G A s.heap H ([(h0, .inr (2, [.ref (a2 0), .null, .int 0, .int 0]))] ++ bWh G a2 0 wh0) _ := hW
  refine lv_aload_n hx hb dX2_init_15 rfl (lv_at hl 0 rfl) ?_
  refine lv_bipush (v := 60) hx hb dX2_init_16 (by decide) ?_
  refine k_newI C0 hW (N := 60) (by decide) (by decide) (by decide) (Nat.le_of_ble_eq_true rfl) (Nat.le_of_ble_eq_true rfl) dX2_init_18 (fun q3 H hW => ?_)
  have hW : Wd G A s.heap H ([(h0, .inr (2, [.ref (a2 0), .null, .int 0, .int 0]))] ++ (bWh G a2 0 wh0 ++ [(q3, eI G 60 (fun _ => 0))])) _ := hW
  refine k_putF C0 hin hW 2 1 0 rfl (by decide) inX2 tyX2_ok nmX2 mf_X2_18 rfl rfl rfl rfl rfl (Nat.le_of_ble_eq_true rfl) dX2_init_20 (fun H locs hW => ?_)
  have hW : Wd G A s.heap H ([(h0, .inr (2, [.ref (a2 0), .ref (q3), .int 0, .int 0]))] ++ (bWh G a2 0 wh0 ++ [(q3, eI G 60 (fun _ => 0))])) _ := hW
  have hW : Wd G A s.heap H (List.flatten [[(h0, .inr (2, [.ref (a2 0), .ref (q3), .int 0, .int 0]))], bWh G a2 0 wh0, [(q3, eI G 60 (fun _ => 0))]]) _ := hW
  replace hW := perm_W ((pick_mem (l := [[(h0, .inr (2, [.ref (a2 0), .ref (q3), .int 0, .int 0]))], bWh G a2 0 wh0, [(q3, eI G 60 (fun _ => 0))]]) (is := [0, 2, 1]) (by show List.Perm _ (List.range 3); decide)).symm.flatten) hW
  exact k_cret C0 (fun k => if k = 0 then h0 else if k = 1 then q3 else a2 (k - 2)) rfl hW dX2_init_23

set_option maxRecDepth 100000 in
set_option maxHeartbeats 4000000 in
theorem c_X0_init (l : Launch) (G : GG) (h0 : Nat) (nr : Nat) : Ca l G 2 6 51 yX0_init cX0_init 2 [.ref h0, .ref (nr)] h0 [(h0, .inr (0, [.int 0, .null, .null]))] (fun a => bAs G a 0 nr as0) := by
  refine ca_start (by decide) (Nat.le_of_ble_eq_true rfl) ?_
  intro p e s m below meth c A ls C0 hO hin hW hl
  have hx := C0.1
  have hb := C0.2.1
  have hl : lv_has ls 2 [(0, .ref h0), (1, .ref (nr))] := hl
  refine lv_aload_n hx hb dX0_init_0 rfl (lv_at hl 0 rfl) ?_
  refine k_oinit C0 hl.1 mm_X0_3 (by decide) (Nat.le_of_ble_eq_true rfl) dX0_init_1 ?_
  refine lv_aload_n hx hb dX0_init_4 rfl (lv_at hl 0 rfl) ?_
  refine lv_aload_n hx hb dX0_init_5 rfl (lv_at hl 1 rfl) ?_
  refine k_putF C0 hin hW 0 1 0 rfl (by decide) inX0 tyX0_ok nmX0 mf_X0_9 rfl rfl rfl rfl rfl (Nat.le_of_ble_eq_true rfl) dX0_init_6 (fun H locs hW => ?_)
  have hW : Wd G A s.heap H [(h0, .inr (0, [.int 0, .ref (nr), .null]))] _ := hW
  refine lv_aload_n hx hb dX0_init_9 rfl (lv_at hl 0 rfl) ?_
  refine k_new C0 hW 4 rfl inX4 tyX4_ok mo_cl_X0_15 mo_in_4 mz_X4 df_X4 (Nat.le_of_ble_eq_true rfl) (Nat.le_of_ble_eq_true rfl) dX0_init_10 (fun q1 H hW => ?_)
  refine lv_dup hx hb dX0_init_13 rfl ?_
  refine k_cN (rest := [.ref (q1), .ref (h0)]) C0 hO hW hl.1 (c_X4_init l G q1) cb_X4_init mn_X0_17 (by decide) rfl rfl (Nat.le_of_ble_eq_true rfl) ⟨(Nat.le_of_ble_eq_true rfl), (Nat.le_of_ble_eq_true rfl)⟩ dX0_init_14 (fun a2 H locs h0_a2 hW_a2 => ?_)
  subst h0_a2
  have hW : Wd G A s.heap H ([(h0, .inr (0, [.int 0, .ref (nr), .null]))] ++ bWh G a2 0 wh0) _ := hW_a2
  refine k_putF C0 hin hW 0 2 0 rfl (by decide) inX0 tyX0_ok nmX0 mf_X0_18 rfl rfl rfl rfl rfl (Nat.le_of_ble_eq_true rfl) dX0_init_17 (fun H locs hW => ?_)
  have hW : Wd G A s.heap H ([(h0, .inr (0, [.int 0, .ref (nr), .ref (a2 0)]))] ++ bWh G a2 0 wh0) _ := hW
  have hW : Wd G A s.heap H (List.flatten [[(h0, .inr (0, [.int 0, .ref (nr), .ref (a2 0)]))], bWh G a2 0 wh0]) _ := hW
  replace hW := perm_W ((pick_mem (l := [[(h0, .inr (0, [.int 0, .ref (nr), .ref (a2 0)]))], bWh G a2 0 wh0]) (is := [0, 1]) (by show List.Perm _ (List.range 2); decide)).symm.flatten) hW
  exact k_cret C0 (fun k => if k = 0 then h0 else a2 (k - 1)) rfl hW dX0_init_20

def sz6 : Ar := (f_J7_fill_53178 6 z0 (-1)).getD z0
theorem fill6 : f_J7_fill_53178 6 z0 (-1) = some sz6 := rfl
def sh6 : Sh := (40, fun _ => z0, sz6)
set_option maxRecDepth 100000 in
set_option maxHeartbeats 4000000 in
theorem c_X3_6_40_init (l : Launch) (G : GG) (h0 : Nat) : Ca l G 1 8 252 yX3_init cX3_init 3 [.ref h0, .int (6 : Int32), .int (40 : Int32)] h0 [(h0, .inr (3, [.int 0, .null, .null]))] (fun a => bSh G 6 40 a 0 sh6) := by
  refine ca_start (by decide) (Nat.le_of_ble_eq_true rfl) ?_
  intro p e s m below meth c A ls C0 hO hin hW hl
  have hx := C0.1
  have hb := C0.2.1
  have hl : lv_has ls 3 [(0, .ref h0), (1, .int (6 : Int32)), (2, .int (40 : Int32))] := hl
  refine lv_aload_n hx hb dX3_init_0 rfl (lv_at hl 0 rfl) ?_
  refine k_oinit C0 hl.1 mm_X3_3 (by decide) (Nat.le_of_ble_eq_true rfl) dX3_init_1 ?_
  refine lv_aload_n hx hb dX3_init_4 rfl (lv_at hl 0 rfl) ?_
  refine lv_iload_n hx hb dX3_init_5 rfl (lv_at hl 2 rfl) ?_
  refine k_putF C0 hin hW 3 0 0 rfl (by decide) inX3 tyX3_ok nmX3 mf_X3_9 rfl rfl rfl rfl rfl (Nat.le_of_ble_eq_true rfl) dX3_init_6 (fun H locs hW => ?_)
  have hW : Wd G A s.heap H [(h0, .inr (3, [.int (40 : Int32), .null, .null]))] _ := hW
  refine lv_aload_n hx hb dX3_init_9 rfl (lv_at hl 0 rfl) ?_
  refine lv_iload_n hx hb dX3_init_10 rfl (lv_at hl 1 rfl) ?_
  refine lv_iload_n hx hb dX3_init_11 rfl (lv_at hl 2 rfl) ?_
  refine k_mna C0 hO hW mo_cl_X3_15 (N := 6) (K := 40) (by decide) (by decide) (by decide) (by decide) (by decide) (by decide) (by decide) (Nat.le_of_ble_eq_true rfl) (Nat.le_of_ble_eq_true rfl) dX3_init_12 (fun q1 r2 H hW => ?_)
  have hW : Wd G A s.heap H [(h0, .inr (3, [.int (40 : Int32), .null, .null])), (q1, eR G 6 (fun i => if i < 6 then some (r2 i) else none)), (r2 0, eI G 40 (fun _ => 0)), (r2 1, eI G 40 (fun _ => 0)), (r2 2, eI G 40 (fun _ => 0)), (r2 3, eI G 40 (fun _ => 0)), (r2 4, eI G 40 (fun _ => 0)), (r2 5, eI G 40 (fun _ => 0))] _ := hW
  refine k_putF C0 hin hW 3 1 0 rfl (by decide) inX3 tyX3_ok nmX3 mf_X3_17 rfl rfl rfl rfl rfl (Nat.le_of_ble_eq_true rfl) dX3_init_16 (fun H locs hW => ?_)
  have hW : Wd G A s.heap H [(h0, .inr (3, [.int (40 : Int32), .ref (q1), .null])), (q1, eR G 6 (fun i => if i < 6 then some (r2 i) else none)), (r2 0, eI G 40 (fun _ => 0)), (r2 1, eI G 40 (fun _ => 0)), (r2 2, eI G 40 (fun _ => 0)), (r2 3, eI G 40 (fun _ => 0)), (r2 4, eI G 40 (fun _ => 0)), (r2 5, eI G 40 (fun _ => 0))] _ := hW
  refine lv_aload_n hx hb dX3_init_19 rfl (lv_at hl 0 rfl) ?_
  refine lv_iload_n hx hb dX3_init_20 rfl (lv_at hl 1 rfl) ?_
  refine k_newI C0 hW (N := 6) (by decide) (by decide) (by decide) (Nat.le_of_ble_eq_true rfl) (Nat.le_of_ble_eq_true rfl) dX3_init_21 (fun q3 H hW => ?_)
  have hW : Wd G A s.heap H [(h0, .inr (3, [.int (40 : Int32), .ref (q1), .null])), (q1, eR G 6 (fun i => if i < 6 then some (r2 i) else none)), (r2 0, eI G 40 (fun _ => 0)), (r2 1, eI G 40 (fun _ => 0)), (r2 2, eI G 40 (fun _ => 0)), (r2 3, eI G 40 (fun _ => 0)), (r2 4, eI G 40 (fun _ => 0)), (r2 5, eI G 40 (fun _ => 0)), (q3, eI G 6 (fun _ => 0))] _ := hW
  refine k_putF C0 hin hW 3 2 0 rfl (by decide) inX3 tyX3_ok nmX3 mf_X3_20 rfl rfl rfl rfl rfl (Nat.le_of_ble_eq_true rfl) dX3_init_23 (fun H locs hW => ?_)
  have hW : Wd G A s.heap H [(h0, .inr (3, [.int (40 : Int32), .ref (q1), .ref (q3)])), (q1, eR G 6 (fun i => if i < 6 then some (r2 i) else none)), (r2 0, eI G 40 (fun _ => 0)), (r2 1, eI G 40 (fun _ => 0)), (r2 2, eI G 40 (fun _ => 0)), (r2 3, eI G 40 (fun _ => 0)), (r2 4, eI G 40 (fun _ => 0)), (r2 5, eI G 40 (fun _ => 0)), (q3, eI G 6 (fun _ => 0))] _ := hW
  refine lv_aload_n hx hb dX3_init_26 rfl (lv_at hl 0 rfl) ?_
  refine k_get C0 hW 3 2 0 (v := .ref (q3)) rfl (by decide) inX3 mf_X3_20 rfl rfl dX3_init_27 ?_
  refine lv_iconst (v := -1) hx hb dX3_init_30 (by decide) ?_
  refine cS1 (rest := []) (ws1 := [(h0, .inr (3, [.int (40 : Int32), .ref (q1), .ref (q3)])), (q1, eR G 6 (fun i => if i < 6 then some (r2 i) else none)), (r2 0, eI G 40 (fun _ => 0)), (r2 1, eI G 40 (fun _ => 0)), (r2 2, eI G 40 (fun _ => 0)), (r2 3, eI G 40 (fun _ => 0)), (r2 4, eI G 40 (fun _ => 0)), (r2 5, eI G 40 (fun _ => 0)), (q3, eI G 6 sz6)]) (st1 := []) C0 hW hl.1 (c_J7_fill_53178 l G (q3) 6 z0 (-1 : Int32) _ fill6) cb_J7_fill_53178 mm_X3_24 [8] rfl rfl rfl (by decide) rfl rfl (Nat.le_of_ble_eq_true rfl) ⟨(Nat.le_of_ble_eq_true rfl), (Nat.le_of_ble_eq_true rfl)⟩ dX3_init_31 rfl rfl (fun H locs hW => ?_)
  have ef : (fun i => if i < 6 then some (r2 i) else none) = (fun j => if j < 6 then some ((fun k => if k = 0 then h0 else if k = 1 then q1 else if k = 2 then q3 else r2 (k - 3)) (0 + 3 + j)) else none) := by
    funext j
    show _ = if j < 6 then some (if 0 + 3 + j = 0 then h0 else if 0 + 3 + j = 1 then q1 else if 0 + 3 + j = 2 then q3 else r2 (0 + 3 + j - 3)) else none
    rw [if_neg (show ¬ 0 + 3 + j = 0 by omega), if_neg (show ¬ 0 + 3 + j = 1 by omega), if_neg (show ¬ 0 + 3 + j = 2 by omega), show 0 + 3 + j - 3 = j by omega]
  have hW : Wd G A s.heap H (List.flatten [[(h0, .inr (3, [.int (40 : Int32), .ref (q1), .ref (q3)]))], [(q1, eR G 6 (fun i => if i < 6 then some (r2 i) else none))], [(r2 0, eI G 40 (fun _ => 0))], [(r2 1, eI G 40 (fun _ => 0))], [(r2 2, eI G 40 (fun _ => 0))], [(r2 3, eI G 40 (fun _ => 0))], [(r2 4, eI G 40 (fun _ => 0))], [(r2 5, eI G 40 (fun _ => 0))], [(q3, eI G 6 sz6)]]) _ := hW
  replace hW := perm_W ((pick_mem (l := [[(h0, .inr (3, [.int (40 : Int32), .ref (q1), .ref (q3)]))], [(q1, eR G 6 (fun i => if i < 6 then some (r2 i) else none))], [(r2 0, eI G 40 (fun _ => 0))], [(r2 1, eI G 40 (fun _ => 0))], [(r2 2, eI G 40 (fun _ => 0))], [(r2 3, eI G 40 (fun _ => 0))], [(r2 4, eI G 40 (fun _ => 0))], [(r2 5, eI G 40 (fun _ => 0))], [(q3, eI G 6 sz6)]]) (is := [0, 1, 8, 2, 3, 4, 5, 6, 7]) (by show List.Perm _ (List.range 9); decide)).symm.flatten) hW
  rw [ef] at hW
  exact k_cret C0 (fun k => if k = 0 then h0 else if k = 1 then q1 else if k = 2 then q3 else r2 (k - 3)) rfl hW dX3_init_34

def sz4 : Ar := (f_J7_fill_53178 4 z0 (-1)).getD z0
theorem fill4 : f_J7_fill_53178 4 z0 (-1) = some sz4 := rfl
def sh4 : Sh := (60, fun _ => z0, sz4)
set_option maxRecDepth 100000 in
set_option maxHeartbeats 4000000 in
theorem c_X3_4_60_init (l : Launch) (G : GG) (h0 : Nat) : Ca l G 1 6 248 yX3_init cX3_init 3 [.ref h0, .int (4 : Int32), .int (60 : Int32)] h0 [(h0, .inr (3, [.int 0, .null, .null]))] (fun a => bSh G 4 60 a 0 sh4) := by
  refine ca_start (by decide) (Nat.le_of_ble_eq_true rfl) ?_
  intro p e s m below meth c A ls C0 hO hin hW hl
  have hx := C0.1
  have hb := C0.2.1
  have hl : lv_has ls 3 [(0, .ref h0), (1, .int (4 : Int32)), (2, .int (60 : Int32))] := hl
  refine lv_aload_n hx hb dX3_init_0 rfl (lv_at hl 0 rfl) ?_
  refine k_oinit C0 hl.1 mm_X3_3 (by decide) (Nat.le_of_ble_eq_true rfl) dX3_init_1 ?_
  refine lv_aload_n hx hb dX3_init_4 rfl (lv_at hl 0 rfl) ?_
  refine lv_iload_n hx hb dX3_init_5 rfl (lv_at hl 2 rfl) ?_
  refine k_putF C0 hin hW 3 0 0 rfl (by decide) inX3 tyX3_ok nmX3 mf_X3_9 rfl rfl rfl rfl rfl (Nat.le_of_ble_eq_true rfl) dX3_init_6 (fun H locs hW => ?_)
  have hW : Wd G A s.heap H [(h0, .inr (3, [.int (60 : Int32), .null, .null]))] _ := hW
  refine lv_aload_n hx hb dX3_init_9 rfl (lv_at hl 0 rfl) ?_
  refine lv_iload_n hx hb dX3_init_10 rfl (lv_at hl 1 rfl) ?_
  refine lv_iload_n hx hb dX3_init_11 rfl (lv_at hl 2 rfl) ?_
  refine k_mna C0 hO hW mo_cl_X3_15 (N := 4) (K := 60) (by decide) (by decide) (by decide) (by decide) (by decide) (by decide) (by decide) (Nat.le_of_ble_eq_true rfl) (Nat.le_of_ble_eq_true rfl) dX3_init_12 (fun q1 r2 H hW => ?_)
  have hW : Wd G A s.heap H [(h0, .inr (3, [.int (60 : Int32), .null, .null])), (q1, eR G 4 (fun i => if i < 4 then some (r2 i) else none)), (r2 0, eI G 60 (fun _ => 0)), (r2 1, eI G 60 (fun _ => 0)), (r2 2, eI G 60 (fun _ => 0)), (r2 3, eI G 60 (fun _ => 0))] _ := hW
  refine k_putF C0 hin hW 3 1 0 rfl (by decide) inX3 tyX3_ok nmX3 mf_X3_17 rfl rfl rfl rfl rfl (Nat.le_of_ble_eq_true rfl) dX3_init_16 (fun H locs hW => ?_)
  have hW : Wd G A s.heap H [(h0, .inr (3, [.int (60 : Int32), .ref (q1), .null])), (q1, eR G 4 (fun i => if i < 4 then some (r2 i) else none)), (r2 0, eI G 60 (fun _ => 0)), (r2 1, eI G 60 (fun _ => 0)), (r2 2, eI G 60 (fun _ => 0)), (r2 3, eI G 60 (fun _ => 0))] _ := hW
  refine lv_aload_n hx hb dX3_init_19 rfl (lv_at hl 0 rfl) ?_
  refine lv_iload_n hx hb dX3_init_20 rfl (lv_at hl 1 rfl) ?_
  refine k_newI C0 hW (N := 4) (by decide) (by decide) (by decide) (Nat.le_of_ble_eq_true rfl) (Nat.le_of_ble_eq_true rfl) dX3_init_21 (fun q3 H hW => ?_)
  have hW : Wd G A s.heap H [(h0, .inr (3, [.int (60 : Int32), .ref (q1), .null])), (q1, eR G 4 (fun i => if i < 4 then some (r2 i) else none)), (r2 0, eI G 60 (fun _ => 0)), (r2 1, eI G 60 (fun _ => 0)), (r2 2, eI G 60 (fun _ => 0)), (r2 3, eI G 60 (fun _ => 0)), (q3, eI G 4 (fun _ => 0))] _ := hW
  refine k_putF C0 hin hW 3 2 0 rfl (by decide) inX3 tyX3_ok nmX3 mf_X3_20 rfl rfl rfl rfl rfl (Nat.le_of_ble_eq_true rfl) dX3_init_23 (fun H locs hW => ?_)
  have hW : Wd G A s.heap H [(h0, .inr (3, [.int (60 : Int32), .ref (q1), .ref (q3)])), (q1, eR G 4 (fun i => if i < 4 then some (r2 i) else none)), (r2 0, eI G 60 (fun _ => 0)), (r2 1, eI G 60 (fun _ => 0)), (r2 2, eI G 60 (fun _ => 0)), (r2 3, eI G 60 (fun _ => 0)), (q3, eI G 4 (fun _ => 0))] _ := hW
  refine lv_aload_n hx hb dX3_init_26 rfl (lv_at hl 0 rfl) ?_
  refine k_get C0 hW 3 2 0 (v := .ref (q3)) rfl (by decide) inX3 mf_X3_20 rfl rfl dX3_init_27 ?_
  refine lv_iconst (v := -1) hx hb dX3_init_30 (by decide) ?_
  refine cS1 (rest := []) (ws1 := [(h0, .inr (3, [.int (60 : Int32), .ref (q1), .ref (q3)])), (q1, eR G 4 (fun i => if i < 4 then some (r2 i) else none)), (r2 0, eI G 60 (fun _ => 0)), (r2 1, eI G 60 (fun _ => 0)), (r2 2, eI G 60 (fun _ => 0)), (r2 3, eI G 60 (fun _ => 0)), (q3, eI G 4 sz4)]) (st1 := []) C0 hW hl.1 (c_J7_fill_53178 l G (q3) 4 z0 (-1 : Int32) _ fill4) cb_J7_fill_53178 mm_X3_24 [6] rfl rfl rfl (by decide) rfl rfl (Nat.le_of_ble_eq_true rfl) ⟨(Nat.le_of_ble_eq_true rfl), (Nat.le_of_ble_eq_true rfl)⟩ dX3_init_31 rfl rfl (fun H locs hW => ?_)
  have ef : (fun i => if i < 4 then some (r2 i) else none) = (fun j => if j < 4 then some ((fun k => if k = 0 then h0 else if k = 1 then q1 else if k = 2 then q3 else r2 (k - 3)) (0 + 3 + j)) else none) := by
    funext j
    show _ = if j < 4 then some (if 0 + 3 + j = 0 then h0 else if 0 + 3 + j = 1 then q1 else if 0 + 3 + j = 2 then q3 else r2 (0 + 3 + j - 3)) else none
    rw [if_neg (show ¬ 0 + 3 + j = 0 by omega), if_neg (show ¬ 0 + 3 + j = 1 by omega), if_neg (show ¬ 0 + 3 + j = 2 by omega), show 0 + 3 + j - 3 = j by omega]
  have hW : Wd G A s.heap H (List.flatten [[(h0, .inr (3, [.int (60 : Int32), .ref (q1), .ref (q3)]))], [(q1, eR G 4 (fun i => if i < 4 then some (r2 i) else none))], [(r2 0, eI G 60 (fun _ => 0))], [(r2 1, eI G 60 (fun _ => 0))], [(r2 2, eI G 60 (fun _ => 0))], [(r2 3, eI G 60 (fun _ => 0))], [(q3, eI G 4 sz4)]]) _ := hW
  replace hW := perm_W ((pick_mem (l := [[(h0, .inr (3, [.int (60 : Int32), .ref (q1), .ref (q3)]))], [(q1, eR G 4 (fun i => if i < 4 then some (r2 i) else none))], [(r2 0, eI G 60 (fun _ => 0))], [(r2 1, eI G 60 (fun _ => 0))], [(r2 2, eI G 60 (fun _ => 0))], [(r2 3, eI G 60 (fun _ => 0))], [(q3, eI G 4 sz4)]]) (is := [0, 1, 6, 2, 3, 4, 5]) (by show List.Perm _ (List.range 7); decide)).symm.flatten) hW
  rw [ef] at hW
  exact k_cret C0 (fun k => if k = 0 then h0 else if k = 1 then q1 else if k = 2 then q3 else r2 (k - 3)) rfl hW dX3_init_34
