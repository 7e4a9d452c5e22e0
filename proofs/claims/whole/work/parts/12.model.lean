def f_X6_above0 (x0 : Int32) : Option (Int32) :=
  if x0 ≤ 0 then (some (0 : Int32)) else (some x0)
set_option maxRecDepth 100000 in
set_option maxHeartbeats 1000000 in
theorem c_X6_above0 (l : Launch) (G : GG) (x0 : Int32) (out : Int32) (hf : f_X6_above0 x0 = some out) : Cn l G 0 yX6_above0 cX6_above0 1 (some .int) [.int x0] ([] : va_W) (some (.int out)) ([] : va_W) := by
  refine cn_start (by decide) (Nat.le_of_ble_eq_true rfl) ?_
  intro p e s m below meth c A ls C0 hW hl
  have hx := C0.1
  have hb := C0.2.1
  have hl : lv_has ls 1 [(0, .int x0)] := hl
  obtain ⟨r, hr⟩ : ∃ r, f_X6_above0 x0 = some r ∧ r = out := ⟨out, hf, rfl⟩
  replace hf := hr.1
  have hF := hr.2
  clear hr
  unfold f_X6_above0 at hf
  refine lv_iload_n hx hb dX6_above0_0 rfl (lv_at hl 0 rfl) ?_
  refine lv_if_le (tgt := 8) hx hb dX6_above0_1 (by decide) (fun c1_1 => ?_) (fun c1_1 => ?_)
  · replace hf := if_t c1_1 hf
    refine lv_iconst (v := 0) hx hb dX6_above0_8 (by decide) ?_
    have e1 := Option.some.inj hf
    subst e1
    have hF : ((0 : Int32) : Int32) = out := hF
    subst hF
    exact k_iret C0 hW dX6_above0_9
  · replace hf := if_f c1_1 hf
    refine lv_iload_n hx hb dX6_above0_4 rfl (lv_at hl 0 rfl) ?_
    refine lv_goto (tgt := 9) hx hb dX6_above0_5 (by decide) ?_
    have e1 := Option.some.inj hf
    subst e1
    have hF : (x0 : Int32) = out := hF
    subst hF
    exact k_iret C0 hW dX6_above0_9

def f_X6_adds (w : Md) (x1 : Int64) : Option (Md) :=
  some (md_set_h w (((31 : Int64) * (md_h w)) + x1))
set_option maxRecDepth 100000 in
set_option maxHeartbeats 1000000 in
theorem c_X6_adds (l : Launch) (G : GG) (a : Nat → Nat) (o : Nat) (w : Md) (x1 : Int64) (out : Md) (hf : f_X6_adds w x1 = some out) : Cn l G 0 yX6_adds cX6_adds 3 (none) [.ref (a o), .long x1] (bMd G a o w) (none) (bMd G a o out) := by
  refine cn_start (by decide) (Nat.le_of_ble_eq_true rfl) ?_
  intro p e s m below meth c A ls C0 hW hl
  have hx := C0.1
  have hb := C0.2.1
  have hl : lv_has ls 3 [(0, .ref (a o)), (1, .long x1)] := hl
  obtain ⟨r, hr⟩ : ∃ r, f_X6_adds w x1 = some r ∧ r = out := ⟨out, hf, rfl⟩
  replace hf := hr.1
  have hF := hr.2
  clear hr
  unfold f_X6_adds at hf
  refine lv_aload_n hx hb dX6_adds_0 rfl (lv_at hl 0 rfl) ?_
  refine lv_ldc2 hx hb C0.2.2.2.2.2.1 (C0.2.2.2.2.2.2.1 _ mk_X6_266) dX6_adds_1 ?_
  refine lv_aload_n hx hb dX6_adds_4 rfl (lv_at hl 0 rfl) ?_
  refine k_get C0 hW 6 33 0 (v := .long (md_h w)) rfl (by decide) inX6 mf_X6_268 rfl rfl dX6_adds_5 ?_
  refine lv_lmul hx hb dX6_adds_8 ?_
  refine lv_lload_n hx hb dX6_adds_9 rfl (lv_at hl 1 rfl) ?_
  refine lv_ladd hx hb dX6_adds_10 ?_
  refine k_put C0 hW 6 33 0 rfl (by decide) inX6 tyX6_ok nmX6 mf_X6_268 rfl rfl rfl rfl (Nat.le_of_ble_eq_true rfl) dX6_adds_11 (fun H locs hW => ?_)
  have hW : Wd G A s.heap H (bMd G a o (md_set_h w (((31 : Int64) * (md_h w)) + x1))) locs := hW
  have e1 := Option.some.inj hf
  subst e1
  have hF : ((md_set_h w (((31 : Int64) * (md_h w)) + x1)) : Md) = out := hF
  subst hF
  exact k_vret C0 hW dX6_adds_14

def f_X6_depth (w : Md) (x1 : Int32) : Option (Int32) :=
  gd (inb (jrem x1 (8 : Int32)) 8) (some ((md_ruts w) (ix (jrem x1 (8 : Int32)))))
set_option maxRecDepth 100000 in
set_option maxHeartbeats 1000000 in
theorem c_X6_depth (l : Launch) (G : GG) (a : Nat → Nat) (o : Nat) (w : Md) (x1 : Int32) (out : Int32) (hf : f_X6_depth w x1 = some out) : Cn l G 0 yX6_depth cX6_depth 2 (some .int) [.ref (a o), .int x1] (bMd G a o w) (some (.int out)) (bMd G a o w) := by
  refine cn_start (by decide) (Nat.le_of_ble_eq_true rfl) ?_
  intro p e s m below meth c A ls C0 hW hl
  have hx := C0.1
  have hb := C0.2.1
  have hl : lv_has ls 2 [(0, .ref (a o)), (1, .int x1)] := hl
  obtain ⟨r, hr⟩ : ∃ r, f_X6_depth w x1 = some r ∧ r = out := ⟨out, hf, rfl⟩
  replace hf := hr.1
  have hF := hr.2
  clear hr
  unfold f_X6_depth at hf
  refine lv_aload_n hx hb dX6_depth_0 rfl (lv_at hl 0 rfl) ?_
  refine k_get C0 hW 6 20 0 (v := .ref (a (o + 11))) rfl (by decide) inX6 mf_X6_45 rfl rfl dX6_depth_1 ?_
  refine lv_iload_n hx hb dX6_depth_4 rfl (lv_at hl 1 rfl) ?_
  refine lv_bipush (v := 8) hx hb dX6_depth_5 (by decide) ?_
  refine lv_irem hx hb dX6_depth_7 (by decide) ?_
  have g8_1 := (gd_some hf).1; replace hf := (gd_some hf).2
  refine k_iald C0 hW 11 (ix (jrem x1 (8 : Int32))) rfl (inb_in g8_1) rfl dX6_depth_8 ?_
  have e1 := Option.some.inj hf
  subst e1
  have hF : (((md_ruts w) (ix (jrem x1 (8 : Int32)))) : Int32) = out := hF
  subst hF
  exact k_iret C0 hW dX6_depth_9

def f_X6_bearsAs_J20 (x0 : Int32) (x1 : Int32) (x3 : Int32) (x4 : Int32) (x5 : Int32) (t0 : Int32) : Option (Int32) :=
  if x0 = 1 then (some (x5 / (2 : Int32))) else if x0 = 2 then (some (x5 + t0)) else if x0 = 3 then (Option.bind (f_X6_above0 (((2 : Int32) * x1) - (x3 / (2 : Int32)))) (fun q74 => some (q74 + t0))) else if x0 = 4 then (some ((2 : Int32) * x1)) else if x0 = 5 then (Option.bind (f_X6_above0 (((2 : Int32) * x1) - (x3 * x4))) (fun q93 => some q93)) else some x5
def f_X6_bearsAs (x0 : Int32) (x1 : Int32) (x2 : Int32) (x3 : Int32) (x4 : Int32) : Option (Int32) :=
  Option.bind (f_X6_above0 (((2 : Int32) * x1) - x3)) (fun q5 => if x2 < (5 : Int32) then (f_X6_bearsAs_J20 x0 x1 x3 x4 q5 (0 : Int32)) else (f_X6_bearsAs_J20 x0 x1 x3 x4 q5 (3 : Int32)))
set_option maxRecDepth 100000 in
set_option maxHeartbeats 1000000 in
theorem c_X6_bearsAs (l : Launch) (G : GG) (x0 : Int32) (x1 : Int32) (x2 : Int32) (x3 : Int32) (x4 : Int32) (out : Int32) (hf : f_X6_bearsAs x0 x1 x2 x3 x4 = some out) : Cn l G 1 yX6_bearsAs cX6_bearsAs 7 (some .int) [.int x0, .int x1, .int x2, .int x3, .int x4] ([] : va_W) (some (.int out)) ([] : va_W) := by
  refine cn_start (by decide) (Nat.le_of_ble_eq_true rfl) ?_
  intro p e s m below meth c A ls C0 hW hl
  have hx := C0.1
  have hb := C0.2.1
  have hl : lv_has ls 7 [(0, .int x0), (1, .int x1), (2, .int x2), (3, .int x3), (4, .int x4)] := hl
  have J20 : ∀ (x5 : Int32) (t0 : Int32) (r : Int32), f_X6_bearsAs_J20 x0 x1 x3 x4 x5 t0 = some r → (fun (r : Int32) => r = out) r → ∀ (H : Heap) (locs : List Loc) (ls : Array Slot), Wd G A s.heap H ([] : va_W) locs → lv_has ls 7 [(0, .int x0), (1, .int x1), (3, .int x3), (4, .int x4), (5, .int x5)] → WW p l e 1 s m [.int x0, .int x1, .int x2, .int x3, .int x4] below meth c G A (some (.int out)) (([] : va_W)) H locs 20 ls [.int t0] := by
    intro x5 t0 r hf hF H locs ls hW hl
    unfold f_X6_bearsAs_J20 at hf
    refine lv_istore (lv' := [(6, .int t0), (0, .int x0), (1, .int x1), (3, .int x3), (4, .int x4), (5, .int x5)]) hx hb dX6_bearsAs_20 hl (by decide) rfl (fun ls hl => ?_)
    refine lv_iload_n hx hb dX6_bearsAs_22 rfl (lv_at hl 1 rfl) ?_
    by_cases c23_2 : x0 = 1
    · replace hf := if_t c23_2 hf
      refine lv_tableIn (off := 33) (tgt := 56) hx hb dX6_bearsAs_23 (by rw [c23_2]; decide) (by rw [c23_2]; decide) (by rw [c23_2]; rfl) (by decide) ?_
      refine lv_iload hx hb dX6_bearsAs_56 (lv_at hl 5 rfl) ?_
      refine lv_iconst (v := 2) hx hb dX6_bearsAs_58 (by decide) ?_
      refine lv_idiv hx hb dX6_bearsAs_59 (by decide) ?_
      have e1 := Option.some.inj hf
      subst e1
      have hF : ((x5 / (2 : Int32)) : Int32) = out := hF
      subst hF
      exact k_iret C0 hW dX6_bearsAs_60
    replace hf := if_f c23_2 hf
    by_cases c23_3 : x0 = 2
    · replace hf := if_t c23_3 hf
      refine lv_tableIn (off := 38) (tgt := 61) hx hb dX6_bearsAs_23 (by rw [c23_3]; decide) (by rw [c23_3]; decide) (by rw [c23_3]; rfl) (by decide) ?_
      refine lv_iload hx hb dX6_bearsAs_61 (lv_at hl 5 rfl) ?_
      refine lv_iload hx hb dX6_bearsAs_63 (lv_at hl 0 rfl) ?_
      refine lv_iadd hx hb dX6_bearsAs_65 ?_
      have e1 := Option.some.inj hf
      subst e1
      have hF : ((x5 + t0) : Int32) = out := hF
      subst hF
      exact k_iret C0 hW dX6_bearsAs_66
    replace hf := if_f c23_3 hf
    by_cases c23_4 : x0 = 3
    · replace hf := if_t c23_4 hf
      refine lv_tableIn (off := 44) (tgt := 67) hx hb dX6_bearsAs_23 (by rw [c23_4]; decide) (by rw [c23_4]; decide) (by rw [c23_4]; rfl) (by decide) ?_
      refine lv_iconst (v := 2) hx hb dX6_bearsAs_67 (by decide) ?_
      refine lv_iload_n hx hb dX6_bearsAs_68 rfl (lv_at hl 2 rfl) ?_
      refine lv_imul hx hb dX6_bearsAs_69 ?_
      refine lv_iload_n hx hb dX6_bearsAs_70 rfl (lv_at hl 3 rfl) ?_
      refine lv_iconst (v := 2) hx hb dX6_bearsAs_71 (by decide) ?_
      refine lv_idiv hx hb dX6_bearsAs_72 (by decide) ?_
      refine lv_isub hx hb dX6_bearsAs_73 ?_
      obtain ⟨q74, hq74⟩ := ob_s hf
      replace hf := hq74.2
      replace hq74 := hq74.1
      refine cS0 (rest := []) (st1 := [.int q74]) C0 hW hl.1 (c_X6_above0 l G (((2 : Int32) * x1) - (x3 / (2 : Int32))) _ hq74) cb_X6_above0 mm_X6_151 [] rfl rfl (by decide) rfl rfl (Nat.le_of_ble_eq_true rfl) ⟨Nat.zero_le _, Nat.zero_le _⟩ dX6_bearsAs_74 rfl (fun H locs hW => ?_)
      refine lv_iload hx hb dX6_bearsAs_77 (lv_at hl 0 rfl) ?_
      refine lv_iadd hx hb dX6_bearsAs_79 ?_
      have e1 := Option.some.inj hf
      subst e1
      have hF : ((q74 + t0) : Int32) = out := hF
      subst hF
      exact k_iret C0 hW dX6_bearsAs_80
    replace hf := if_f c23_4 hf
    by_cases c23_5 : x0 = 4
    · replace hf := if_t c23_5 hf
      refine lv_tableIn (off := 58) (tgt := 81) hx hb dX6_bearsAs_23 (by rw [c23_5]; decide) (by rw [c23_5]; decide) (by rw [c23_5]; rfl) (by decide) ?_
      refine lv_iconst (v := 2) hx hb dX6_bearsAs_81 (by decide) ?_
      refine lv_iload_n hx hb dX6_bearsAs_82 rfl (lv_at hl 2 rfl) ?_
      refine lv_imul hx hb dX6_bearsAs_83 ?_
      have e1 := Option.some.inj hf
      subst e1
      have hF : (((2 : Int32) * x1) : Int32) = out := hF
      subst hF
      exact k_iret C0 hW dX6_bearsAs_84
    replace hf := if_f c23_5 hf
    by_cases c23_6 : x0 = 5
    · replace hf := if_t c23_6 hf
      refine lv_tableIn (off := 62) (tgt := 85) hx hb dX6_bearsAs_23 (by rw [c23_6]; decide) (by rw [c23_6]; decide) (by rw [c23_6]; rfl) (by decide) ?_
      refine lv_iconst (v := 2) hx hb dX6_bearsAs_85 (by decide) ?_
      refine lv_iload_n hx hb dX6_bearsAs_86 rfl (lv_at hl 2 rfl) ?_
      refine lv_imul hx hb dX6_bearsAs_87 ?_
      refine lv_iload_n hx hb dX6_bearsAs_88 rfl (lv_at hl 3 rfl) ?_
      refine lv_iload hx hb dX6_bearsAs_89 (lv_at hl 4 rfl) ?_
      refine lv_imul hx hb dX6_bearsAs_91 ?_
      refine lv_isub hx hb dX6_bearsAs_92 ?_
      obtain ⟨q93, hq93⟩ := ob_s hf
      replace hf := hq93.2
      replace hq93 := hq93.1
      refine cS0 (rest := []) (st1 := [.int q93]) C0 hW hl.1 (c_X6_above0 l G (((2 : Int32) * x1) - (x3 * x4)) _ hq93) cb_X6_above0 mm_X6_151 [] rfl rfl (by decide) rfl rfl (Nat.le_of_ble_eq_true rfl) ⟨Nat.zero_le _, Nat.zero_le _⟩ dX6_bearsAs_93 rfl (fun H locs hW => ?_)
      have e1 := Option.some.inj hf
      subst e1
      have hF : (q93 : Int32) = out := hF
      subst hF
      exact k_iret C0 hW dX6_bearsAs_96
    replace hf := if_f c23_6 hf
    refine lv_tableOut (tgt := 97) hx hb dX6_bearsAs_23 (by have := lv_neT c23_2 (show (1 : Int32).toInt = 1 from rfl); have := lv_neT c23_3 (show (2 : Int32).toInt = 2 from rfl); have := lv_neT c23_4 (show (3 : Int32).toInt = 3 from rfl); have := lv_neT c23_5 (show (4 : Int32).toInt = 4 from rfl); have := lv_neT c23_6 (show (5 : Int32).toInt = 5 from rfl); omega) (by decide) ?_
    refine lv_iload hx hb dX6_bearsAs_97 (lv_at hl 5 rfl) ?_
    have e1 := Option.some.inj hf
    subst e1
    have hF : (x5 : Int32) = out := hF
    subst hF
    exact k_iret C0 hW dX6_bearsAs_99
  obtain ⟨r, hr⟩ : ∃ r, f_X6_bearsAs x0 x1 x2 x3 x4 = some r ∧ r = out := ⟨out, hf, rfl⟩
  replace hf := hr.1
  have hF := hr.2
  clear hr
  unfold f_X6_bearsAs at hf
  refine lv_iconst (v := 2) hx hb dX6_bearsAs_0 (by decide) ?_
  refine lv_iload_n hx hb dX6_bearsAs_1 rfl (lv_at hl 1 rfl) ?_
  refine lv_imul hx hb dX6_bearsAs_2 ?_
  refine lv_iload_n hx hb dX6_bearsAs_3 rfl (lv_at hl 3 rfl) ?_
  refine lv_isub hx hb dX6_bearsAs_4 ?_
  obtain ⟨q5, hq5⟩ := ob_s hf
  replace hf := hq5.2
  replace hq5 := hq5.1
  refine cS0 (rest := []) (st1 := [.int q5]) C0 hW hl.1 (c_X6_above0 l G (((2 : Int32) * x1) - x3) _ hq5) cb_X6_above0 mm_X6_151 [] rfl rfl (by decide) rfl rfl (Nat.le_of_ble_eq_true rfl) ⟨Nat.zero_le _, Nat.zero_le _⟩ dX6_bearsAs_5 rfl (fun H locs hW => ?_)
  refine lv_istore (lv' := [(5, .int q5), (0, .int x0), (1, .int x1), (2, .int x2), (3, .int x3), (4, .int x4)]) hx hb dX6_bearsAs_8 hl (by decide) rfl (fun ls hl => ?_)
  refine lv_iload_n hx hb dX6_bearsAs_10 rfl (lv_at hl 3 rfl) ?_
  refine lv_iconst (v := 5) hx hb dX6_bearsAs_11 (by decide) ?_
  refine lv_icmp_lt (tgt := 19) hx hb dX6_bearsAs_12 (by decide) (fun c12_1 => ?_) (fun c12_1 => ?_)
  · replace hf := if_t c12_1 hf
    refine lv_iconst (v := 0) hx hb dX6_bearsAs_19 (by decide) ?_
    exact J20 _ _ _ hf hF _ _ _ hW (lv_sub hl [1, 2, 4, 5, 0] rfl)
  · replace hf := if_f c12_1 hf
    refine lv_iconst (v := 3) hx hb dX6_bearsAs_15 (by decide) ?_
    refine lv_goto (tgt := 20) hx hb dX6_bearsAs_16 (by decide) ?_
    exact J20 _ _ _ hf hF _ _ _ hW (lv_sub hl [1, 2, 4, 5, 0] rfl)

def f_X6_alike (w : Md) (x1 : Int32) (x2 : Int32) : Option (Int32) :=
  gd (inb x1 8) (Option.bind (f_X6_depth w ((md_now w) 0)) (fun q14 => gd (inb ((4 : Int32) + x1) 12) (Option.bind (f_X6_bearsAs x2 ((md_strongs w) (ix x1)) q14 ((md_now w) (ix ((4 : Int32) + x1))) ((md_now w) 2)) (fun q31 => some q31))))
set_option maxRecDepth 100000 in
set_option maxHeartbeats 1000000 in
theorem c_X6_alike (l : Launch) (G : GG) (a : Nat → Nat) (o : Nat) (w : Md) (x1 : Int32) (x2 : Int32) (out : Int32) (hf : f_X6_alike w x1 x2 = some out) : Cn l G 2 yX6_alike cX6_alike 3 (some .int) [.ref (a o), .int x1, .int x2] (bMd G a o w) (some (.int out)) (bMd G a o w) := by
  refine cn_start (by decide) (Nat.le_of_ble_eq_true rfl) ?_
  intro p e s m below meth c A ls C0 hW hl
  have hx := C0.1
  have hb := C0.2.1
  have hl : lv_has ls 3 [(0, .ref (a o)), (1, .int x1), (2, .int x2)] := hl
  obtain ⟨r, hr⟩ : ∃ r, f_X6_alike w x1 x2 = some r ∧ r = out := ⟨out, hf, rfl⟩
  replace hf := hr.1
  have hF := hr.2
  clear hr
  unfold f_X6_alike at hf
  refine lv_iload_n hx hb dX6_alike_0 rfl (lv_at hl 2 rfl) ?_
  refine lv_aload_n hx hb dX6_alike_1 rfl (lv_at hl 0 rfl) ?_
  refine k_get C0 hW 6 23 0 (v := .ref (a (o + 14))) rfl (by decide) inX6 mf_X6_54 rfl rfl dX6_alike_2 ?_
  refine lv_iload_n hx hb dX6_alike_5 rfl (lv_at hl 1 rfl) ?_
  have g6_1 := (gd_some hf).1; replace hf := (gd_some hf).2
  refine k_iald C0 hW 14 (ix x1) rfl (inb_in g6_1) rfl dX6_alike_6 ?_
  refine lv_aload_n hx hb dX6_alike_7 rfl (lv_at hl 0 rfl) ?_
  refine lv_aload_n hx hb dX6_alike_8 rfl (lv_at hl 0 rfl) ?_
  refine k_get C0 hW 6 24 0 (v := .ref (a (o + 15))) rfl (by decide) inX6 mf_X6_57 rfl rfl dX6_alike_9 ?_
  refine lv_iconst (v := 0) hx hb dX6_alike_12 (by decide) ?_
  refine k_iald C0 hW 15 0 rfl (inb_in rfl) rfl dX6_alike_13 ?_
  obtain ⟨q14, hq14⟩ := ob_s hf
  replace hf := hq14.2
  replace hq14 := hq14.1
  refine cW1 (rest := [.int ((md_strongs w) (ix x1)), .int x2]) (ws1 := (bMd G a o w)) (st1 := [.int q14, .int ((md_strongs w) (ix x1)), .int x2]) C0 hW hl.1 (c_X6_depth l G a o w ((md_now w) 0) _ hq14) cb_X6_depth mm_X6_162 fst_Md 0 6 rfl rfl rfl (by decide) rfl rfl (Nat.le_of_ble_eq_true rfl) ⟨Nat.zero_le _, Nat.zero_le _⟩ dX6_alike_14 rfl (fun H locs hW => ?_)
  refine lv_aload_n hx hb dX6_alike_17 rfl (lv_at hl 0 rfl) ?_
  refine k_get C0 hW 6 24 0 (v := .ref (a (o + 15))) rfl (by decide) inX6 mf_X6_57 rfl rfl dX6_alike_18 ?_
  refine lv_iconst (v := 4) hx hb dX6_alike_21 (by decide) ?_
  refine lv_iload_n hx hb dX6_alike_22 rfl (lv_at hl 1 rfl) ?_
  refine lv_iadd hx hb dX6_alike_23 ?_
  have g24_2 := (gd_some hf).1; replace hf := (gd_some hf).2
  refine k_iald C0 hW 15 (ix ((4 : Int32) + x1)) rfl (inb_in g24_2) rfl dX6_alike_24 ?_
  refine lv_aload_n hx hb dX6_alike_25 rfl (lv_at hl 0 rfl) ?_
  refine k_get C0 hW 6 24 0 (v := .ref (a (o + 15))) rfl (by decide) inX6 mf_X6_57 rfl rfl dX6_alike_26 ?_
  refine lv_iconst (v := 2) hx hb dX6_alike_29 (by decide) ?_
  refine k_iald C0 hW 15 2 rfl (inb_in rfl) rfl dX6_alike_30 ?_
  obtain ⟨q31, hq31⟩ := ob_s hf
  replace hf := hq31.2
  replace hq31 := hq31.1
  refine cS0 (rest := []) (st1 := [.int q31]) C0 hW hl.1 (c_X6_bearsAs l G x2 ((md_strongs w) (ix x1)) q14 ((md_now w) (ix ((4 : Int32) + x1))) ((md_now w) 2) _ hq31) cb_X6_bearsAs mm_X6_154 [] rfl rfl (by decide) rfl rfl (Nat.le_of_ble_eq_true rfl) ⟨Nat.zero_le _, Nat.zero_le _⟩ dX6_alike_31 rfl (fun H locs hW => ?_)
  have e1 := Option.some.inj hf
  subst e1
  have hF : (q31 : Int32) = out := hF
  subst hF
  exact k_iret C0 hW dX6_alike_34

def f_X6_all (w : Md) : Option (Int32) :=
  some ((jshl (1 : Int32) (md_n w)) - (1 : Int32))
set_option maxRecDepth 100000 in
set_option maxHeartbeats 1000000 in
theorem c_X6_all (l : Launch) (G : GG) (a : Nat → Nat) (o : Nat) (w : Md) (out : Int32) (hf : f_X6_all w = some out) : Cn l G 0 yX6_all cX6_all 1 (some .int) [.ref (a o)] (bMd G a o w) (some (.int out)) (bMd G a o w) := by
  refine cn_start (by decide) (Nat.le_of_ble_eq_true rfl) ?_
  intro p e s m below meth c A ls C0 hW hl
  have hx := C0.1
  have hb := C0.2.1
  have hl : lv_has ls 1 [(0, .ref (a o))] := hl
  obtain ⟨r, hr⟩ : ∃ r, f_X6_all w = some r ∧ r = out := ⟨out, hf, rfl⟩
  replace hf := hr.1
  have hF := hr.2
  clear hr
  unfold f_X6_all at hf
  refine lv_iconst (v := 1) hx hb dX6_all_0 (by decide) ?_
  refine lv_aload_n hx hb dX6_all_1 rfl (lv_at hl 0 rfl) ?_
  refine k_get C0 hW 6 18 0 (v := .int (md_n w)) rfl (by decide) inX6 mf_X6_142 rfl rfl dX6_all_2 ?_
  refine lv_ishl hx hb dX6_all_5 ?_
  refine lv_iconst (v := 1) hx hb dX6_all_6 (by decide) ?_
  refine lv_isub hx hb dX6_all_7 ?_
  have e1 := Option.some.inj hf
  subst e1
  have hF : (((jshl (1 : Int32) (md_n w)) - (1 : Int32)) : Int32) = out := hF
  subst hF
  exact k_iret C0 hW dX6_all_8

def f_X6_asked (w : Md) : Option (Int32) :=
  some (md_told w)
set_option maxRecDepth 100000 in
set_option maxHeartbeats 1000000 in
theorem c_X6_asked (l : Launch) (G : GG) (a : Nat → Nat) (o : Nat) (w : Md) (out : Int32) (hf : f_X6_asked w = some out) : Cn l G 0 yX6_asked cX6_asked 1 (some .int) [.ref (a o)] (bMd G a o w) (some (.int out)) (bMd G a o w) := by
  refine cn_start (by decide) (Nat.le_of_ble_eq_true rfl) ?_
  intro p e s m below meth c A ls C0 hW hl
  have hx := C0.1
  have hb := C0.2.1
  have hl : lv_has ls 1 [(0, .ref (a o))] := hl
  obtain ⟨r, hr⟩ : ∃ r, f_X6_asked w = some r ∧ r = out := ⟨out, hf, rfl⟩
  replace hf := hr.1
  have hF := hr.2
  clear hr
  unfold f_X6_asked at hf
  refine lv_aload_n hx hb dX6_asked_0 rfl (lv_at hl 0 rfl) ?_
  refine k_get C0 hW 6 0 0 (v := .int (md_told w)) rfl (by decide) inX6 mf_X6_83 rfl rfl dX6_asked_1 ?_
  have e1 := Option.some.inj hf
  subst e1
  have hF : ((md_told w) : Int32) = out := hF
  subst hF
  exact k_iret C0 hW dX6_asked_4

def f_X6_in (x0 : Int32) (x1 : Int32) (x2 : Int32) : Option (Int32) :=
  if x0 < x1 then (some (0 : Int32)) else (if x2 < x0 then (some (0 : Int32)) else (some (1 : Int32)))
set_option maxRecDepth 100000 in
set_option maxHeartbeats 1000000 in
theorem c_X6_in (l : Launch) (G : GG) (x0 : Int32) (x1 : Int32) (x2 : Int32) (out : Int32) (hf : f_X6_in x0 x1 x2 = some out) : Cn l G 0 yX6_in cX6_in 3 (some .boolean) [.int x0, .int x1, .int x2] ([] : va_W) (some (.int out)) ([] : va_W) := by
  refine cn_start (by decide) (Nat.le_of_ble_eq_true rfl) ?_
  intro p e s m below meth c A ls C0 hW hl
  have hx := C0.1
  have hb := C0.2.1
  have hl : lv_has ls 3 [(0, .int x0), (1, .int x1), (2, .int x2)] := hl
  obtain ⟨r, hr⟩ : ∃ r, f_X6_in x0 x1 x2 = some r ∧ r = out := ⟨out, hf, rfl⟩
  replace hf := hr.1
  have hF := hr.2
  clear hr
  unfold f_X6_in at hf
  refine lv_iload_n hx hb dX6_in_0 rfl (lv_at hl 0 rfl) ?_
  refine lv_iload_n hx hb dX6_in_1 rfl (lv_at hl 1 rfl) ?_
  refine lv_icmp_lt (tgt := 14) hx hb dX6_in_2 (by decide) (fun c2_1 => ?_) (fun c2_1 => ?_)
  · replace hf := if_t c2_1 hf
    refine lv_iconst (v := 0) hx hb dX6_in_14 (by decide) ?_
    have e1 := Option.some.inj hf
    subst e1
    have hF : ((0 : Int32) : Int32) = out := hF
    subst hF
    exact k_zret C0 hW rfl dX6_in_15
  · replace hf := if_f c2_1 hf
    refine lv_iload_n hx hb dX6_in_5 rfl (lv_at hl 0 rfl) ?_
    refine lv_iload_n hx hb dX6_in_6 rfl (lv_at hl 2 rfl) ?_
    refine lv_icmp_gt (tgt := 14) hx hb dX6_in_7 (by decide) (fun c7_2 => ?_) (fun c7_2 => ?_)
    · replace hf := if_t c7_2 hf
      refine lv_iconst (v := 0) hx hb dX6_in_14 (by decide) ?_
      have e1 := Option.some.inj hf
      subst e1
      have hF : ((0 : Int32) : Int32) = out := hF
      subst hF
      exact k_zret C0 hW rfl dX6_in_15
    · replace hf := if_f c7_2 hf
      refine lv_iconst (v := 1) hx hb dX6_in_10 (by decide) ?_
      refine lv_goto (tgt := 15) hx hb dX6_in_11 (by decide) ?_
      have e1 := Option.some.inj hf
      subst e1
      have hF : ((1 : Int32) : Int32) = out := hF
      subst hF
      exact k_zret C0 hW rfl dX6_in_15

def f_X6_isRow (x0 : Int32) : Option (Int32) :=
  Option.bind (f_X6_in x0 (0 : Int32) (5 : Int32)) (fun q3 => gd (isB q3) (some q3))
set_option maxRecDepth 100000 in
set_option maxHeartbeats 1000000 in
theorem c_X6_isRow (l : Launch) (G : GG) (x0 : Int32) (out : Int32) (hf : f_X6_isRow x0 = some out) : Cn l G 1 yX6_isRow cX6_isRow 1 (some .boolean) [.int x0] ([] : va_W) (some (.int out)) ([] : va_W) := by
  refine cn_start (by decide) (Nat.le_of_ble_eq_true rfl) ?_
  intro p e s m below meth c A ls C0 hW hl
  have hx := C0.1
  have hb := C0.2.1
  have hl : lv_has ls 1 [(0, .int x0)] := hl
  obtain ⟨r, hr⟩ : ∃ r, f_X6_isRow x0 = some r ∧ r = out := ⟨out, hf, rfl⟩
  replace hf := hr.1
  have hF := hr.2
  clear hr
  unfold f_X6_isRow at hf
  refine lv_iload_n hx hb dX6_isRow_0 rfl (lv_at hl 0 rfl) ?_
  refine lv_iconst (v := 0) hx hb dX6_isRow_1 (by decide) ?_
  refine lv_iconst (v := 5) hx hb dX6_isRow_2 (by decide) ?_
  obtain ⟨q3, hq3⟩ := ob_s hf
  replace hf := hq3.2
  replace hq3 := hq3.1
  refine cS0 (rest := []) (st1 := [.int q3]) C0 hW hl.1 (c_X6_in l G x0 (0 : Int32) (5 : Int32) _ hq3) cb_X6_in mm_X6_89 [] rfl rfl (by decide) rfl rfl (Nat.le_of_ble_eq_true rfl) ⟨Nat.zero_le _, Nat.zero_le _⟩ dX6_isRow_3 rfl (fun H locs hW => ?_)
  have g6_1 := (gd_some hf).1; replace hf := (gd_some hf).2
  have e1 := Option.some.inj hf
  subst e1
  have hF : (q3 : Int32) = out := hF
  subst hF
  exact k_zret C0 hW g6_1 dX6_isRow_6

def f_X6_meets (w : Md) (x1 : Int32) : Option (Int32 × Md) :=
  gd (inb x1 6) (gd (inb x1 6) (some ((-3 : Int32), (md_set_came (md_set_latest w x1) (upd (md_came w) (ix x1) (((md_came w) (ix x1)) + (1 : Int32)))))))
set_option maxRecDepth 100000 in
set_option maxHeartbeats 1000000 in
theorem c_X6_meets (l : Launch) (G : GG) (a : Nat → Nat) (o : Nat) (w : Md) (x1 : Int32) (out : Int32 × Md) (hf : f_X6_meets w x1 = some out) : Cn l G 0 yX6_meets cX6_meets 2 (some .int) [.ref (a o), .int x1] (bMd G a o w) (some (.int out.1)) (bMd G a o out.2) := by
  refine cn_start (by decide) (Nat.le_of_ble_eq_true rfl) ?_
  intro p e s m below meth c A ls C0 hW hl
  have hx := C0.1
  have hb := C0.2.1
  have hl : lv_has ls 2 [(0, .ref (a o)), (1, .int x1)] := hl
  obtain ⟨r, hr⟩ : ∃ r, f_X6_meets w x1 = some r ∧ r = out := ⟨out, hf, rfl⟩
  replace hf := hr.1
  have hF := hr.2
  clear hr
  unfold f_X6_meets at hf
  refine lv_aload_n hx hb dX6_meets_0 rfl (lv_at hl 0 rfl) ?_
  refine lv_iload_n hx hb dX6_meets_1 rfl (lv_at hl 1 rfl) ?_
  refine k_put C0 hW 6 3 0 rfl (by decide) inX6 tyX6_ok nmX6 mf_X6_79 rfl rfl rfl rfl (Nat.le_of_ble_eq_true rfl) dX6_meets_2 (fun H locs hW => ?_)
  have hW : Wd G A s.heap H (bMd G a o (md_set_latest w x1)) locs := hW
  refine lv_aload_n hx hb dX6_meets_5 rfl (lv_at hl 0 rfl) ?_
  refine k_get C0 hW 6 4 0 (v := .ref (a (o + 1))) rfl (by decide) inX6 mf_X6_13 rfl rfl dX6_meets_6 ?_
  refine lv_iload_n hx hb dX6_meets_9 rfl (lv_at hl 1 rfl) ?_
  refine lv_dup2_11 hx hb dX6_meets_10 rfl rfl ?_
  have g11_1 := (gd_some hf).1; replace hf := (gd_some hf).2
  refine k_iald C0 hW 1 (ix x1) rfl (inb_in g11_1) rfl dX6_meets_11 ?_
  refine lv_iconst (v := 1) hx hb dX6_meets_12 (by decide) ?_
  refine lv_iadd hx hb dX6_meets_13 ?_
  have g14_2 := (gd_some hf).1; replace hf := (gd_some hf).2
  refine k_iast C0 hW 1 (ix x1) rfl (inb_in g14_2) rfl dX6_meets_14 (fun H locs hW => ?_)
  have hW : Wd G A s.heap H (bMd G a o (md_set_came (md_set_latest w x1) (upd (md_came w) (ix x1) (((md_came w) (ix x1)) + (1 : Int32))))) locs := hW
  refine lv_bipush (v := -3) hx hb dX6_meets_15 (by decide) ?_
  have e1 := Option.some.inj hf
  subst e1
  have hF : (((-3 : Int32), (md_set_came (md_set_latest w x1) (upd (md_came w) (ix x1) (((md_came w) (ix x1)) + (1 : Int32))))) : Int32 × Md) = out := hF
  subst hF
  exact k_iret C0 hW dX6_meets_17

def f_X6_rowAt (w : Md) (x1 : Int32) (x2 : Int32) : Option (Int32) :=
  gd (inb (((40 : Int32) * x1) + x2) 240) (some ((md_rows w) (ix (((40 : Int32) * x1) + x2))))
set_option maxRecDepth 100000 in
set_option maxHeartbeats 1000000 in
theorem c_X6_rowAt (l : Launch) (G : GG) (a : Nat → Nat) (o : Nat) (w : Md) (x1 : Int32) (x2 : Int32) (out : Int32) (hf : f_X6_rowAt w x1 x2 = some out) : Cn l G 0 yX6_rowAt cX6_rowAt 3 (some .int) [.ref (a o), .int x1, .int x2] (bMd G a o w) (some (.int out)) (bMd G a o w) := by
  refine cn_start (by decide) (Nat.le_of_ble_eq_true rfl) ?_
  intro p e s m below meth c A ls C0 hW hl
  have hx := C0.1
  have hb := C0.2.1
  have hl : lv_has ls 3 [(0, .ref (a o)), (1, .int x1), (2, .int x2)] := hl
  obtain ⟨r, hr⟩ : ∃ r, f_X6_rowAt w x1 x2 = some r ∧ r = out := ⟨out, hf, rfl⟩
  replace hf := hr.1
  have hF := hr.2
  clear hr
  unfold f_X6_rowAt at hf
  refine lv_aload_n hx hb dX6_rowAt_0 rfl (lv_at hl 0 rfl) ?_
  refine k_get C0 hW 6 6 0 (v := .ref (a (o + 3))) rfl (by decide) inX6 mf_X6_20 rfl rfl dX6_rowAt_1 ?_
  refine lv_bipush (v := 40) hx hb dX6_rowAt_4 (by decide) ?_
  refine lv_iload_n hx hb dX6_rowAt_6 rfl (lv_at hl 1 rfl) ?_
  refine lv_imul hx hb dX6_rowAt_7 ?_
  refine lv_iload_n hx hb dX6_rowAt_8 rfl (lv_at hl 2 rfl) ?_
  refine lv_iadd hx hb dX6_rowAt_9 ?_
  have g10_1 := (gd_some hf).1; replace hf := (gd_some hf).2
  refine k_iald C0 hW 3 (ix (((40 : Int32) * x1) + x2)) rfl (inb_in g10_1) rfl dX6_rowAt_10 ?_
  have e1 := Option.some.inj hf
  subst e1
  have hF : (((md_rows w) (ix (((40 : Int32) * x1) + x2))) : Int32) = out := hF
  subst hF
  exact k_iret C0 hW dX6_rowAt_11

def f_X6_tells (w : Md) (x1 : Int32) (x2 : Int32) : Option (Int32 × Md) :=
  some (x2, (md_set_told w x1))
set_option maxRecDepth 100000 in
set_option maxHeartbeats 1000000 in
theorem c_X6_tells (l : Launch) (G : GG) (a : Nat → Nat) (o : Nat) (w : Md) (x1 : Int32) (x2 : Int32) (out : Int32 × Md) (hf : f_X6_tells w x1 x2 = some out) : Cn l G 0 yX6_tells cX6_tells 3 (some .int) [.ref (a o), .int x1, .int x2] (bMd G a o w) (some (.int out.1)) (bMd G a o out.2) := by
  refine cn_start (by decide) (Nat.le_of_ble_eq_true rfl) ?_
  intro p e s m below meth c A ls C0 hW hl
  have hx := C0.1
  have hb := C0.2.1
  have hl : lv_has ls 3 [(0, .ref (a o)), (1, .int x1), (2, .int x2)] := hl
  obtain ⟨r, hr⟩ : ∃ r, f_X6_tells w x1 x2 = some r ∧ r = out := ⟨out, hf, rfl⟩
  replace hf := hr.1
  have hF := hr.2
  clear hr
  unfold f_X6_tells at hf
  refine lv_aload_n hx hb dX6_tells_0 rfl (lv_at hl 0 rfl) ?_
  refine lv_iload_n hx hb dX6_tells_1 rfl (lv_at hl 1 rfl) ?_
  refine k_put C0 hW 6 0 0 rfl (by decide) inX6 tyX6_ok nmX6 mf_X6_83 rfl rfl rfl rfl (Nat.le_of_ble_eq_true rfl) dX6_tells_2 (fun H locs hW => ?_)
  have hW : Wd G A s.heap H (bMd G a o (md_set_told w x1)) locs := hW
  refine lv_iload_n hx hb dX6_tells_5 rfl (lv_at hl 2 rfl) ?_
  have e1 := Option.some.inj hf
  subst e1
  have hF : ((x2, (md_set_told w x1)) : Int32 × Md) = out := hF
  subst hF
  exact k_iret C0 hW dX6_tells_6

def f_X6_at (w : Md) (x1 : Int32) (x2 : Int32) : Option (Int32 × Md) :=
  Option.bind (f_X6_isRow x1) (fun q1 => if q1 = 0 then (some ((-1 : Int32), w)) else (gd (inb x1 6) (if 0 ≤ ((md_sizes w) (ix x1)) then (gd (inb x1 6) (Option.bind (f_X6_in x2 (0 : Int32) (((md_sizes w) (ix x1)) - (1 : Int32))) (fun q34 => if q34 = 0 then (Option.bind (f_X6_meets w (2 : Int32)) (fun q56 => some (q56.1, q56.2))) else (Option.bind (f_X6_rowAt w x1 x2) (fun q44 => Option.bind (f_X6_tells w q44 (1 : Int32)) (fun q48 => some (q48.1, q48.2))))))) else (Option.bind (f_X6_meets w (1 : Int32)) (fun q20 => some (q20.1, q20.2))))))
set_option maxRecDepth 100000 in
set_option maxHeartbeats 1000000 in
theorem c_X6_at (l : Launch) (G : GG) (a : Nat → Nat) (o : Nat) (w : Md) (x1 : Int32) (x2 : Int32) (out : Int32 × Md) (hf : f_X6_at w x1 x2 = some out) : Cn l G 2 yX6_at cX6_at 3 (some .int) [.ref (a o), .int x1, .int x2] (bMd G a o w) (some (.int out.1)) (bMd G a o out.2) := by
  refine cn_start (by decide) (Nat.le_of_ble_eq_true rfl) ?_
  intro p e s m below meth c A ls C0 hW hl
  have hx := C0.1
  have hb := C0.2.1
  have hl : lv_has ls 3 [(0, .ref (a o)), (1, .int x1), (2, .int x2)] := hl
  obtain ⟨r, hr⟩ : ∃ r, f_X6_at w x1 x2 = some r ∧ r = out := ⟨out, hf, rfl⟩
  replace hf := hr.1
  have hF := hr.2
  clear hr
  unfold f_X6_at at hf
  refine lv_iload_n hx hb dX6_at_0 rfl (lv_at hl 1 rfl) ?_
  obtain ⟨q1, hq1⟩ := ob_s hf
  replace hf := hq1.2
  replace hq1 := hq1.1
  refine cS0 (rest := []) (st1 := [.int q1]) C0 hW hl.1 (c_X6_isRow l G x1 _ hq1) cb_X6_isRow mm_X6_93 [] rfl rfl (by decide) rfl rfl (Nat.le_of_ble_eq_true rfl) ⟨Nat.zero_le _, Nat.zero_le _⟩ dX6_at_1 rfl (fun H locs hW => ?_)
  refine lv_if_ne (tgt := 9) hx hb dX6_at_4 (by decide) (fun c4_1 => ?_) (fun c4_1 => ?_)
  · replace hf := if_f c4_1 hf
    refine lv_aload_n hx hb dX6_at_9 rfl (lv_at hl 0 rfl) ?_
    refine k_get C0 hW 6 5 0 (v := .ref (a (o + 2))) rfl (by decide) inX6 mf_X6_17 rfl rfl dX6_at_10 ?_
    refine lv_iload_n hx hb dX6_at_13 rfl (lv_at hl 1 rfl) ?_
    have g14_2 := (gd_some hf).1; replace hf := (gd_some hf).2
    refine k_iald C0 hW 2 (ix x1) rfl (inb_in g14_2) rfl dX6_at_14 ?_
    refine lv_if_ge (tgt := 24) hx hb dX6_at_15 (by decide) (fun c15_3 => ?_) (fun c15_3 => ?_)
    · replace hf := if_t c15_3 hf
      refine lv_iload_n hx hb dX6_at_24 rfl (lv_at hl 2 rfl) ?_
      refine lv_iconst (v := 0) hx hb dX6_at_25 (by decide) ?_
      refine lv_aload_n hx hb dX6_at_26 rfl (lv_at hl 0 rfl) ?_
      refine k_get C0 hW 6 5 0 (v := .ref (a (o + 2))) rfl (by decide) inX6 mf_X6_17 rfl rfl dX6_at_27 ?_
      refine lv_iload_n hx hb dX6_at_30 rfl (lv_at hl 1 rfl) ?_
      have g31_4 := (gd_some hf).1; replace hf := (gd_some hf).2
      refine k_iald C0 hW 2 (ix x1) rfl (inb_in g31_4) rfl dX6_at_31 ?_
      refine lv_iconst (v := 1) hx hb dX6_at_32 (by decide) ?_
      refine lv_isub hx hb dX6_at_33 ?_
      obtain ⟨q34, hq34⟩ := ob_s hf
      replace hf := hq34.2
      replace hq34 := hq34.1
      refine cS0 (rest := []) (st1 := [.int q34]) C0 hW hl.1 (c_X6_in l G x2 (0 : Int32) (((md_sizes w) (ix x1)) - (1 : Int32)) _ hq34) cb_X6_in mm_X6_89 [] rfl rfl (by decide) rfl rfl (Nat.le_of_ble_eq_true rfl) ⟨Nat.zero_le _, Nat.zero_le _⟩ dX6_at_34 rfl (fun H locs hW => ?_)
      refine lv_if_eq (tgt := 54) hx hb dX6_at_37 (by decide) (fun c37_5 => ?_) (fun c37_5 => ?_)
      · replace hf := if_t c37_5 hf
        refine lv_aload_n hx hb dX6_at_54 rfl (lv_at hl 0 rfl) ?_
        refine lv_iconst (v := 2) hx hb dX6_at_55 (by decide) ?_
        obtain ⟨q56, hq56⟩ := ob_s hf
        replace hf := hq56.2
        replace hq56 := hq56.1
        refine cW1 (rest := []) (ws1 := (bMd G a o q56.2)) (st1 := [.int q56.1]) C0 hW hl.1 (c_X6_meets l G a o w (2 : Int32) _ hq56) cb_X6_meets mm_X6_97 fst_Md 0 6 rfl rfl rfl (by decide) rfl rfl (Nat.le_of_ble_eq_true rfl) ⟨Nat.zero_le _, Nat.zero_le _⟩ dX6_at_56 rfl (fun H locs hW => ?_)
        have e1 := Option.some.inj hf
        subst e1
        have hF : ((q56.1, q56.2) : Int32 × Md) = out := hF
        subst hF
        exact k_iret C0 hW dX6_at_59
      · replace hf := if_f c37_5 hf
        refine lv_aload_n hx hb dX6_at_40 rfl (lv_at hl 0 rfl) ?_
        refine lv_aload_n hx hb dX6_at_41 rfl (lv_at hl 0 rfl) ?_
        refine lv_iload_n hx hb dX6_at_42 rfl (lv_at hl 1 rfl) ?_
        refine lv_iload_n hx hb dX6_at_43 rfl (lv_at hl 2 rfl) ?_
        obtain ⟨q44, hq44⟩ := ob_s hf
        replace hf := hq44.2
        replace hq44 := hq44.1
        refine cW1 (rest := [.ref (a o)]) (ws1 := (bMd G a o w)) (st1 := [.int q44, .ref (a o)]) C0 hW hl.1 (c_X6_rowAt l G a o w x1 x2 _ hq44) cb_X6_rowAt mm_X6_101 fst_Md 0 6 rfl rfl rfl (by decide) rfl rfl (Nat.le_of_ble_eq_true rfl) ⟨Nat.zero_le _, Nat.zero_le _⟩ dX6_at_44 rfl (fun H locs hW => ?_)
        refine lv_iconst (v := 1) hx hb dX6_at_47 (by decide) ?_
        obtain ⟨q48, hq48⟩ := ob_s hf
        replace hf := hq48.2
        replace hq48 := hq48.1
        refine cW1 (rest := []) (ws1 := (bMd G a o q48.2)) (st1 := [.int q48.1]) C0 hW hl.1 (c_X6_tells l G a o w q44 (1 : Int32) _ hq48) cb_X6_tells mm_X6_105 fst_Md 0 6 rfl rfl rfl (by decide) rfl rfl (Nat.le_of_ble_eq_true rfl) ⟨Nat.zero_le _, Nat.zero_le _⟩ dX6_at_48 rfl (fun H locs hW => ?_)
        refine lv_goto (tgt := 59) hx hb dX6_at_51 (by decide) ?_
        have e1 := Option.some.inj hf
        subst e1
        have hF : ((q48.1, q48.2) : Int32 × Md) = out := hF
        subst hF
        exact k_iret C0 hW dX6_at_59
    · replace hf := if_f c15_3 hf
      refine lv_aload_n hx hb dX6_at_18 rfl (lv_at hl 0 rfl) ?_
      refine lv_iconst (v := 1) hx hb dX6_at_19 (by decide) ?_
      obtain ⟨q20, hq20⟩ := ob_s hf
      replace hf := hq20.2
      replace hq20 := hq20.1
      refine cW1 (rest := []) (ws1 := (bMd G a o q20.2)) (st1 := [.int q20.1]) C0 hW hl.1 (c_X6_meets l G a o w (1 : Int32) _ hq20) cb_X6_meets mm_X6_97 fst_Md 0 6 rfl rfl rfl (by decide) rfl rfl (Nat.le_of_ble_eq_true rfl) ⟨Nat.zero_le _, Nat.zero_le _⟩ dX6_at_20 rfl (fun H locs hW => ?_)
      have e1 := Option.some.inj hf
      subst e1
      have hF : ((q20.1, q20.2) : Int32 × Md) = out := hF
      subst hF
      exact k_iret C0 hW dX6_at_23
  · replace hf := if_t c4_1 hf
    refine lv_iconst (v := -1) hx hb dX6_at_7 (by decide) ?_
    have e1 := Option.some.inj hf
    subst e1
    have hF : (((-1 : Int32), w) : Int32 × Md) = out := hF
    subst hF
    exact k_iret C0 hW dX6_at_8

def f_X6_isSpoke (w : Md) (x1 : Int32) : Option (Int32) :=
  Option.bind (f_X6_in x1 (0 : Int32) ((md_n w) - (1 : Int32))) (fun q8 => gd (isB q8) (some q8))
set_option maxRecDepth 100000 in
set_option maxHeartbeats 1000000 in
theorem c_X6_isSpoke (l : Launch) (G : GG) (a : Nat → Nat) (o : Nat) (w : Md) (x1 : Int32) (out : Int32) (hf : f_X6_isSpoke w x1 = some out) : Cn l G 1 yX6_isSpoke cX6_isSpoke 2 (some .boolean) [.ref (a o), .int x1] (bMd G a o w) (some (.int out)) (bMd G a o w) := by
  refine cn_start (by decide) (Nat.le_of_ble_eq_true rfl) ?_
  intro p e s m below meth c A ls C0 hW hl
  have hx := C0.1
  have hb := C0.2.1
  have hl : lv_has ls 2 [(0, .ref (a o)), (1, .int x1)] := hl
  obtain ⟨r, hr⟩ : ∃ r, f_X6_isSpoke w x1 = some r ∧ r = out := ⟨out, hf, rfl⟩
  replace hf := hr.1
  have hF := hr.2
  clear hr
  unfold f_X6_isSpoke at hf
  refine lv_iload_n hx hb dX6_isSpoke_0 rfl (lv_at hl 1 rfl) ?_
  refine lv_iconst (v := 0) hx hb dX6_isSpoke_1 (by decide) ?_
  refine lv_aload_n hx hb dX6_isSpoke_2 rfl (lv_at hl 0 rfl) ?_
  refine k_get C0 hW 6 18 0 (v := .int (md_n w)) rfl (by decide) inX6 mf_X6_142 rfl rfl dX6_isSpoke_3 ?_
  refine lv_iconst (v := 1) hx hb dX6_isSpoke_6 (by decide) ?_
  refine lv_isub hx hb dX6_isSpoke_7 ?_
  obtain ⟨q8, hq8⟩ := ob_s hf
  replace hf := hq8.2
  replace hq8 := hq8.1
  refine cS0 (rest := []) (st1 := [.int q8]) C0 hW hl.1 (c_X6_in l G x1 (0 : Int32) ((md_n w) - (1 : Int32)) _ hq8) cb_X6_in mm_X6_89 [] rfl rfl (by decide) rfl rfl (Nat.le_of_ble_eq_true rfl) ⟨Nat.zero_le _, Nat.zero_le _⟩ dX6_isSpoke_8 rfl (fun H locs hW => ?_)
  have g11_1 := (gd_some hf).1; replace hf := (gd_some hf).2
  have e1 := Option.some.inj hf
  subst e1
  have hF : (q8 : Int32) = out := hF
  subst hF
  exact k_zret C0 hW g11_1 dX6_isSpoke_11

def f_X6_bears (w : Md) (x1 : Int32) (x2 : Int32) (x3 : Int32) : Option (Int32) :=
  Option.bind (f_X6_isSpoke w x1) (fun q2 => if q2 = 0 then (some (-1 : Int32)) else (Option.bind (f_X6_in x2 (0 : Int32) (9 : Int32)) (fun q12 => if q12 = 0 then (some (-1 : Int32)) else (Option.bind (f_X6_in x3 (0 : Int32) (30 : Int32)) (fun q22 => if q22 = 0 then (some (-1 : Int32)) else (gd (inb x1 8) (gd (inb x1 8) (Option.bind (f_X6_bearsAs ((md_kinds w) (ix x1)) ((md_strongs w) (ix x1)) x2 x3 ((md_now w) 2)) (fun q48 => some q48)))))))))
set_option maxRecDepth 100000 in
set_option maxHeartbeats 1000000 in
theorem c_X6_bears (l : Launch) (G : GG) (a : Nat → Nat) (o : Nat) (w : Md) (x1 : Int32) (x2 : Int32) (x3 : Int32) (out : Int32) (hf : f_X6_bears w x1 x2 x3 = some out) : Cn l G 2 yX6_bears cX6_bears 4 (some .int) [.ref (a o), .int x1, .int x2, .int x3] (bMd G a o w) (some (.int out)) (bMd G a o w) := by
  refine cn_start (by decide) (Nat.le_of_ble_eq_true rfl) ?_
  intro p e s m below meth c A ls C0 hW hl
  have hx := C0.1
  have hb := C0.2.1
  have hl : lv_has ls 4 [(0, .ref (a o)), (1, .int x1), (2, .int x2), (3, .int x3)] := hl
  obtain ⟨r, hr⟩ : ∃ r, f_X6_bears w x1 x2 x3 = some r ∧ r = out := ⟨out, hf, rfl⟩
  replace hf := hr.1
  have hF := hr.2
  clear hr
  unfold f_X6_bears at hf
  refine lv_aload_n hx hb dX6_bears_0 rfl (lv_at hl 0 rfl) ?_
  refine lv_iload_n hx hb dX6_bears_1 rfl (lv_at hl 1 rfl) ?_
  obtain ⟨q2, hq2⟩ := ob_s hf
  replace hf := hq2.2
  replace hq2 := hq2.1
  refine cW1 (rest := []) (ws1 := (bMd G a o w)) (st1 := [.int q2]) C0 hW hl.1 (c_X6_isSpoke l G a o w x1 _ hq2) cb_X6_isSpoke mm_X6_169 fst_Md 0 6 rfl rfl rfl (by decide) rfl rfl (Nat.le_of_ble_eq_true rfl) ⟨Nat.zero_le _, Nat.zero_le _⟩ dX6_bears_2 rfl (fun H locs hW => ?_)
  refine lv_if_eq (tgt := 54) hx hb dX6_bears_5 (by decide) (fun c5_1 => ?_) (fun c5_1 => ?_)
  · replace hf := if_t c5_1 hf
    refine lv_iconst (v := -1) hx hb dX6_bears_54 (by decide) ?_
    have e1 := Option.some.inj hf
    subst e1
    have hF : ((-1 : Int32) : Int32) = out := hF
    subst hF
    exact k_iret C0 hW dX6_bears_55
  · replace hf := if_f c5_1 hf
    refine lv_iload_n hx hb dX6_bears_8 rfl (lv_at hl 2 rfl) ?_
    refine lv_iconst (v := 0) hx hb dX6_bears_9 (by decide) ?_
    refine lv_bipush (v := 9) hx hb dX6_bears_10 (by decide) ?_
    obtain ⟨q12, hq12⟩ := ob_s hf
    replace hf := hq12.2
    replace hq12 := hq12.1
    refine cS0 (rest := []) (st1 := [.int q12]) C0 hW hl.1 (c_X6_in l G x2 (0 : Int32) (9 : Int32) _ hq12) cb_X6_in mm_X6_89 [] rfl rfl (by decide) rfl rfl (Nat.le_of_ble_eq_true rfl) ⟨Nat.zero_le _, Nat.zero_le _⟩ dX6_bears_12 rfl (fun H locs hW => ?_)
    refine lv_if_eq (tgt := 54) hx hb dX6_bears_15 (by decide) (fun c15_2 => ?_) (fun c15_2 => ?_)
    · replace hf := if_t c15_2 hf
      refine lv_iconst (v := -1) hx hb dX6_bears_54 (by decide) ?_
      have e1 := Option.some.inj hf
      subst e1
      have hF : ((-1 : Int32) : Int32) = out := hF
      subst hF
      exact k_iret C0 hW dX6_bears_55
    · replace hf := if_f c15_2 hf
      refine lv_iload_n hx hb dX6_bears_18 rfl (lv_at hl 3 rfl) ?_
      refine lv_iconst (v := 0) hx hb dX6_bears_19 (by decide) ?_
      refine lv_bipush (v := 30) hx hb dX6_bears_20 (by decide) ?_
      obtain ⟨q22, hq22⟩ := ob_s hf
      replace hf := hq22.2
      replace hq22 := hq22.1
      refine cS0 (rest := []) (st1 := [.int q22]) C0 hW hl.1 (c_X6_in l G x3 (0 : Int32) (30 : Int32) _ hq22) cb_X6_in mm_X6_89 [] rfl rfl (by decide) rfl rfl (Nat.le_of_ble_eq_true rfl) ⟨Nat.zero_le _, Nat.zero_le _⟩ dX6_bears_22 rfl (fun H locs hW => ?_)
      refine lv_if_eq (tgt := 54) hx hb dX6_bears_25 (by decide) (fun c25_3 => ?_) (fun c25_3 => ?_)
      · replace hf := if_t c25_3 hf
        refine lv_iconst (v := -1) hx hb dX6_bears_54 (by decide) ?_
        have e1 := Option.some.inj hf
        subst e1
        have hF : ((-1 : Int32) : Int32) = out := hF
        subst hF
        exact k_iret C0 hW dX6_bears_55
      · replace hf := if_f c25_3 hf
        refine lv_aload_n hx hb dX6_bears_28 rfl (lv_at hl 0 rfl) ?_
        refine k_get C0 hW 6 21 0 (v := .ref (a (o + 12))) rfl (by decide) inX6 mf_X6_48 rfl rfl dX6_bears_29 ?_
        refine lv_iload_n hx hb dX6_bears_32 rfl (lv_at hl 1 rfl) ?_
        have g33_4 := (gd_some hf).1; replace hf := (gd_some hf).2
        refine k_iald C0 hW 12 (ix x1) rfl (inb_in g33_4) rfl dX6_bears_33 ?_
        refine lv_aload_n hx hb dX6_bears_34 rfl (lv_at hl 0 rfl) ?_
        refine k_get C0 hW 6 23 0 (v := .ref (a (o + 14))) rfl (by decide) inX6 mf_X6_54 rfl rfl dX6_bears_35 ?_
        refine lv_iload_n hx hb dX6_bears_38 rfl (lv_at hl 1 rfl) ?_
        have g39_5 := (gd_some hf).1; replace hf := (gd_some hf).2
        refine k_iald C0 hW 14 (ix x1) rfl (inb_in g39_5) rfl dX6_bears_39 ?_
        refine lv_iload_n hx hb dX6_bears_40 rfl (lv_at hl 2 rfl) ?_
        refine lv_iload_n hx hb dX6_bears_41 rfl (lv_at hl 3 rfl) ?_
        refine lv_aload_n hx hb dX6_bears_42 rfl (lv_at hl 0 rfl) ?_
        refine k_get C0 hW 6 24 0 (v := .ref (a (o + 15))) rfl (by decide) inX6 mf_X6_57 rfl rfl dX6_bears_43 ?_
        refine lv_iconst (v := 2) hx hb dX6_bears_46 (by decide) ?_
        refine k_iald C0 hW 15 2 rfl (inb_in rfl) rfl dX6_bears_47 ?_
        obtain ⟨q48, hq48⟩ := ob_s hf
        replace hf := hq48.2
        replace hq48 := hq48.1
        refine cS0 (rest := []) (st1 := [.int q48]) C0 hW hl.1 (c_X6_bearsAs l G ((md_kinds w) (ix x1)) ((md_strongs w) (ix x1)) x2 x3 ((md_now w) 2) _ hq48) cb_X6_bearsAs mm_X6_154 [] rfl rfl (by decide) rfl rfl (Nat.le_of_ble_eq_true rfl) ⟨Nat.zero_le _, Nat.zero_le _⟩ dX6_bears_48 rfl (fun H locs hW => ?_)
        refine lv_goto (tgt := 55) hx hb dX6_bears_51 (by decide) ?_
        have e1 := Option.some.inj hf
        subst e1
        have hF : (q48 : Int32) = out := hF
        subst hF
        exact k_iret C0 hW dX6_bears_55

def f_X6_bits_B4 (x1 : Int32) (x2 : Int32) : Option ((Int32 × Int32) ⊕ (Int32)) :=
  if x2 = 0 then (Option.map Sum.inr (some x1)) else (nm (x2 &&& (x2 - (1 : Int32))) (fun v16 => some (Sum.inl ((x1 + (1 : Int32)), v16))))
def f_X6_bits_L4 (sg : Int32 × Int32) : Option ((Int32 × Int32) ⊕ (Int32)) := f_X6_bits_B4 sg.1 sg.2
def f_X6_bits (x0 : Int32) : Option (Int32) :=
  lp (f_X6_bits_L4) fuel ((0 : Int32), x0)
set_option maxRecDepth 100000 in
set_option maxHeartbeats 1000000 in
theorem c_X6_bits (l : Launch) (G : GG) (x0 : Int32) (out : Int32) (hf : f_X6_bits x0 = some out) : Cn l G 0 yX6_bits cX6_bits 3 (some .int) [.int x0] ([] : va_W) (some (.int out)) ([] : va_W) := by
  refine cn_start (by decide) (Nat.le_of_ble_eq_true rfl) ?_
  intro p e s m below meth c A ls C0 hW hl
  have hx := C0.1
  have hb := C0.2.1
  have hl : lv_has ls 3 [(0, .int x0)] := hl
  have L4 : ∀ (k8 : Nat) (sg : Int32 × Int32) (o9 : Int32), lp (f_X6_bits_L4) k8 sg = some o9 → (fun (r : Int32) => r = out) o9 → (fun (sg : Int32 × Int32) => ∀ (H : Heap) (locs : List Loc) (ls : Array Slot), Wd G A s.heap H ([] : va_W) locs → lv_has ls 3 [(1, .int sg.1), (2, .int sg.2)] → WW p l e 0 s m [.int x0] below meth c G A (some (.int out)) (([] : va_W)) H locs 4 ls []) sg := by
    have B4 : ∀ (x1 : Int32) (x2 : Int32) (r : (Int32 × Int32) ⊕ (Int32)), f_X6_bits_B4 x1 x2 = some r → (Sum.elim (fun (sg : Int32 × Int32) => ∀ (H : Heap) (locs : List Loc) (ls : Array Slot), Wd G A s.heap H ([] : va_W) locs → lv_has ls 3 [(1, .int sg.1), (2, .int sg.2)] → WW p l e 0 s m [.int x0] below meth c G A (some (.int out)) (([] : va_W)) H locs 4 ls []) (fun (r : Int32) => r = out)) r → ∀ (H : Heap) (locs : List Loc) (ls : Array Slot), Wd G A s.heap H ([] : va_W) locs → lv_has ls 3 [(1, .int x1), (2, .int x2)] → WW p l e 0 s m [.int x0] below meth c G A (some (.int out)) (([] : va_W)) H locs 4 ls [] := by
      intro x1 x2 r hf hF H locs ls hW hl
      unfold f_X6_bits_B4 at hf
      refine lv_iload_n hx hb dX6_bits_4 rfl (lv_at hl 1 rfl) ?_
      refine lv_if_eq (tgt := 20) hx hb dX6_bits_5 (by decide) (fun c5_1 => ?_) (fun c5_1 => ?_)
      · replace hf := if_t c5_1 hf
        obtain ⟨r2, e2⟩ := om_s hf
        replace hf := e2.1
        replace e2 := e2.2
        subst e2
        replace hF := elim_r hF
        refine lv_iload_n hx hb dX6_bits_20 rfl (lv_at hl 0 rfl) ?_
        have e1 := Option.some.inj hf
        subst e1
        have hF : (x1 : Int32) = out := hF
        subst hF
        exact k_iret C0 hW dX6_bits_21
      · replace hf := if_f c5_1 hf
        refine lv_iinc (v := (x1 + (1 : Int32))) (lv' := [(1, .int (x1 + (1 : Int32))), (2, .int x2)]) hx hb dX6_bits_8 hl (k := 0) rfl rfl (by decide) rfl (fun ls hl => ?_)
        refine lv_iload_n hx hb dX6_bits_11 rfl (lv_at hl 1 rfl) ?_
        refine lv_iload_n hx hb dX6_bits_12 rfl (lv_at hl 1 rfl) ?_
        refine lv_iconst (v := 1) hx hb dX6_bits_13 (by decide) ?_
        refine lv_isub hx hb dX6_bits_14 ?_
        refine lv_iand hx hb dX6_bits_15 ?_
        refine lv_topi (fun v16 ev16 => ?_)
        replace hf := nm_s ev16 hf
        refine lv_istore_n (lv' := [(2, .int v16), (1, .int (x1 + (1 : Int32)))]) hx hb dX6_bits_16 rfl hl (by decide) rfl (fun ls hl => ?_)
        refine lv_goto (tgt := 4) hx hb dX6_bits_17 (by decide) ?_
        have e1 := Option.some.inj hf
        subst e1
        exact (elim_l hF) _ _ _ hW (lv_sub hl [1, 0] rfl)
    exact lp_sound (fun sg r hb hz => B4 sg.1 sg.2 r hb hz)
  obtain ⟨r, hr⟩ : ∃ r, f_X6_bits x0 = some r ∧ r = out := ⟨out, hf, rfl⟩
  replace hf := hr.1
  have hF := hr.2
  clear hr
  unfold f_X6_bits at hf
  refine lv_iconst (v := 0) hx hb dX6_bits_0 (by decide) ?_
  refine lv_istore_n (lv' := [(1, .int (0 : Int32)), (0, .int x0)]) hx hb dX6_bits_1 rfl hl (by decide) rfl (fun ls hl => ?_)
  refine lv_iload_n hx hb dX6_bits_2 rfl (lv_at hl 1 rfl) ?_
  refine lv_istore_n (lv' := [(2, .int x0), (1, .int (0 : Int32)), (0, .int x0)]) hx hb dX6_bits_3 rfl hl (by decide) rfl (fun ls hl => ?_)
  exact L4  fuel ((0 : Int32), x0) _ hf hF _ _ _ hW (lv_sub hl [1, 0] rfl)

def f_X6_copyNow_B2 (x1 : Int32) (w : Md) : Option ((Int32 × Md) ⊕ (Md)) :=
  if (12 : Int32) ≤ x1 then (Option.map Sum.inr (some w)) else (gd (inb x1 12) (gd (inb x1 12) (some (Sum.inl ((x1 + (1 : Int32)), (md_set_tried w (upd (md_tried w) (ix x1) ((md_now w) (ix x1)))))))))
def f_X6_copyNow_L2 (sg : Int32 × Md) : Option ((Int32 × Md) ⊕ (Md)) := f_X6_copyNow_B2 sg.1 sg.2
def f_X6_copyNow (w : Md) : Option (Md) :=
  lp (f_X6_copyNow_L2) fuel ((0 : Int32), w)
set_option maxRecDepth 100000 in
set_option maxHeartbeats 1000000 in
theorem c_X6_copyNow (l : Launch) (G : GG) (a : Nat → Nat) (o : Nat) (w : Md) (out : Md) (hf : f_X6_copyNow w = some out) : Cn l G 0 yX6_copyNow cX6_copyNow 2 (none) [.ref (a o)] (bMd G a o w) (none) (bMd G a o out) := by
  refine cn_start (by decide) (Nat.le_of_ble_eq_true rfl) ?_
  intro p e s m below meth c A ls C0 hW hl
  have hx := C0.1
  have hb := C0.2.1
  have hl : lv_has ls 2 [(0, .ref (a o))] := hl
  have L2 : ∀ (k8 : Nat) (sg : Int32 × Md) (o9 : Md), lp (f_X6_copyNow_L2) k8 sg = some o9 → (fun (r : Md) => r = out) o9 → (fun (sg : Int32 × Md) => ∀ (H : Heap) (locs : List Loc) (ls : Array Slot), Wd G A s.heap H (bMd G a o sg.2) locs → lv_has ls 2 [(0, .ref (a o)), (1, .int sg.1)] → WW p l e 0 s m [.ref (a o)] below meth c G A (none) ((bMd G a o out)) H locs 2 ls []) sg := by
    have B2 : ∀ (x1 : Int32) (w : Md) (r : (Int32 × Md) ⊕ (Md)), f_X6_copyNow_B2 x1 w = some r → (Sum.elim (fun (sg : Int32 × Md) => ∀ (H : Heap) (locs : List Loc) (ls : Array Slot), Wd G A s.heap H (bMd G a o sg.2) locs → lv_has ls 2 [(0, .ref (a o)), (1, .int sg.1)] → WW p l e 0 s m [.ref (a o)] below meth c G A (none) ((bMd G a o out)) H locs 2 ls []) (fun (r : Md) => r = out)) r → ∀ (H : Heap) (locs : List Loc) (ls : Array Slot), Wd G A s.heap H (bMd G a o w) locs → lv_has ls 2 [(0, .ref (a o)), (1, .int x1)] → WW p l e 0 s m [.ref (a o)] below meth c G A (none) ((bMd G a o out)) H locs 2 ls [] := by
      intro x1 w r hf hF H locs ls hW hl
      unfold f_X6_copyNow_B2 at hf
      refine lv_iload_n hx hb dX6_copyNow_2 rfl (lv_at hl 1 rfl) ?_
      refine lv_bipush (v := 12) hx hb dX6_copyNow_3 (by decide) ?_
      refine lv_icmp_ge (tgt := 26) hx hb dX6_copyNow_5 (by decide) (fun c5_1 => ?_) (fun c5_1 => ?_)
      · replace hf := if_t c5_1 hf
        obtain ⟨r2, e2⟩ := om_s hf
        replace hf := e2.1
        replace e2 := e2.2
        subst e2
        replace hF := elim_r hF
        have e1 := Option.some.inj hf
        subst e1
        have hF : (w : Md) = out := hF
        subst hF
        exact k_vret C0 hW dX6_copyNow_26
      · replace hf := if_f c5_1 hf
        refine lv_aload_n hx hb dX6_copyNow_8 rfl (lv_at hl 0 rfl) ?_
        refine k_get C0 hW 6 25 0 (v := .ref (a (o + 16))) rfl (by decide) inX6 mf_X6_60 rfl rfl dX6_copyNow_9 ?_
        refine lv_iload_n hx hb dX6_copyNow_12 rfl (lv_at hl 1 rfl) ?_
        refine lv_aload_n hx hb dX6_copyNow_13 rfl (lv_at hl 0 rfl) ?_
        refine k_get C0 hW 6 24 0 (v := .ref (a (o + 15))) rfl (by decide) inX6 mf_X6_57 rfl rfl dX6_copyNow_14 ?_
        refine lv_iload_n hx hb dX6_copyNow_17 rfl (lv_at hl 1 rfl) ?_
        have g18_2 := (gd_some hf).1; replace hf := (gd_some hf).2
        refine k_iald C0 hW 15 (ix x1) rfl (inb_in g18_2) rfl dX6_copyNow_18 ?_
        have g19_3 := (gd_some hf).1; replace hf := (gd_some hf).2
        refine k_iast C0 hW 16 (ix x1) rfl (inb_in g19_3) rfl dX6_copyNow_19 (fun H locs hW => ?_)
        have hW : Wd G A s.heap H (bMd G a o (md_set_tried w (upd (md_tried w) (ix x1) ((md_now w) (ix x1))))) locs := hW
        refine lv_iinc (v := (x1 + (1 : Int32))) (lv' := [(1, .int (x1 + (1 : Int32))), (0, .ref (a o))]) hx hb dX6_copyNow_20 hl (k := 1) rfl rfl (by decide) rfl (fun ls hl => ?_)
        refine lv_goto (tgt := 2) hx hb dX6_copyNow_23 (by decide) ?_
        have e1 := Option.some.inj hf
        subst e1
        exact (elim_l hF) _ _ _ hW (lv_sub hl [1, 0] rfl)
    exact lp_sound (fun sg r hb hz => B2 sg.1 sg.2 r hb hz)
  obtain ⟨r, hr⟩ : ∃ r, f_X6_copyNow w = some r ∧ r = out := ⟨out, hf, rfl⟩
  replace hf := hr.1
  have hF := hr.2
  clear hr
  unfold f_X6_copyNow at hf
  refine lv_iconst (v := 0) hx hb dX6_copyNow_0 (by decide) ?_
  refine lv_istore_n (lv' := [(1, .int (0 : Int32)), (0, .ref (a o))]) hx hb dX6_copyNow_1 rfl hl (by decide) rfl (fun ls hl => ?_)
  exact L2  fuel ((0 : Int32), w) _ hf hF _ _ _ hW (lv_sub hl [1, 0] rfl)

def f_X6_has (x0 : Int32) (x1 : Int32) : Option (Int32) :=
  if ((jshr x0 x1) &&& (1 : Int32)) = (1 : Int32) then (some (1 : Int32)) else (some (0 : Int32))
set_option maxRecDepth 100000 in
set_option maxHeartbeats 1000000 in
theorem c_X6_has (l : Launch) (G : GG) (x0 : Int32) (x1 : Int32) (out : Int32) (hf : f_X6_has x0 x1 = some out) : Cn l G 0 yX6_has cX6_has 2 (some .boolean) [.int x0, .int x1] ([] : va_W) (some (.int out)) ([] : va_W) := by
  refine cn_start (by decide) (Nat.le_of_ble_eq_true rfl) ?_
  intro p e s m below meth c A ls C0 hW hl
  have hx := C0.1
  have hb := C0.2.1
  have hl : lv_has ls 2 [(0, .int x0), (1, .int x1)] := hl
  obtain ⟨r, hr⟩ : ∃ r, f_X6_has x0 x1 = some r ∧ r = out := ⟨out, hf, rfl⟩
  replace hf := hr.1
  have hF := hr.2
  clear hr
  unfold f_X6_has at hf
  refine lv_iload_n hx hb dX6_has_0 rfl (lv_at hl 0 rfl) ?_
  refine lv_iload_n hx hb dX6_has_1 rfl (lv_at hl 1 rfl) ?_
  refine lv_ishr hx hb dX6_has_2 ?_
  refine lv_iconst (v := 1) hx hb dX6_has_3 (by decide) ?_
  refine lv_iand hx hb dX6_has_4 ?_
  refine lv_iconst (v := 1) hx hb dX6_has_5 (by decide) ?_
  refine lv_icmp_ne (tgt := 13) hx hb dX6_has_6 (by decide) (fun c6_1 => ?_) (fun c6_1 => ?_)
  · replace hf := if_f c6_1 hf
    refine lv_iconst (v := 0) hx hb dX6_has_13 (by decide) ?_
    have e1 := Option.some.inj hf
    subst e1
    have hF : ((0 : Int32) : Int32) = out := hF
    subst hF
    exact k_zret C0 hW rfl dX6_has_14
  · replace hf := if_t c6_1 hf
    refine lv_iconst (v := 1) hx hb dX6_has_9 (by decide) ?_
    refine lv_goto (tgt := 14) hx hb dX6_has_10 (by decide) ?_
    have e1 := Option.some.inj hf
    subst e1
    have hF : ((1 : Int32) : Int32) = out := hF
    subst hF
    exact k_zret C0 hW rfl dX6_has_14

def f_X6_isOver_tried_J48 (w : Md) (x3 : Int32) (t0 : Int32) : Option ((Int32 × Int32) ⊕ (Int32)) :=
  some (Sum.inl (t0, (x3 + (1 : Int32))))
def f_X6_isOver_tried_J43 (w : Md) (x3 : Int32) : Option ((Int32 × Int32) ⊕ (Int32)) :=
  f_X6_isOver_tried_J48 w x3 (1 : Int32)
def f_X6_isOver_tried_J47 (w : Md) (x3 : Int32) : Option ((Int32 × Int32) ⊕ (Int32)) :=
  f_X6_isOver_tried_J48 w x3 (0 : Int32)
def f_X6_isOver_tried_B4 (w : Md) (x2 : Int32) (x3 : Int32) : Option ((Int32 × Int32) ⊕ (Int32)) :=
  if (md_n w) ≤ x3 then (Option.map Sum.inr (gd (isB x2) (some x2))) else (if x2 = 0 then (Option.bind (f_X6_has ((md_tried w) 3) x3) (fun q20 => if q20 = 0 then (gd (decide (¬ (md_n w) = 0)) (Option.bind (f_X6_has ((md_tried w) 3) (jrem (x3 + (1 : Int32)) (md_n w))) (fun q37 => if q37 = 0 then (f_X6_isOver_tried_J43 w x3) else (f_X6_isOver_tried_J47 w x3)))) else (f_X6_isOver_tried_J47 w x3))) else (f_X6_isOver_tried_J43 w x3))
def f_X6_isOver_tried_L4 (w : Md) (sg : Int32 × Int32) : Option ((Int32 × Int32) ⊕ (Int32)) := f_X6_isOver_tried_B4 w sg.1 sg.2
def f_X6_isOver_tried (w : Md) : Option (Int32) :=
  lp (f_X6_isOver_tried_L4 w) fuel ((0 : Int32), (0 : Int32))
set_option maxRecDepth 100000 in
set_option maxHeartbeats 1000000 in
theorem c_X6_isOver_tried (l : Launch) (G : GG) (a : Nat → Nat) (o : Nat) (w : Md) (out : Int32) (hf : f_X6_isOver_tried w = some out) : Cn l G 1 yX6_isOver cX6_isOver 4 (some .boolean) [.ref (a o), .ref (a (o + 16))] (bMd G a o w) (some (.int out)) (bMd G a o w) := by
  refine cn_start (by decide) (Nat.le_of_ble_eq_true rfl) ?_
  intro p e s m below meth c A ls C0 hW hl
  have hx := C0.1
  have hb := C0.2.1
  have hl : lv_has ls 4 [(0, .ref (a o)), (1, .ref (a (o + 16)))] := hl
  have L4 : ∀ (k8 : Nat) (sg : Int32 × Int32) (o9 : Int32), lp (f_X6_isOver_tried_L4 w) k8 sg = some o9 → (fun (r : Int32) => r = out) o9 → (fun (sg : Int32 × Int32) => ∀ (H : Heap) (locs : List Loc) (ls : Array Slot), Wd G A s.heap H (bMd G a o w) locs → lv_has ls 4 [(0, .ref (a o)), (1, .ref (a (o + 16))), (2, .int sg.1), (3, .int sg.2)] → WW p l e 1 s m [.ref (a o), .ref (a (o + 16))] below meth c G A (some (.int out)) ((bMd G a o w)) H locs 4 ls []) sg := by
    have J48 : ∀ (x3 : Int32) (t0 : Int32) (r : (Int32 × Int32) ⊕ (Int32)), f_X6_isOver_tried_J48 w x3 t0 = some r → (Sum.elim (fun (sg : Int32 × Int32) => ∀ (H : Heap) (locs : List Loc) (ls : Array Slot), Wd G A s.heap H (bMd G a o w) locs → lv_has ls 4 [(0, .ref (a o)), (1, .ref (a (o + 16))), (2, .int sg.1), (3, .int sg.2)] → WW p l e 1 s m [.ref (a o), .ref (a (o + 16))] below meth c G A (some (.int out)) ((bMd G a o w)) H locs 4 ls []) (fun (r : Int32) => r = out)) r → ∀ (H : Heap) (locs : List Loc) (ls : Array Slot), Wd G A s.heap H (bMd G a o w) locs → lv_has ls 4 [(0, .ref (a o)), (1, .ref (a (o + 16))), (3, .int x3)] → WW p l e 1 s m [.ref (a o), .ref (a (o + 16))] below meth c G A (some (.int out)) ((bMd G a o w)) H locs 48 ls [.int t0] := by
      intro x3 t0 r hf hF H locs ls hW hl
      unfold f_X6_isOver_tried_J48 at hf
      refine lv_istore_n (lv' := [(2, .int t0), (0, .ref (a o)), (1, .ref (a (o + 16))), (3, .int x3)]) hx hb dX6_isOver_48 rfl hl (by decide) rfl (fun ls hl => ?_)
      refine lv_iinc (v := (x3 + (1 : Int32))) (lv' := [(3, .int (x3 + (1 : Int32))), (2, .int t0), (0, .ref (a o)), (1, .ref (a (o + 16)))]) hx hb dX6_isOver_49 hl (k := 3) rfl rfl (by decide) rfl (fun ls hl => ?_)
      refine lv_goto (tgt := 4) hx hb dX6_isOver_52 (by decide) ?_
      have e1 := Option.some.inj hf
      subst e1
      exact (elim_l hF) _ _ _ hW (lv_sub hl [2, 3, 1, 0] rfl)
    have J43 : ∀ (x3 : Int32) (r : (Int32 × Int32) ⊕ (Int32)), f_X6_isOver_tried_J43 w x3 = some r → (Sum.elim (fun (sg : Int32 × Int32) => ∀ (H : Heap) (locs : List Loc) (ls : Array Slot), Wd G A s.heap H (bMd G a o w) locs → lv_has ls 4 [(0, .ref (a o)), (1, .ref (a (o + 16))), (2, .int sg.1), (3, .int sg.2)] → WW p l e 1 s m [.ref (a o), .ref (a (o + 16))] below meth c G A (some (.int out)) ((bMd G a o w)) H locs 4 ls []) (fun (r : Int32) => r = out)) r → ∀ (H : Heap) (locs : List Loc) (ls : Array Slot), Wd G A s.heap H (bMd G a o w) locs → lv_has ls 4 [(0, .ref (a o)), (1, .ref (a (o + 16))), (3, .int x3)] → WW p l e 1 s m [.ref (a o), .ref (a (o + 16))] below meth c G A (some (.int out)) ((bMd G a o w)) H locs 43 ls [] := by
      intro x3 r hf hF H locs ls hW hl
      unfold f_X6_isOver_tried_J43 at hf
      refine lv_iconst (v := 1) hx hb dX6_isOver_43 (by decide) ?_
      refine lv_goto (tgt := 48) hx hb dX6_isOver_44 (by decide) ?_
      exact J48 _ _ _ hf hF _ _ _ hW (lv_sub hl [0, 1, 2] rfl)
    have J47 : ∀ (x3 : Int32) (r : (Int32 × Int32) ⊕ (Int32)), f_X6_isOver_tried_J47 w x3 = some r → (Sum.elim (fun (sg : Int32 × Int32) => ∀ (H : Heap) (locs : List Loc) (ls : Array Slot), Wd G A s.heap H (bMd G a o w) locs → lv_has ls 4 [(0, .ref (a o)), (1, .ref (a (o + 16))), (2, .int sg.1), (3, .int sg.2)] → WW p l e 1 s m [.ref (a o), .ref (a (o + 16))] below meth c G A (some (.int out)) ((bMd G a o w)) H locs 4 ls []) (fun (r : Int32) => r = out)) r → ∀ (H : Heap) (locs : List Loc) (ls : Array Slot), Wd G A s.heap H (bMd G a o w) locs → lv_has ls 4 [(0, .ref (a o)), (1, .ref (a (o + 16))), (3, .int x3)] → WW p l e 1 s m [.ref (a o), .ref (a (o + 16))] below meth c G A (some (.int out)) ((bMd G a o w)) H locs 47 ls [] := by
      intro x3 r hf hF H locs ls hW hl
      unfold f_X6_isOver_tried_J47 at hf
      refine lv_iconst (v := 0) hx hb dX6_isOver_47 (by decide) ?_
      exact J48 _ _ _ hf hF _ _ _ hW (lv_sub hl [0, 1, 2] rfl)
    have B4 : ∀ (x2 : Int32) (x3 : Int32) (r : (Int32 × Int32) ⊕ (Int32)), f_X6_isOver_tried_B4 w x2 x3 = some r → (Sum.elim (fun (sg : Int32 × Int32) => ∀ (H : Heap) (locs : List Loc) (ls : Array Slot), Wd G A s.heap H (bMd G a o w) locs → lv_has ls 4 [(0, .ref (a o)), (1, .ref (a (o + 16))), (2, .int sg.1), (3, .int sg.2)] → WW p l e 1 s m [.ref (a o), .ref (a (o + 16))] below meth c G A (some (.int out)) ((bMd G a o w)) H locs 4 ls []) (fun (r : Int32) => r = out)) r → ∀ (H : Heap) (locs : List Loc) (ls : Array Slot), Wd G A s.heap H (bMd G a o w) locs → lv_has ls 4 [(0, .ref (a o)), (1, .ref (a (o + 16))), (2, .int x2), (3, .int x3)] → WW p l e 1 s m [.ref (a o), .ref (a (o + 16))] below meth c G A (some (.int out)) ((bMd G a o w)) H locs 4 ls [] := by
      intro x2 x3 r hf hF H locs ls hW hl
      unfold f_X6_isOver_tried_B4 at hf
      refine lv_iload_n hx hb dX6_isOver_4 rfl (lv_at hl 3 rfl) ?_
      refine lv_aload_n hx hb dX6_isOver_5 rfl (lv_at hl 0 rfl) ?_
      refine k_get C0 hW 6 18 0 (v := .int (md_n w)) rfl (by decide) inX6 mf_X6_142 rfl rfl dX6_isOver_6 ?_
      refine lv_icmp_ge (tgt := 55) hx hb dX6_isOver_9 (by decide) (fun c9_1 => ?_) (fun c9_1 => ?_)
      · replace hf := if_t c9_1 hf
        obtain ⟨r2, e2⟩ := om_s hf
        replace hf := e2.1
        replace e2 := e2.2
        subst e2
        replace hF := elim_r hF
        refine lv_iload_n hx hb dX6_isOver_55 rfl (lv_at hl 2 rfl) ?_
        have g56_2 := (gd_some hf).1; replace hf := (gd_some hf).2
        have e1 := Option.some.inj hf
        subst e1
        have hF : (x2 : Int32) = out := hF
        subst hF
        exact k_zret C0 hW g56_2 dX6_isOver_56
      · replace hf := if_f c9_1 hf
        refine lv_iload_n hx hb dX6_isOver_12 rfl (lv_at hl 2 rfl) ?_
        refine lv_if_ne (tgt := 43) hx hb dX6_isOver_13 (by decide) (fun c13_3 => ?_) (fun c13_3 => ?_)
        · replace hf := if_f c13_3 hf
          exact J43 _ _ hf hF _ _ _ hW (lv_sub hl [0, 1, 3] rfl)
        · replace hf := if_t c13_3 hf
          refine lv_aload_n hx hb dX6_isOver_16 rfl (lv_at hl 1 rfl) ?_
          refine lv_iconst (v := 3) hx hb dX6_isOver_17 (by decide) ?_
          refine k_iald C0 hW 16 3 rfl (inb_in rfl) rfl dX6_isOver_18 ?_
          refine lv_iload_n hx hb dX6_isOver_19 rfl (lv_at hl 3 rfl) ?_
          obtain ⟨q20, hq20⟩ := ob_s hf
          replace hf := hq20.2
          replace hq20 := hq20.1
          refine cS0 (rest := []) (st1 := [.int q20]) C0 hW hl.1 (c_X6_has l G ((md_tried w) 3) x3 _ hq20) cb_X6_has mm_X6_158 [] rfl rfl (by decide) rfl rfl (Nat.le_of_ble_eq_true rfl) ⟨Nat.zero_le _, Nat.zero_le _⟩ dX6_isOver_20 rfl (fun H locs hW => ?_)
          refine lv_if_ne (tgt := 47) hx hb dX6_isOver_23 (by decide) (fun c23_4 => ?_) (fun c23_4 => ?_)
          · replace hf := if_f c23_4 hf
            exact J47 _ _ hf hF _ _ _ hW (lv_sub hl [0, 1, 3] rfl)
          · replace hf := if_t c23_4 hf
            refine lv_aload_n hx hb dX6_isOver_26 rfl (lv_at hl 1 rfl) ?_
            refine lv_iconst (v := 3) hx hb dX6_isOver_27 (by decide) ?_
            refine k_iald C0 hW 16 3 rfl (inb_in rfl) rfl dX6_isOver_28 ?_
            refine lv_iload_n hx hb dX6_isOver_29 rfl (lv_at hl 3 rfl) ?_
            refine lv_iconst (v := 1) hx hb dX6_isOver_30 (by decide) ?_
            refine lv_iadd hx hb dX6_isOver_31 ?_
            refine lv_aload_n hx hb dX6_isOver_32 rfl (lv_at hl 0 rfl) ?_
            refine k_get C0 hW 6 18 0 (v := .int (md_n w)) rfl (by decide) inX6 mf_X6_142 rfl rfl dX6_isOver_33 ?_
            have g36_5 := (gd_some hf).1; replace hf := (gd_some hf).2
            refine lv_irem hx hb dX6_isOver_36 (of_decide_eq_true g36_5) ?_
            obtain ⟨q37, hq37⟩ := ob_s hf
            replace hf := hq37.2
            replace hq37 := hq37.1
            refine cS0 (rest := []) (st1 := [.int q37]) C0 hW hl.1 (c_X6_has l G ((md_tried w) 3) (jrem (x3 + (1 : Int32)) (md_n w)) _ hq37) cb_X6_has mm_X6_158 [] rfl rfl (by decide) rfl rfl (Nat.le_of_ble_eq_true rfl) ⟨Nat.zero_le _, Nat.zero_le _⟩ dX6_isOver_37 rfl (fun H locs hW => ?_)
            refine lv_if_ne (tgt := 47) hx hb dX6_isOver_40 (by decide) (fun c40_6 => ?_) (fun c40_6 => ?_)
            · replace hf := if_f c40_6 hf
              exact J47 _ _ hf hF _ _ _ hW (lv_sub hl [0, 1, 3] rfl)
            · replace hf := if_t c40_6 hf
              exact J43 _ _ hf hF _ _ _ hW (lv_sub hl [0, 1, 3] rfl)
    exact lp_sound (fun sg r hb hz => B4 sg.1 sg.2 r hb hz)
  obtain ⟨r, hr⟩ : ∃ r, f_X6_isOver_tried w = some r ∧ r = out := ⟨out, hf, rfl⟩
  replace hf := hr.1
  have hF := hr.2
  clear hr
  unfold f_X6_isOver_tried at hf
  refine lv_iconst (v := 0) hx hb dX6_isOver_0 (by decide) ?_
  refine lv_istore_n (lv' := [(2, .int (0 : Int32)), (0, .ref (a o)), (1, .ref (a (o + 16)))]) hx hb dX6_isOver_1 rfl hl (by decide) rfl (fun ls hl => ?_)
  refine lv_iconst (v := 0) hx hb dX6_isOver_2 (by decide) ?_
  refine lv_istore_n (lv' := [(3, .int (0 : Int32)), (2, .int (0 : Int32)), (0, .ref (a o)), (1, .ref (a (o + 16)))]) hx hb dX6_isOver_3 rfl hl (by decide) rfl (fun ls hl => ?_)
  exact L4  fuel ((0 : Int32), (0 : Int32)) _ hf hF _ _ _ hW (lv_sub hl [2, 3, 1, 0] rfl)

def f_X6_bearsOn_tried (w : Md) (x2 : Int32) (x3 : Int32) : Option (Int32) :=
  gd (inb x2 8) (gd (inb x2 8) (gd (inb ((4 : Int32) + x2) 12) (Option.bind (f_X6_bearsAs ((md_kinds w) (ix x2)) ((md_strongs w) (ix x2)) x3 ((md_tried w) (ix ((4 : Int32) + x2))) ((md_tried w) 2)) (fun q21 => some q21))))
set_option maxRecDepth 100000 in
set_option maxHeartbeats 1000000 in
theorem c_X6_bearsOn_tried (l : Launch) (G : GG) (a : Nat → Nat) (o : Nat) (w : Md) (x2 : Int32) (x3 : Int32) (out : Int32) (hf : f_X6_bearsOn_tried w x2 x3 = some out) : Cn l G 2 yX6_bearsOn cX6_bearsOn 4 (some .int) [.ref (a o), .ref (a (o + 16)), .int x2, .int x3] (bMd G a o w) (some (.int out)) (bMd G a o w) := by
  refine cn_start (by decide) (Nat.le_of_ble_eq_true rfl) ?_
  intro p e s m below meth c A ls C0 hW hl
  have hx := C0.1
  have hb := C0.2.1
  have hl : lv_has ls 4 [(0, .ref (a o)), (1, .ref (a (o + 16))), (2, .int x2), (3, .int x3)] := hl
  obtain ⟨r, hr⟩ : ∃ r, f_X6_bearsOn_tried w x2 x3 = some r ∧ r = out := ⟨out, hf, rfl⟩
  replace hf := hr.1
  have hF := hr.2
  clear hr
  unfold f_X6_bearsOn_tried at hf
  refine lv_aload_n hx hb dX6_bearsOn_0 rfl (lv_at hl 0 rfl) ?_
  refine k_get C0 hW 6 21 0 (v := .ref (a (o + 12))) rfl (by decide) inX6 mf_X6_48 rfl rfl dX6_bearsOn_1 ?_
  refine lv_iload_n hx hb dX6_bearsOn_4 rfl (lv_at hl 2 rfl) ?_
  have g5_1 := (gd_some hf).1; replace hf := (gd_some hf).2
  refine k_iald C0 hW 12 (ix x2) rfl (inb_in g5_1) rfl dX6_bearsOn_5 ?_
  refine lv_aload_n hx hb dX6_bearsOn_6 rfl (lv_at hl 0 rfl) ?_
  refine k_get C0 hW 6 23 0 (v := .ref (a (o + 14))) rfl (by decide) inX6 mf_X6_54 rfl rfl dX6_bearsOn_7 ?_
  refine lv_iload_n hx hb dX6_bearsOn_10 rfl (lv_at hl 2 rfl) ?_
  have g11_2 := (gd_some hf).1; replace hf := (gd_some hf).2
  refine k_iald C0 hW 14 (ix x2) rfl (inb_in g11_2) rfl dX6_bearsOn_11 ?_
  refine lv_iload_n hx hb dX6_bearsOn_12 rfl (lv_at hl 3 rfl) ?_
  refine lv_aload_n hx hb dX6_bearsOn_13 rfl (lv_at hl 1 rfl) ?_
  refine lv_iconst (v := 4) hx hb dX6_bearsOn_14 (by decide) ?_
  refine lv_iload_n hx hb dX6_bearsOn_15 rfl (lv_at hl 2 rfl) ?_
  refine lv_iadd hx hb dX6_bearsOn_16 ?_
  have g17_3 := (gd_some hf).1; replace hf := (gd_some hf).2
  refine k_iald C0 hW 16 (ix ((4 : Int32) + x2)) rfl (inb_in g17_3) rfl dX6_bearsOn_17 ?_
  refine lv_aload_n hx hb dX6_bearsOn_18 rfl (lv_at hl 1 rfl) ?_
  refine lv_iconst (v := 2) hx hb dX6_bearsOn_19 (by decide) ?_
  refine k_iald C0 hW 16 2 rfl (inb_in rfl) rfl dX6_bearsOn_20 ?_
  obtain ⟨q21, hq21⟩ := ob_s hf
  replace hf := hq21.2
  replace hq21 := hq21.1
  refine cS0 (rest := []) (st1 := [.int q21]) C0 hW hl.1 (c_X6_bearsAs l G ((md_kinds w) (ix x2)) ((md_strongs w) (ix x2)) x3 ((md_tried w) (ix ((4 : Int32) + x2))) ((md_tried w) 2) _ hq21) cb_X6_bearsAs mm_X6_154 [] rfl rfl (by decide) rfl rfl (Nat.le_of_ble_eq_true rfl) ⟨Nat.zero_le _, Nat.zero_le _⟩ dX6_bearsOn_21 rfl (fun H locs hW => ?_)
  have e1 := Option.some.inj hf
  subst e1
  have hF : (q21 : Int32) = out := hF
  subst hF
  exact k_iret C0 hW dX6_bearsOn_24

def f_X6_steps_tried_J120 (w : Md) (x2 : Int32) (x5 : Int32) : Option (Int32 × Md) :=
  gd (decide (¬ (md_n w) = 0)) (gd (isB x5) (some (x5, (md_set_tried w (upd (upd (md_tried w) 1 (jrem (x2 + (1 : Int32)) (md_n w))) 0 (((upd (md_tried w) 1 (jrem (x2 + (1 : Int32)) (md_n w))) 0) + (1 : Int32)))))))
def f_X6_steps_tried_J118 (w : Md) (x2 : Int32) (x5 : Int32) (t1 : Int32) (t2 : Int32) (t3 : Int32) : Option (Int32 × Md) :=
  gd (inb t1 12) (f_X6_steps_tried_J120 (md_set_tried w (upd (md_tried w) (ix t1) (t2 + t3))) x2 x5)
def f_X6_steps_tried_J97 (w : Md) (x2 : Int32) (x5 : Int32) : Option (Int32 × Md) :=
  gd (inb ((4 : Int32) + x2) 12) (gd (inb ((4 : Int32) + x2) 12) (if (30 : Int32) ≤ ((md_tried w) (ix ((4 : Int32) + x2))) then (f_X6_steps_tried_J118 w x2 x5 ((4 : Int32) + x2) ((md_tried w) (ix ((4 : Int32) + x2))) (0 : Int32)) else (f_X6_steps_tried_J118 w x2 x5 ((4 : Int32) + x2) ((md_tried w) (ix ((4 : Int32) + x2))) (1 : Int32))))
def f_X6_steps_tried_J78 (w : Md) (x2 : Int32) (x3 : Int32) (x5 : Int32) : Option (Int32 × Md) :=
  if x5 = 0 then (if ((md_tried w) 2) = (1 : Int32) then (f_X6_steps_tried_J97 w x2 x5) else (if (jrem x3 (2 : Int32)) = (1 : Int32) then (f_X6_steps_tried_J97 w x2 x5) else (f_X6_steps_tried_J120 w x2 x5))) else (f_X6_steps_tried_J120 w x2 x5)
def f_X6_steps_tried_J41 (w : Md) (x2 : Int32) (x3 : Int32) (x4 : Int32) (t0 : Int32) : Option (Int32 × Md) :=
  if t0 = 0 then (Option.bind (f_X6_bearsOn_tried w x2 x4) (fun q53 => if x4 ≤ q53 then (f_X6_steps_tried_J78 w x2 x3 t0) else (f_X6_steps_tried_J120 (md_set_tried w (upd (md_tried w) 3 (((md_tried w) 3) &&& ((jshl (1 : Int32) x2) ^^^ (-1 : Int32))))) x2 (1 : Int32)))) else (f_X6_steps_tried_J78 w x2 x3 t0)
def f_X6_steps_tried_J36 (w : Md) (x2 : Int32) (x3 : Int32) (x4 : Int32) : Option (Int32 × Md) :=
  f_X6_steps_tried_J41 w x2 x3 x4 (1 : Int32)
def f_X6_steps_tried (w : Md) : Option (Int32 × Md) :=
  Option.bind (f_X6_depth w ((md_tried w) 0)) (fun q10 => Option.bind (f_X6_has ((md_tried w) 3) ((md_tried w) 1)) (fun q19 => if q19 = 0 then (f_X6_steps_tried_J36 w ((md_tried w) 1) ((md_tried w) 0) q10) else (gd (inb ((md_tried w) 1) 8) (if q10 ≤ ((md_longs w) (ix ((md_tried w) 1))) then (f_X6_steps_tried_J41 w ((md_tried w) 1) ((md_tried w) 0) q10 (0 : Int32)) else (f_X6_steps_tried_J36 w ((md_tried w) 1) ((md_tried w) 0) q10)))))
set_option maxRecDepth 100000 in
set_option maxHeartbeats 1000000 in
theorem c_X6_steps_tried (l : Launch) (G : GG) (a : Nat → Nat) (o : Nat) (w : Md) (out : Int32 × Md) (hf : f_X6_steps_tried w = some out) : Cn l G 3 yX6_steps cX6_steps 6 (some .boolean) [.ref (a o), .ref (a (o + 16))] (bMd G a o w) (some (.int out.1)) (bMd G a o out.2) := by
  refine cn_start (by decide) (Nat.le_of_ble_eq_true rfl) ?_
  intro p e s m below meth c A ls C0 hW hl
  have hx := C0.1
  have hb := C0.2.1
  have hl : lv_has ls 6 [(0, .ref (a o)), (1, .ref (a (o + 16)))] := hl
  have J120 : ∀ (x2 : Int32) (x5 : Int32) (w : Md) (r : Int32 × Md), f_X6_steps_tried_J120 w x2 x5 = some r → (fun (r : Int32 × Md) => r = out) r → ∀ (H : Heap) (locs : List Loc) (ls : Array Slot), Wd G A s.heap H (bMd G a o w) locs → lv_has ls 6 [(0, .ref (a o)), (1, .ref (a (o + 16))), (2, .int x2), (5, .int x5)] → WW p l e 3 s m [.ref (a o), .ref (a (o + 16))] below meth c G A (some (.int out.1)) ((bMd G a o out.2)) H locs 120 ls [] := by
    intro x2 x5 w r hf hF H locs ls hW hl
    unfold f_X6_steps_tried_J120 at hf
    refine lv_aload_n hx hb dX6_steps_120 rfl (lv_at hl 1 rfl) ?_
    refine lv_iconst (v := 1) hx hb dX6_steps_121 (by decide) ?_
    refine lv_iload_n hx hb dX6_steps_122 rfl (lv_at hl 2 rfl) ?_
    refine lv_iconst (v := 1) hx hb dX6_steps_123 (by decide) ?_
    refine lv_iadd hx hb dX6_steps_124 ?_
    refine lv_aload_n hx hb dX6_steps_125 rfl (lv_at hl 0 rfl) ?_
    refine k_get C0 hW 6 18 0 (v := .int (md_n w)) rfl (by decide) inX6 mf_X6_142 rfl rfl dX6_steps_126 ?_
    have g129_4 := (gd_some hf).1; replace hf := (gd_some hf).2
    refine lv_irem hx hb dX6_steps_129 (of_decide_eq_true g129_4) ?_
    refine k_iast C0 hW 16 1 rfl (inb_in rfl) rfl dX6_steps_130 (fun H locs hW => ?_)
    have hW : Wd G A s.heap H (bMd G a o (md_set_tried w (upd (md_tried w) 1 (jrem (x2 + (1 : Int32)) (md_n w))))) locs := hW
    refine lv_aload_n hx hb dX6_steps_131 rfl (lv_at hl 1 rfl) ?_
    refine lv_iconst (v := 0) hx hb dX6_steps_132 (by decide) ?_
    refine lv_dup2_11 hx hb dX6_steps_133 rfl rfl ?_
    refine k_iald C0 hW 16 0 rfl (inb_in rfl) rfl dX6_steps_134 ?_
    refine lv_iconst (v := 1) hx hb dX6_steps_135 (by decide) ?_
    refine lv_iadd hx hb dX6_steps_136 ?_
    refine k_iast C0 hW 16 0 rfl (inb_in rfl) rfl dX6_steps_137 (fun H locs hW => ?_)
    have hW : Wd G A s.heap H (bMd G a o (md_set_tried w (upd (upd (md_tried w) 1 (jrem (x2 + (1 : Int32)) (md_n w))) 0 (((upd (md_tried w) 1 (jrem (x2 + (1 : Int32)) (md_n w))) 0) + (1 : Int32))))) locs := hW
    refine lv_iload hx hb dX6_steps_138 (lv_at hl 3 rfl) ?_
    have g140_5 := (gd_some hf).1; replace hf := (gd_some hf).2
    have e1 := Option.some.inj hf
    subst e1
    have hF : ((x5, (md_set_tried w (upd (upd (md_tried w) 1 (jrem (x2 + (1 : Int32)) (md_n w))) 0 (((upd (md_tried w) 1 (jrem (x2 + (1 : Int32)) (md_n w))) 0) + (1 : Int32))))) : Int32 × Md) = out := hF
    subst hF
    exact k_zret C0 hW g140_5 dX6_steps_140
  have J118 : ∀ (x2 : Int32) (x5 : Int32) (t1 : Int32) (t2 : Int32) (t3 : Int32) (w : Md) (r : Int32 × Md), f_X6_steps_tried_J118 w x2 x5 t1 t2 t3 = some r → (fun (r : Int32 × Md) => r = out) r → ∀ (H : Heap) (locs : List Loc) (ls : Array Slot), Wd G A s.heap H (bMd G a o w) locs → lv_has ls 6 [(0, .ref (a o)), (1, .ref (a (o + 16))), (2, .int x2), (5, .int x5)] → WW p l e 3 s m [.ref (a o), .ref (a (o + 16))] below meth c G A (some (.int out.1)) ((bMd G a o out.2)) H locs 118 ls [.int t3, .int t2, .int t1, .ref (a (o + 16))] := by
    intro x2 x5 t1 t2 t3 w r hf hF H locs ls hW hl
    unfold f_X6_steps_tried_J118 at hf
    refine lv_iadd hx hb dX6_steps_118 ?_
    have g119_10 := (gd_some hf).1; replace hf := (gd_some hf).2
    refine k_iast C0 hW 16 (ix t1) rfl (inb_in g119_10) rfl dX6_steps_119 (fun H locs hW => ?_)
    have hW : Wd G A s.heap H (bMd G a o (md_set_tried w (upd (md_tried w) (ix t1) (t2 + t3)))) locs := hW
    exact J120 _ _ _ _ hf hF _ _ _ hW (lv_sub hl [0, 1, 2, 3] rfl)
  have J97 : ∀ (x2 : Int32) (x5 : Int32) (w : Md) (r : Int32 × Md), f_X6_steps_tried_J97 w x2 x5 = some r → (fun (r : Int32 × Md) => r = out) r → ∀ (H : Heap) (locs : List Loc) (ls : Array Slot), Wd G A s.heap H (bMd G a o w) locs → lv_has ls 6 [(0, .ref (a o)), (1, .ref (a (o + 16))), (2, .int x2), (5, .int x5)] → WW p l e 3 s m [.ref (a o), .ref (a (o + 16))] below meth c G A (some (.int out.1)) ((bMd G a o out.2)) H locs 97 ls [] := by
    intro x2 x5 w r hf hF H locs ls hW hl
    unfold f_X6_steps_tried_J97 at hf
    refine lv_aload_n hx hb dX6_steps_97 rfl (lv_at hl 1 rfl) ?_
    refine lv_iconst (v := 4) hx hb dX6_steps_98 (by decide) ?_
    refine lv_iload_n hx hb dX6_steps_99 rfl (lv_at hl 2 rfl) ?_
    refine lv_iadd hx hb dX6_steps_100 ?_
    refine lv_dup2_11 hx hb dX6_steps_101 rfl rfl ?_
    have g102_7 := (gd_some hf).1; replace hf := (gd_some hf).2
    refine k_iald C0 hW 16 (ix ((4 : Int32) + x2)) rfl (inb_in g102_7) rfl dX6_steps_102 ?_
    refine lv_aload_n hx hb dX6_steps_103 rfl (lv_at hl 1 rfl) ?_
    refine lv_iconst (v := 4) hx hb dX6_steps_104 (by decide) ?_
    refine lv_iload_n hx hb dX6_steps_105 rfl (lv_at hl 2 rfl) ?_
    refine lv_iadd hx hb dX6_steps_106 ?_
    have g107_8 := (gd_some hf).1; replace hf := (gd_some hf).2
    refine k_iald C0 hW 16 (ix ((4 : Int32) + x2)) rfl (inb_in g107_8) rfl dX6_steps_107 ?_
    refine lv_bipush (v := 30) hx hb dX6_steps_108 (by decide) ?_
    refine lv_icmp_ge (tgt := 117) hx hb dX6_steps_110 (by decide) (fun c110_9 => ?_) (fun c110_9 => ?_)
    · replace hf := if_t c110_9 hf
      refine lv_iconst (v := 0) hx hb dX6_steps_117 (by decide) ?_
      exact J118 _ _ _ _ _ _ _ hf hF _ _ _ hW (lv_sub hl [0, 1, 2, 3] rfl)
    · replace hf := if_f c110_9 hf
      refine lv_iconst (v := 1) hx hb dX6_steps_113 (by decide) ?_
      refine lv_goto (tgt := 118) hx hb dX6_steps_114 (by decide) ?_
      exact J118 _ _ _ _ _ _ _ hf hF _ _ _ hW (lv_sub hl [0, 1, 2, 3] rfl)
  have J78 : ∀ (x2 : Int32) (x3 : Int32) (x5 : Int32) (w : Md) (r : Int32 × Md), f_X6_steps_tried_J78 w x2 x3 x5 = some r → (fun (r : Int32 × Md) => r = out) r → ∀ (H : Heap) (locs : List Loc) (ls : Array Slot), Wd G A s.heap H (bMd G a o w) locs → lv_has ls 6 [(0, .ref (a o)), (1, .ref (a (o + 16))), (2, .int x2), (3, .int x3), (5, .int x5)] → WW p l e 3 s m [.ref (a o), .ref (a (o + 16))] below meth c G A (some (.int out.1)) ((bMd G a o out.2)) H locs 78 ls [] := by
    intro x2 x3 x5 w r hf hF H locs ls hW hl
    unfold f_X6_steps_tried_J78 at hf
    refine lv_iload hx hb dX6_steps_78 (lv_at hl 4 rfl) ?_
    refine lv_if_ne (tgt := 120) hx hb dX6_steps_80 (by decide) (fun c80_3 => ?_) (fun c80_3 => ?_)
    · replace hf := if_f c80_3 hf
      exact J120 _ _ _ _ hf hF _ _ _ hW (lv_sub hl [0, 1, 2, 4] rfl)
    · replace hf := if_t c80_3 hf
      refine lv_aload_n hx hb dX6_steps_83 rfl (lv_at hl 1 rfl) ?_
      refine lv_iconst (v := 2) hx hb dX6_steps_84 (by decide) ?_
      refine k_iald C0 hW 16 2 rfl (inb_in rfl) rfl dX6_steps_85 ?_
      refine lv_iconst (v := 1) hx hb dX6_steps_86 (by decide) ?_
      refine lv_icmp_eq (tgt := 97) hx hb dX6_steps_87 (by decide) (fun c87_6 => ?_) (fun c87_6 => ?_)
      · replace hf := if_t c87_6 hf
        exact J97 _ _ _ _ hf hF _ _ _ hW (lv_sub hl [0, 1, 2, 4] rfl)
      · replace hf := if_f c87_6 hf
        refine lv_iload_n hx hb dX6_steps_90 rfl (lv_at hl 3 rfl) ?_
        refine lv_iconst (v := 2) hx hb dX6_steps_91 (by decide) ?_
        refine lv_irem hx hb dX6_steps_92 (by decide) ?_
        refine lv_iconst (v := 1) hx hb dX6_steps_93 (by decide) ?_
        refine lv_icmp_ne (tgt := 120) hx hb dX6_steps_94 (by decide) (fun c94_11 => ?_) (fun c94_11 => ?_)
        · replace hf := if_f c94_11 hf
          exact J120 _ _ _ _ hf hF _ _ _ hW (lv_sub hl [0, 1, 2, 4] rfl)
        · replace hf := if_t c94_11 hf
          exact J97 _ _ _ _ hf hF _ _ _ hW (lv_sub hl [0, 1, 2, 4] rfl)
  have J41 : ∀ (x2 : Int32) (x3 : Int32) (x4 : Int32) (t0 : Int32) (w : Md) (r : Int32 × Md), f_X6_steps_tried_J41 w x2 x3 x4 t0 = some r → (fun (r : Int32 × Md) => r = out) r → ∀ (H : Heap) (locs : List Loc) (ls : Array Slot), Wd G A s.heap H (bMd G a o w) locs → lv_has ls 6 [(0, .ref (a o)), (1, .ref (a (o + 16))), (2, .int x2), (3, .int x3), (4, .int x4)] → WW p l e 3 s m [.ref (a o), .ref (a (o + 16))] below meth c G A (some (.int out.1)) ((bMd G a o out.2)) H locs 41 ls [.int t0] := by
    intro x2 x3 x4 t0 w r hf hF H locs ls hW hl
    unfold f_X6_steps_tried_J41 at hf
    refine lv_istore (lv' := [(5, .int t0), (0, .ref (a o)), (1, .ref (a (o + 16))), (2, .int x2), (3, .int x3), (4, .int x4)]) hx hb dX6_steps_41 hl (by decide) rfl (fun ls hl => ?_)
    refine lv_iload hx hb dX6_steps_43 (lv_at hl 0 rfl) ?_
    refine lv_if_ne (tgt := 78) hx hb dX6_steps_45 (by decide) (fun c45_2 => ?_) (fun c45_2 => ?_)
    · replace hf := if_f c45_2 hf
      exact J78 _ _ _ _ _ hf hF _ _ _ hW (lv_sub hl [1, 2, 3, 4, 0] rfl)
    · replace hf := if_t c45_2 hf
      refine lv_aload_n hx hb dX6_steps_48 rfl (lv_at hl 1 rfl) ?_
      refine lv_aload_n hx hb dX6_steps_49 rfl (lv_at hl 2 rfl) ?_
      refine lv_iload_n hx hb dX6_steps_50 rfl (lv_at hl 3 rfl) ?_
      refine lv_iload hx hb dX6_steps_51 (lv_at hl 5 rfl) ?_
      obtain ⟨q53, hq53⟩ := ob_s hf
      replace hf := hq53.2
      replace hq53 := hq53.1
      refine cW1 (rest := []) (ws1 := (bMd G a o w)) (st1 := [.int q53]) C0 hW hl.1 (c_X6_bearsOn_tried l G a o w x2 x4 _ hq53) cb_X6_bearsOn mm_X6_165 fst_Md 0 6 rfl rfl rfl (by decide) rfl rfl (Nat.le_of_ble_eq_true rfl) ⟨Nat.zero_le _, Nat.zero_le _⟩ dX6_steps_53 rfl (fun H locs hW => ?_)
      refine lv_iload hx hb dX6_steps_56 (lv_at hl 5 rfl) ?_
      refine lv_icmp_ge (tgt := 78) hx hb dX6_steps_58 (by decide) (fun c58_12 => ?_) (fun c58_12 => ?_)
      · replace hf := if_t c58_12 hf
        exact J78 _ _ _ _ _ hf hF _ _ _ hW (lv_sub hl [1, 2, 3, 4, 0] rfl)
      · replace hf := if_f c58_12 hf
        refine lv_iconst (v := 1) hx hb dX6_steps_61 (by decide) ?_
        refine lv_istore (lv' := [(5, .int (1 : Int32)), (0, .ref (a o)), (1, .ref (a (o + 16))), (2, .int x2), (3, .int x3), (4, .int x4)]) hx hb dX6_steps_62 hl (by decide) rfl (fun ls hl => ?_)
        refine lv_aload_n hx hb dX6_steps_64 rfl (lv_at hl 2 rfl) ?_
        refine lv_iconst (v := 3) hx hb dX6_steps_65 (by decide) ?_
        refine lv_dup2_11 hx hb dX6_steps_66 rfl rfl ?_
        refine k_iald C0 hW 16 3 rfl (inb_in rfl) rfl dX6_steps_67 ?_
        refine lv_iconst (v := 1) hx hb dX6_steps_68 (by decide) ?_
        refine lv_iload_n hx hb dX6_steps_69 rfl (lv_at hl 3 rfl) ?_
        refine lv_ishl hx hb dX6_steps_70 ?_
        refine lv_iconst (v := -1) hx hb dX6_steps_71 (by decide) ?_
        refine lv_ixor hx hb dX6_steps_72 ?_
        refine lv_iand hx hb dX6_steps_73 ?_
        refine k_iast C0 hW 16 3 rfl (inb_in rfl) rfl dX6_steps_74 (fun H locs hW => ?_)
        have hW : Wd G A s.heap H (bMd G a o (md_set_tried w (upd (md_tried w) 3 (((md_tried w) 3) &&& ((jshl (1 : Int32) x2) ^^^ (-1 : Int32)))))) locs := hW
        refine lv_goto (tgt := 120) hx hb dX6_steps_75 (by decide) ?_
        exact J120 _ _ _ _ hf hF _ _ _ hW (lv_sub hl [1, 2, 3, 0] rfl)
  have J36 : ∀ (x2 : Int32) (x3 : Int32) (x4 : Int32) (w : Md) (r : Int32 × Md), f_X6_steps_tried_J36 w x2 x3 x4 = some r → (fun (r : Int32 × Md) => r = out) r → ∀ (H : Heap) (locs : List Loc) (ls : Array Slot), Wd G A s.heap H (bMd G a o w) locs → lv_has ls 6 [(0, .ref (a o)), (1, .ref (a (o + 16))), (2, .int x2), (3, .int x3), (4, .int x4)] → WW p l e 3 s m [.ref (a o), .ref (a (o + 16))] below meth c G A (some (.int out.1)) ((bMd G a o out.2)) H locs 36 ls [] := by
    intro x2 x3 x4 w r hf hF H locs ls hW hl
    unfold f_X6_steps_tried_J36 at hf
    refine lv_iconst (v := 1) hx hb dX6_steps_36 (by decide) ?_
    refine lv_goto (tgt := 41) hx hb dX6_steps_37 (by decide) ?_
    exact J41 _ _ _ _ _ _ hf hF _ _ _ hW (lv_sub hl [0, 1, 2, 3, 4] rfl)
  obtain ⟨r, hr⟩ : ∃ r, f_X6_steps_tried w = some r ∧ r = out := ⟨out, hf, rfl⟩
  replace hf := hr.1
  have hF := hr.2
  clear hr
  unfold f_X6_steps_tried at hf
  refine lv_aload_n hx hb dX6_steps_0 rfl (lv_at hl 1 rfl) ?_
  refine lv_iconst (v := 1) hx hb dX6_steps_1 (by decide) ?_
  refine k_iald C0 hW 16 1 rfl (inb_in rfl) rfl dX6_steps_2 ?_
  refine lv_istore_n (lv' := [(2, .int ((md_tried w) 1)), (0, .ref (a o)), (1, .ref (a (o + 16)))]) hx hb dX6_steps_3 rfl hl (by decide) rfl (fun ls hl => ?_)
  refine lv_aload_n hx hb dX6_steps_4 rfl (lv_at hl 2 rfl) ?_
  refine lv_iconst (v := 0) hx hb dX6_steps_5 (by decide) ?_
  refine k_iald C0 hW 16 0 rfl (inb_in rfl) rfl dX6_steps_6 ?_
  refine lv_istore_n (lv' := [(3, .int ((md_tried w) 0)), (2, .int ((md_tried w) 1)), (0, .ref (a o)), (1, .ref (a (o + 16)))]) hx hb dX6_steps_7 rfl hl (by decide) rfl (fun ls hl => ?_)
  refine lv_aload_n hx hb dX6_steps_8 rfl (lv_at hl 2 rfl) ?_
  refine lv_iload_n hx hb dX6_steps_9 rfl (lv_at hl 0 rfl) ?_
  obtain ⟨q10, hq10⟩ := ob_s hf
  replace hf := hq10.2
  replace hq10 := hq10.1
  refine cW1 (rest := []) (ws1 := (bMd G a o w)) (st1 := [.int q10]) C0 hW hl.1 (c_X6_depth l G a o w ((md_tried w) 0) _ hq10) cb_X6_depth mm_X6_162 fst_Md 0 6 rfl rfl rfl (by decide) rfl rfl (Nat.le_of_ble_eq_true rfl) ⟨Nat.zero_le _, Nat.zero_le _⟩ dX6_steps_10 rfl (fun H locs hW => ?_)
  refine lv_istore (lv' := [(4, .int q10), (3, .int ((md_tried w) 0)), (2, .int ((md_tried w) 1)), (0, .ref (a o)), (1, .ref (a (o + 16)))]) hx hb dX6_steps_13 hl (by decide) rfl (fun ls hl => ?_)
  refine lv_aload_n hx hb dX6_steps_15 rfl (lv_at hl 4 rfl) ?_
  refine lv_iconst (v := 3) hx hb dX6_steps_16 (by decide) ?_
  refine k_iald C0 hW 16 3 rfl (inb_in rfl) rfl dX6_steps_17 ?_
  refine lv_iload_n hx hb dX6_steps_18 rfl (lv_at hl 2 rfl) ?_
  obtain ⟨q19, hq19⟩ := ob_s hf
  replace hf := hq19.2
  replace hq19 := hq19.1
  refine cS0 (rest := []) (st1 := [.int q19]) C0 hW hl.1 (c_X6_has l G ((md_tried w) 3) ((md_tried w) 1) _ hq19) cb_X6_has mm_X6_158 [] rfl rfl (by decide) rfl rfl (Nat.le_of_ble_eq_true rfl) ⟨Nat.zero_le _, Nat.zero_le _⟩ dX6_steps_19 rfl (fun H locs hW => ?_)
  refine lv_if_eq (tgt := 36) hx hb dX6_steps_22 (by decide) (fun c22_1 => ?_) (fun c22_1 => ?_)
  · replace hf := if_t c22_1 hf
    exact J36 _ _ _ _ _ hf hF _ _ _ hW (lv_sub hl [3, 4, 2, 1, 0] rfl)
  · replace hf := if_f c22_1 hf
    refine lv_aload_n hx hb dX6_steps_25 rfl (lv_at hl 3 rfl) ?_
    refine k_get C0 hW 6 22 0 (v := .ref (a (o + 13))) rfl (by decide) inX6 mf_X6_51 rfl rfl dX6_steps_26 ?_
    refine lv_iload_n hx hb dX6_steps_29 rfl (lv_at hl 2 rfl) ?_
    have g30_13 := (gd_some hf).1; replace hf := (gd_some hf).2
    refine k_iald C0 hW 13 (ix ((md_tried w) 1)) rfl (inb_in g30_13) rfl dX6_steps_30 ?_
    refine lv_iload hx hb dX6_steps_31 (lv_at hl 0 rfl) ?_
    refine lv_icmp_ge (tgt := 40) hx hb dX6_steps_33 (by decide) (fun c33_14 => ?_) (fun c33_14 => ?_)
    · replace hf := if_t c33_14 hf
      refine lv_iconst (v := 0) hx hb dX6_steps_40 (by decide) ?_
      exact J41 _ _ _ _ _ _ hf hF _ _ _ hW (lv_sub hl [3, 4, 2, 1, 0] rfl)
    · replace hf := if_f c33_14 hf
      exact J36 _ _ _ _ _ hf hF _ _ _ hW (lv_sub hl [3, 4, 2, 1, 0] rfl)

def f_X6_limpsIn_J55 (w : Md) (x1 : Int32) (x2 : Int32) (x4 : Int32) (t0 : Int32) (t1 : Int32) : Option ((Int32 × Int32 × Md) ⊕ (Int32 × Md)) :=
  some (Sum.inl ((t0 + t1), (x4 + (1 : Int32)), w))
def f_X6_limpsIn_B5 (x1 : Int32) (x2 : Int32) (x3 : Int32) (x4 : Int32) (w : Md) : Option ((Int32 × Int32 × Md) ⊕ (Int32 × Md)) :=
  if x1 ≤ x4 then (Option.map Sum.inr (some (x3, w))) else (Option.bind (f_X6_isOver_tried w) (fun q16 => if q16 = 0 then (Option.bind (f_X6_steps_tried w) (fun q44 => if q44.1 = 0 then (f_X6_limpsIn_J55 q44.2 x1 x2 x4 x3 (0 : Int32)) else (f_X6_limpsIn_J55 q44.2 x1 x2 x4 x3 (1 : Int32)))) else (if x2 = 0 then (f_X6_limpsIn_J55 w x1 x2 x4 x3 (0 : Int32)) else (f_X6_limpsIn_J55 w x1 x2 x4 x3 (1 : Int32)))))
def f_X6_limpsIn_L5 (x1 : Int32) (x2 : Int32) (sg : Int32 × Int32 × Md) : Option ((Int32 × Int32 × Md) ⊕ (Int32 × Md)) := f_X6_limpsIn_B5 x1 x2 sg.1 sg.2.1 sg.2.2
def f_X6_limpsIn (w : Md) (x1 : Int32) (x2 : Int32) : Option (Int32 × Md) :=
  lp (f_X6_limpsIn_L5 x1 x2) fuel ((0 : Int32), (0 : Int32), w)
set_option maxRecDepth 100000 in
set_option maxHeartbeats 1000000 in
theorem c_X6_limpsIn (l : Launch) (G : GG) (a : Nat → Nat) (o : Nat) (w : Md) (x1 : Int32) (x2 : Int32) (out : Int32 × Md) (hf : f_X6_limpsIn w x1 x2 = some out) : Cn l G 4 yX6_limpsIn cX6_limpsIn 6 (some .int) [.ref (a o), .int x1, .int x2] (bMd G a o w) (some (.int out.1)) (bMd G a o out.2) := by
  refine cn_start (by decide) (Nat.le_of_ble_eq_true rfl) ?_
  intro p e s m below meth c A ls C0 hW hl
  have hx := C0.1
  have hb := C0.2.1
  have hl : lv_has ls 6 [(0, .ref (a o)), (1, .int x1), (2, .int x2)] := hl
  have L5 : ∀ (k8 : Nat) (sg : Int32 × Int32 × Md) (o9 : Int32 × Md), lp (f_X6_limpsIn_L5 x1 x2) k8 sg = some o9 → (fun (r : Int32 × Md) => r = out) o9 → (fun (sg : Int32 × Int32 × Md) => ∀ (H : Heap) (locs : List Loc) (ls : Array Slot), Wd G A s.heap H (bMd G a o sg.2.2) locs → lv_has ls 6 [(0, .ref (a o)), (1, .int x1), (2, .int x2), (3, .int sg.1), (4, .int sg.2.1)] → WW p l e 4 s m [.ref (a o), .int x1, .int x2] below meth c G A (some (.int out.1)) ((bMd G a o out.2)) H locs 5 ls []) sg := by
    have J55 : ∀ (x4 : Int32) (t0 : Int32) (t1 : Int32) (w : Md) (r : (Int32 × Int32 × Md) ⊕ (Int32 × Md)), f_X6_limpsIn_J55 w x1 x2 x4 t0 t1 = some r → (Sum.elim (fun (sg : Int32 × Int32 × Md) => ∀ (H : Heap) (locs : List Loc) (ls : Array Slot), Wd G A s.heap H (bMd G a o sg.2.2) locs → lv_has ls 6 [(0, .ref (a o)), (1, .int x1), (2, .int x2), (3, .int sg.1), (4, .int sg.2.1)] → WW p l e 4 s m [.ref (a o), .int x1, .int x2] below meth c G A (some (.int out.1)) ((bMd G a o out.2)) H locs 5 ls []) (fun (r : Int32 × Md) => r = out)) r → ∀ (H : Heap) (locs : List Loc) (ls : Array Slot), Wd G A s.heap H (bMd G a o w) locs → lv_has ls 6 [(0, .ref (a o)), (1, .int x1), (2, .int x2), (4, .int x4)] → WW p l e 4 s m [.ref (a o), .int x1, .int x2] below meth c G A (some (.int out.1)) ((bMd G a o out.2)) H locs 55 ls [.int t1, .int t0] := by
      intro x4 t0 t1 w r hf hF H locs ls hW hl
      unfold f_X6_limpsIn_J55 at hf
      refine lv_iadd hx hb dX6_limpsIn_55 ?_
      refine lv_istore_n (lv' := [(3, .int (t0 + t1)), (0, .ref (a o)), (1, .int x1), (2, .int x2), (4, .int x4)]) hx hb dX6_limpsIn_56 rfl hl (by decide) rfl (fun ls hl => ?_)
      refine lv_iinc (v := (x4 + (1 : Int32))) (lv' := [(4, .int (x4 + (1 : Int32))), (3, .int (t0 + t1)), (0, .ref (a o)), (1, .int x1), (2, .int x2)]) hx hb dX6_limpsIn_57 hl (k := 4) rfl rfl (by decide) rfl (fun ls hl => ?_)
      refine lv_goto (tgt := 5) hx hb dX6_limpsIn_60 (by decide) ?_
      have e1 := Option.some.inj hf
      subst e1
      exact (elim_l hF) _ _ _ hW (lv_sub hl [2, 3, 4, 1, 0] rfl)
    have B5 : ∀ (x3 : Int32) (x4 : Int32) (w : Md) (r : (Int32 × Int32 × Md) ⊕ (Int32 × Md)), f_X6_limpsIn_B5 x1 x2 x3 x4 w = some r → (Sum.elim (fun (sg : Int32 × Int32 × Md) => ∀ (H : Heap) (locs : List Loc) (ls : Array Slot), Wd G A s.heap H (bMd G a o sg.2.2) locs → lv_has ls 6 [(0, .ref (a o)), (1, .int x1), (2, .int x2), (3, .int sg.1), (4, .int sg.2.1)] → WW p l e 4 s m [.ref (a o), .int x1, .int x2] below meth c G A (some (.int out.1)) ((bMd G a o out.2)) H locs 5 ls []) (fun (r : Int32 × Md) => r = out)) r → ∀ (H : Heap) (locs : List Loc) (ls : Array Slot), Wd G A s.heap H (bMd G a o w) locs → lv_has ls 6 [(0, .ref (a o)), (1, .int x1), (2, .int x2), (3, .int x3), (4, .int x4)] → WW p l e 4 s m [.ref (a o), .int x1, .int x2] below meth c G A (some (.int out.1)) ((bMd G a o out.2)) H locs 5 ls [] := by
      intro x3 x4 w r hf hF H locs ls hW hl
      unfold f_X6_limpsIn_B5 at hf
      refine lv_iload hx hb dX6_limpsIn_5 (lv_at hl 4 rfl) ?_
      refine lv_iload_n hx hb dX6_limpsIn_7 rfl (lv_at hl 1 rfl) ?_
      refine lv_icmp_ge (tgt := 63) hx hb dX6_limpsIn_8 (by decide) (fun c8_1 => ?_) (fun c8_1 => ?_)
      · replace hf := if_t c8_1 hf
        obtain ⟨r2, e2⟩ := om_s hf
        replace hf := e2.1
        replace e2 := e2.2
        subst e2
        replace hF := elim_r hF
        refine lv_iload_n hx hb dX6_limpsIn_63 rfl (lv_at hl 3 rfl) ?_
        have e1 := Option.some.inj hf
        subst e1
        have hF : ((x3, w) : Int32 × Md) = out := hF
        subst hF
        exact k_iret C0 hW dX6_limpsIn_64
      · replace hf := if_f c8_1 hf
        refine lv_aload_n hx hb dX6_limpsIn_11 rfl (lv_at hl 0 rfl) ?_
        refine lv_aload_n hx hb dX6_limpsIn_12 rfl (lv_at hl 0 rfl) ?_
        refine k_get C0 hW 6 25 0 (v := .ref (a (o + 16))) rfl (by decide) inX6 mf_X6_60 rfl rfl dX6_limpsIn_13 ?_
        obtain ⟨q16, hq16⟩ := ob_s hf
        replace hf := hq16.2
        replace hq16 := hq16.1
        refine cW1 (rest := []) (ws1 := (bMd G a o w)) (st1 := [.int q16]) C0 hW hl.1 (c_X6_isOver_tried l G a o w _ hq16) cb_X6_isOver mm_X6_181 fst_Md 0 6 rfl rfl rfl (by decide) rfl rfl (Nat.le_of_ble_eq_true rfl) ⟨Nat.zero_le _, Nat.zero_le _⟩ dX6_limpsIn_16 rfl (fun H locs hW => ?_)
        refine lv_istore (lv' := [(5, .int q16), (0, .ref (a o)), (1, .int x1), (2, .int x2), (3, .int x3), (4, .int x4)]) hx hb dX6_limpsIn_19 hl (by decide) rfl (fun ls hl => ?_)
        refine lv_iload_n hx hb dX6_limpsIn_21 rfl (lv_at hl 4 rfl) ?_
        refine lv_iload hx hb dX6_limpsIn_22 (lv_at hl 0 rfl) ?_
        refine lv_if_eq (tgt := 39) hx hb dX6_limpsIn_24 (by decide) (fun c24_2 => ?_) (fun c24_2 => ?_)
        · replace hf := if_t c24_2 hf
          refine lv_aload_n hx hb dX6_limpsIn_39 rfl (lv_at hl 1 rfl) ?_
          refine lv_aload_n hx hb dX6_limpsIn_40 rfl (lv_at hl 1 rfl) ?_
          refine k_get C0 hW 6 25 0 (v := .ref (a (o + 16))) rfl (by decide) inX6 mf_X6_60 rfl rfl dX6_limpsIn_41 ?_
          obtain ⟨q44, hq44⟩ := ob_s hf
          replace hf := hq44.2
          replace hq44 := hq44.1
          refine cW1 (rest := [.int x3]) (ws1 := (bMd G a o q44.2)) (st1 := [.int q44.1, .int x3]) C0 hW hl.1 (c_X6_steps_tried l G a o w _ hq44) cb_X6_steps mm_X6_188 fst_Md 0 6 rfl rfl rfl (by decide) rfl rfl (Nat.le_of_ble_eq_true rfl) ⟨Nat.zero_le _, Nat.zero_le _⟩ dX6_limpsIn_44 rfl (fun H locs hW => ?_)
          refine lv_if_eq (tgt := 54) hx hb dX6_limpsIn_47 (by decide) (fun c47_3 => ?_) (fun c47_3 => ?_)
          · replace hf := if_t c47_3 hf
            refine lv_iconst (v := 0) hx hb dX6_limpsIn_54 (by decide) ?_
            exact J55 _ _ _ _ _ hf hF _ _ _ hW (lv_sub hl [1, 2, 3, 5] rfl)
          · replace hf := if_f c47_3 hf
            refine lv_iconst (v := 1) hx hb dX6_limpsIn_50 (by decide) ?_
            refine lv_goto (tgt := 55) hx hb dX6_limpsIn_51 (by decide) ?_
            exact J55 _ _ _ _ _ hf hF _ _ _ hW (lv_sub hl [1, 2, 3, 5] rfl)
        · replace hf := if_f c24_2 hf
          refine lv_iload_n hx hb dX6_limpsIn_27 rfl (lv_at hl 3 rfl) ?_
          refine lv_if_eq (tgt := 35) hx hb dX6_limpsIn_28 (by decide) (fun c28_4 => ?_) (fun c28_4 => ?_)
          · replace hf := if_t c28_4 hf
            refine lv_iconst (v := 0) hx hb dX6_limpsIn_35 (by decide) ?_
            refine lv_goto (tgt := 55) hx hb dX6_limpsIn_36 (by decide) ?_
            exact J55 _ _ _ _ _ hf hF _ _ _ hW (lv_sub hl [1, 2, 3, 5] rfl)
          · replace hf := if_f c28_4 hf
            refine lv_iconst (v := 1) hx hb dX6_limpsIn_31 (by decide) ?_
            refine lv_goto (tgt := 55) hx hb dX6_limpsIn_32 (by decide) ?_
            exact J55 _ _ _ _ _ hf hF _ _ _ hW (lv_sub hl [1, 2, 3, 5] rfl)
    exact lp_sound (fun sg r hb hz => B5 sg.1 sg.2.1 sg.2.2 r hb hz)
  obtain ⟨r, hr⟩ : ∃ r, f_X6_limpsIn w x1 x2 = some r ∧ r = out := ⟨out, hf, rfl⟩
  replace hf := hr.1
  have hF := hr.2
  clear hr
  unfold f_X6_limpsIn at hf
  refine lv_iconst (v := 0) hx hb dX6_limpsIn_0 (by decide) ?_
  refine lv_istore_n (lv' := [(3, .int (0 : Int32)), (0, .ref (a o)), (1, .int x1), (2, .int x2)]) hx hb dX6_limpsIn_1 rfl hl (by decide) rfl (fun ls hl => ?_)
  refine lv_iconst (v := 0) hx hb dX6_limpsIn_2 (by decide) ?_
  refine lv_istore (lv' := [(4, .int (0 : Int32)), (3, .int (0 : Int32)), (0, .ref (a o)), (1, .int x1), (2, .int x2)]) hx hb dX6_limpsIn_3 hl (by decide) rfl (fun ls hl => ?_)
  exact L5  fuel ((0 : Int32), (0 : Int32), w) _ hf hF _ _ _ hW (lv_sub hl [2, 3, 4, 1, 0] rfl)

def f_X6_swap (k : Nat) (f : Ar) (x1 : Int32) (x2 : Int32) : Option (Ar) :=
  gd (inb x1 k) (gd (inb x2 k) (gd (inb x1 k) (gd (inb x2 k) (some (upd (upd f (ix x1) (f (ix x2))) (ix x2) (f (ix x1)))))))
set_option maxRecDepth 100000 in
set_option maxHeartbeats 1000000 in
theorem c_X6_swap (l : Launch) (G : GG) (aa : Nat) (k : Nat) (f : Ar) (x1 : Int32) (x2 : Int32) (out : Ar) (hf : f_X6_swap k f x1 x2 = some out) : Cn l G 0 yX6_swap cX6_swap 4 (none) [.ref (aa), .int x1, .int x2] ([(aa, eI G k f)]) (none) ([(aa, eI G k out)]) := by
  refine cn_start (by decide) (Nat.le_of_ble_eq_true rfl) ?_
  intro p e s m below meth c A ls C0 hW hl
  have hx := C0.1
  have hb := C0.2.1
  have hl : lv_has ls 4 [(0, .ref (aa)), (1, .int x1), (2, .int x2)] := hl
  obtain ⟨r, hr⟩ : ∃ r, f_X6_swap k f x1 x2 = some r ∧ r = out := ⟨out, hf, rfl⟩
  replace hf := hr.1
  have hF := hr.2
  clear hr
  unfold f_X6_swap at hf
  refine lv_aload_n hx hb dX6_swap_0 rfl (lv_at hl 0 rfl) ?_
  refine lv_iload_n hx hb dX6_swap_1 rfl (lv_at hl 1 rfl) ?_
  have g2_1 := (gd_some hf).1; replace hf := (gd_some hf).2
  refine k_iald C0 hW 0 (ix x1) rfl (inb_in g2_1) rfl dX6_swap_2 ?_
  refine lv_istore_n (lv' := [(3, .int (f (ix x1))), (0, .ref (aa)), (1, .int x1), (2, .int x2)]) hx hb dX6_swap_3 rfl hl (by decide) rfl (fun ls hl => ?_)
  refine lv_aload_n hx hb dX6_swap_4 rfl (lv_at hl 1 rfl) ?_
  refine lv_iload_n hx hb dX6_swap_5 rfl (lv_at hl 2 rfl) ?_
  refine lv_aload_n hx hb dX6_swap_6 rfl (lv_at hl 1 rfl) ?_
  refine lv_iload_n hx hb dX6_swap_7 rfl (lv_at hl 3 rfl) ?_
  have g8_2 := (gd_some hf).1; replace hf := (gd_some hf).2
  refine k_iald C0 hW 0 (ix x2) rfl (inb_in g8_2) rfl dX6_swap_8 ?_
  have g9_3 := (gd_some hf).1; replace hf := (gd_some hf).2
  refine k_iast C0 hW 0 (ix x1) rfl (inb_in g9_3) rfl dX6_swap_9 (fun H locs hW => ?_)
  have hW : Wd G A s.heap H ([(aa, eI G k (upd f (ix x1) (f (ix x2))))]) locs := hW
  refine lv_aload_n hx hb dX6_swap_10 rfl (lv_at hl 1 rfl) ?_
  refine lv_iload_n hx hb dX6_swap_11 rfl (lv_at hl 3 rfl) ?_
  refine lv_iload_n hx hb dX6_swap_12 rfl (lv_at hl 0 rfl) ?_
  have g13_4 := (gd_some hf).1; replace hf := (gd_some hf).2
  refine k_iast C0 hW 0 (ix x2) rfl (inb_in g13_4) rfl dX6_swap_13 (fun H locs hW => ?_)
  have hW : Wd G A s.heap H ([(aa, eI G k (upd (upd f (ix x1) (f (ix x2))) (ix x2) (f (ix x1))))]) locs := hW
  have e1 := Option.some.inj hf
  subst e1
  have hF : ((upd (upd f (ix x1) (f (ix x2))) (ix x2) (f (ix x1))) : Ar) = out := hF
  subst hF
  exact k_vret C0 hW dX6_swap_14

def f_X6_changes (w : Md) (x1 : Int32) (x2 : Int32) : Option (Md) :=
  Option.bind (f_X6_swap 8 (md_kinds w) x1 x2) (fun q6 => Option.bind (f_X6_swap 8 (md_longs w) x1 x2) (fun q15 => Option.bind (f_X6_swap 8 (md_strongs w) x1 x2) (fun q24 => some (md_set_strongs (md_set_longs (md_set_kinds w q6) q15) q24))))
set_option maxRecDepth 100000 in
set_option maxHeartbeats 1000000 in
theorem c_X6_changes (l : Launch) (G : GG) (a : Nat → Nat) (o : Nat) (w : Md) (x1 : Int32) (x2 : Int32) (out : Md) (hf : f_X6_changes w x1 x2 = some out) : Cn l G 1 yX6_changes cX6_changes 3 (none) [.ref (a o), .int x1, .int x2] (bMd G a o w) (none) (bMd G a o out) := by
  refine cn_start (by decide) (Nat.le_of_ble_eq_true rfl) ?_
  intro p e s m below meth c A ls C0 hW hl
  have hx := C0.1
  have hb := C0.2.1
  have hl : lv_has ls 3 [(0, .ref (a o)), (1, .int x1), (2, .int x2)] := hl
  obtain ⟨r, hr⟩ : ∃ r, f_X6_changes w x1 x2 = some r ∧ r = out := ⟨out, hf, rfl⟩
  replace hf := hr.1
  have hF := hr.2
  clear hr
  unfold f_X6_changes at hf
  refine lv_aload_n hx hb dX6_changes_0 rfl (lv_at hl 0 rfl) ?_
  refine k_get C0 hW 6 21 0 (v := .ref (a (o + 12))) rfl (by decide) inX6 mf_X6_48 rfl rfl dX6_changes_1 ?_
  refine lv_iload_n hx hb dX6_changes_4 rfl (lv_at hl 1 rfl) ?_
  refine lv_iload_n hx hb dX6_changes_5 rfl (lv_at hl 2 rfl) ?_
  obtain ⟨q6, hq6⟩ := ob_s hf
  replace hf := hq6.2
  replace hq6 := hq6.1
  refine cS1 (rest := []) (ws1 := (bMd G a o (md_set_kinds w q6))) (st1 := []) C0 hW hl.1 (c_X6_swap l G (a (o + 12)) 8 (md_kinds w) x1 x2 _ hq6) cb_X6_swap mm_X6_224 [12] rfl rfl rfl (by decide) rfl rfl (Nat.le_of_ble_eq_true rfl) ⟨Nat.zero_le _, Nat.zero_le _⟩ dX6_changes_6 rfl rfl (fun H locs hW => ?_)
  refine lv_aload_n hx hb dX6_changes_9 rfl (lv_at hl 0 rfl) ?_
  refine k_get C0 hW 6 22 0 (v := .ref (a (o + 13))) rfl (by decide) inX6 mf_X6_51 rfl rfl dX6_changes_10 ?_
  refine lv_iload_n hx hb dX6_changes_13 rfl (lv_at hl 1 rfl) ?_
  refine lv_iload_n hx hb dX6_changes_14 rfl (lv_at hl 2 rfl) ?_
  obtain ⟨q15, hq15⟩ := ob_s hf
  replace hf := hq15.2
  replace hq15 := hq15.1
  refine cS1 (rest := []) (ws1 := (bMd G a o (md_set_longs (md_set_kinds w q6) q15))) (st1 := []) C0 hW hl.1 (c_X6_swap l G (a (o + 13)) 8 (md_longs w) x1 x2 _ hq15) cb_X6_swap mm_X6_224 [13] rfl rfl rfl (by decide) rfl rfl (Nat.le_of_ble_eq_true rfl) ⟨Nat.zero_le _, Nat.zero_le _⟩ dX6_changes_15 rfl rfl (fun H locs hW => ?_)
  refine lv_aload_n hx hb dX6_changes_18 rfl (lv_at hl 0 rfl) ?_
  refine k_get C0 hW 6 23 0 (v := .ref (a (o + 14))) rfl (by decide) inX6 mf_X6_54 rfl rfl dX6_changes_19 ?_
  refine lv_iload_n hx hb dX6_changes_22 rfl (lv_at hl 1 rfl) ?_
  refine lv_iload_n hx hb dX6_changes_23 rfl (lv_at hl 2 rfl) ?_
  obtain ⟨q24, hq24⟩ := ob_s hf
  replace hf := hq24.2
  replace hq24 := hq24.1
  refine cS1 (rest := []) (ws1 := (bMd G a o (md_set_strongs (md_set_longs (md_set_kinds w q6) q15) q24))) (st1 := []) C0 hW hl.1 (c_X6_swap l G (a (o + 14)) 8 (md_strongs w) x1 x2 _ hq24) cb_X6_swap mm_X6_224 [14] rfl rfl rfl (by decide) rfl rfl (Nat.le_of_ble_eq_true rfl) ⟨Nat.zero_le _, Nat.zero_le _⟩ dX6_changes_24 rfl rfl (fun H locs hW => ?_)
  have e1 := Option.some.inj hf
  subst e1
  have hF : ((md_set_strongs (md_set_longs (md_set_kinds w q6) q15) q24) : Md) = out := hF
  subst hF
  exact k_vret C0 hW dX6_changes_27

def f_X6_change_J194 (w : Md) (x1 : Int32) (x2 : Int32) : Option (Int32 × Md) :=
  if x2 = (-9 : Int32) then (some ((-9 : Int32), w)) else (Option.bind (f_X6_tells w x1 x2) (fun q208 => some (q208.1, q208.2)))
def f_X6_change_J188 (w : Md) (x1 : Int32) (x2 : Int32) (x3 : Int32) : Option ((Int32 × Int32 × Int32 × Md) ⊕ (Int32 × Md)) :=
  some (Sum.inl (x1, x2, (x3 + (1 : Int32)), w))
def f_X6_change_J181 (w : Md) (x2 : Int32) (x3 : Int32) (x4 : Int32) (t0 : Int32) : Option ((Int32 × Int32 × Int32 × Md) ⊕ ((Int32 × Int32 × Int32 × Md) ⊕ (Int32 × Md))) :=
  some (Sum.inl (t0, x2, (x4 + (1 : Int32)), w))
def f_X6_change_J168 (w : Md) (x1 : Int32) (x3 : Int32) (x4 : Int32) (x7 : Int32) (t0 : Int32) : Option ((Int32 × Int32 × Int32 × Md) ⊕ ((Int32 × Int32 × Int32 × Md) ⊕ (Int32 × Md))) :=
  if x1 ≤ x7 then (f_X6_change_J181 w t0 x3 x4 x1) else (f_X6_change_J181 w t0 x3 x4 x7)
def f_X6_change_B40 (x3 : Int32) (x1 : Int32) (x2 : Int32) (x4 : Int32) (w : Md) : Option ((Int32 × Int32 × Int32 × Md) ⊕ ((Int32 × Int32 × Int32 × Md) ⊕ (Int32 × Md))) :=
  if (md_n w) ≤ x4 then (Option.map Sum.inr (f_X6_change_J188 w x1 x2 x3)) else (Option.bind (f_X6_copyNow w) (fun q50 => Option.bind (f_X6_swap 12 (md_tried q50) ((4 : Int32) + x3) ((4 : Int32) + x4)) (fun q64 => nm ((jshr (q64 3) x3) &&& (1 : Int32)) (fun v77 => nm ((jshr (q64 3) x4) &&& (1 : Int32)) (fun v90 => Option.bind (f_X6_changes (md_set_tried q50 (upd q64 3 (((((q64 3) &&& ((jshl (1 : Int32) x3) ^^^ (-1 : Int32))) &&& ((jshl (1 : Int32) x4) ^^^ (-1 : Int32))) ||| (jshl v90 x3)) ||| (jshl v77 x4)))) x3 x4) (fun q132 => Option.bind (f_X6_limpsIn q132 (20 : Int32) (1 : Int32)) (fun q139 => Option.bind (f_X6_changes q139.2 x3 x4) (fun q148 => if x1 ≤ q139.1 then (f_X6_change_J168 q148 x1 x3 x4 q139.1 x2) else (f_X6_change_J168 q148 x1 x3 x4 q139.1 (((10 : Int32) * x3) + x4))))))))))
def f_X6_change_L40 (x3 : Int32) (sg : Int32 × Int32 × Int32 × Md) : Option ((Int32 × Int32 × Int32 × Md) ⊕ ((Int32 × Int32 × Int32 × Md) ⊕ (Int32 × Md))) := f_X6_change_B40 x3 sg.1 sg.2.1 sg.2.2.1 sg.2.2.2
def f_X6_change_B27 (x1 : Int32) (x2 : Int32) (x3 : Int32) (w : Md) : Option ((Int32 × Int32 × Int32 × Md) ⊕ (Int32 × Md)) :=
  if (md_n w) ≤ x3 then (Option.map Sum.inr (f_X6_change_J194 w x1 x2)) else (lp (f_X6_change_L40 x3) fuel (x1, x2, (x3 + (1 : Int32)), w))
def f_X6_change_L27 (sg : Int32 × Int32 × Int32 × Md) : Option ((Int32 × Int32 × Int32 × Md) ⊕ (Int32 × Md)) := f_X6_change_B27 sg.1 sg.2.1 sg.2.2.1 sg.2.2.2
def f_X6_change (w : Md) : Option (Int32 × Md) :=
  if (md_n w) = 0 then (some ((-4 : Int32), w)) else (Option.bind (f_X6_copyNow w) (fun q11 => Option.bind (f_X6_limpsIn q11 (20 : Int32) (1 : Int32)) (fun q18 => lp (f_X6_change_L27) fuel (q18.1, (-9 : Int32), (0 : Int32), q18.2))))
set_option maxRecDepth 100000 in
set_option maxHeartbeats 1000000 in
theorem c_X6_change (l : Launch) (G : GG) (a : Nat → Nat) (o : Nat) (w : Md) (out : Int32 × Md) (hf : f_X6_change w = some out) : Cn l G 5 yX6_change cX6_change 8 (some .int) [.ref (a o)] (bMd G a o w) (some (.int out.1)) (bMd G a o out.2) := by
  refine cn_start (by decide) (Nat.le_of_ble_eq_true rfl) ?_
  intro p e s m below meth c A ls C0 hW hl
  have hx := C0.1
  have hb := C0.2.1
  have hl : lv_has ls 8 [(0, .ref (a o))] := hl
  have J194 : ∀ (x1 : Int32) (x2 : Int32) (w : Md) (r : Int32 × Md), f_X6_change_J194 w x1 x2 = some r → (fun (r : Int32 × Md) => r = out) r → ∀ (H : Heap) (locs : List Loc) (ls : Array Slot), Wd G A s.heap H (bMd G a o w) locs → lv_has ls 8 [(0, .ref (a o)), (1, .int x1), (2, .int x2)] → WW p l e 5 s m [.ref (a o)] below meth c G A (some (.int out.1)) ((bMd G a o out.2)) H locs 194 ls [] := by
    intro x1 x2 w r hf hF H locs ls hW hl
    unfold f_X6_change_J194 at hf
    refine lv_iload_n hx hb dX6_change_194 rfl (lv_at hl 2 rfl) ?_
    refine lv_bipush (v := -9) hx hb dX6_change_195 (by decide) ?_
    refine lv_icmp_ne (tgt := 205) hx hb dX6_change_197 (by decide) (fun c197_3 => ?_) (fun c197_3 => ?_)
    · replace hf := if_f c197_3 hf
      refine lv_aload_n hx hb dX6_change_205 rfl (lv_at hl 0 rfl) ?_
      refine lv_iload_n hx hb dX6_change_206 rfl (lv_at hl 1 rfl) ?_
      refine lv_iload_n hx hb dX6_change_207 rfl (lv_at hl 2 rfl) ?_
      obtain ⟨q208, hq208⟩ := ob_s hf
      replace hf := hq208.2
      replace hq208 := hq208.1
      refine cW1 (rest := []) (ws1 := (bMd G a o q208.2)) (st1 := [.int q208.1]) C0 hW hl.1 (c_X6_tells l G a o w x1 x2 _ hq208) cb_X6_tells mm_X6_105 fst_Md 0 6 rfl rfl rfl (by decide) rfl rfl (Nat.le_of_ble_eq_true rfl) ⟨Nat.zero_le _, Nat.zero_le _⟩ dX6_change_208 rfl (fun H locs hW => ?_)
      have e1 := Option.some.inj hf
      subst e1
      have hF : ((q208.1, q208.2) : Int32 × Md) = out := hF
      subst hF
      exact k_iret C0 hW dX6_change_211
    · replace hf := if_t c197_3 hf
      refine lv_bipush (v := -9) hx hb dX6_change_200 (by decide) ?_
      refine lv_goto (tgt := 211) hx hb dX6_change_202 (by decide) ?_
      have e1 := Option.some.inj hf
      subst e1
      have hF : (((-9 : Int32), w) : Int32 × Md) = out := hF
      subst hF
      exact k_iret C0 hW dX6_change_211
  have L27 : ∀ (k8 : Nat) (sg : Int32 × Int32 × Int32 × Md) (o9 : Int32 × Md), lp (f_X6_change_L27) k8 sg = some o9 → (fun (r : Int32 × Md) => r = out) o9 → (fun (sg : Int32 × Int32 × Int32 × Md) => ∀ (H : Heap) (locs : List Loc) (ls : Array Slot), Wd G A s.heap H (bMd G a o sg.2.2.2) locs → lv_has ls 8 [(0, .ref (a o)), (1, .int sg.1), (2, .int sg.2.1), (3, .int sg.2.2.1)] → WW p l e 5 s m [.ref (a o)] below meth c G A (some (.int out.1)) ((bMd G a o out.2)) H locs 27 ls []) sg := by
    have J188 : ∀ (x1 : Int32) (x2 : Int32) (x3 : Int32) (w : Md) (r : (Int32 × Int32 × Int32 × Md) ⊕ (Int32 × Md)), f_X6_change_J188 w x1 x2 x3 = some r → (Sum.elim (fun (sg : Int32 × Int32 × Int32 × Md) => ∀ (H : Heap) (locs : List Loc) (ls : Array Slot), Wd G A s.heap H (bMd G a o sg.2.2.2) locs → lv_has ls 8 [(0, .ref (a o)), (1, .int sg.1), (2, .int sg.2.1), (3, .int sg.2.2.1)] → WW p l e 5 s m [.ref (a o)] below meth c G A (some (.int out.1)) ((bMd G a o out.2)) H locs 27 ls []) (fun (r : Int32 × Md) => r = out)) r → ∀ (H : Heap) (locs : List Loc) (ls : Array Slot), Wd G A s.heap H (bMd G a o w) locs → lv_has ls 8 [(0, .ref (a o)), (1, .int x1), (2, .int x2), (3, .int x3)] → WW p l e 5 s m [.ref (a o)] below meth c G A (some (.int out.1)) ((bMd G a o out.2)) H locs 188 ls [] := by
      intro x1 x2 x3 w r hf hF H locs ls hW hl
      unfold f_X6_change_J188 at hf
      refine lv_iinc (v := (x3 + (1 : Int32))) (lv' := [(3, .int (x3 + (1 : Int32))), (0, .ref (a o)), (1, .int x1), (2, .int x2)]) hx hb dX6_change_188 hl (k := 3) rfl rfl (by decide) rfl (fun ls hl => ?_)
      refine lv_goto (tgt := 27) hx hb dX6_change_191 (by decide) ?_
      have e1 := Option.some.inj hf
      subst e1
      exact (elim_l hF) _ _ _ hW (lv_sub hl [1, 2, 3, 0] rfl)
    have L40 : ∀ (x3 : Int32) (k8 : Nat) (sg : Int32 × Int32 × Int32 × Md) (o9 : (Int32 × Int32 × Int32 × Md) ⊕ (Int32 × Md)), lp (f_X6_change_L40 x3) k8 sg = some o9 → (Sum.elim (fun (sg : Int32 × Int32 × Int32 × Md) => ∀ (H : Heap) (locs : List Loc) (ls : Array Slot), Wd G A s.heap H (bMd G a o sg.2.2.2) locs → lv_has ls 8 [(0, .ref (a o)), (1, .int sg.1), (2, .int sg.2.1), (3, .int sg.2.2.1)] → WW p l e 5 s m [.ref (a o)] below meth c G A (some (.int out.1)) ((bMd G a o out.2)) H locs 27 ls []) (fun (r : Int32 × Md) => r = out)) o9 → (fun (sg : Int32 × Int32 × Int32 × Md) => ∀ (H : Heap) (locs : List Loc) (ls : Array Slot), Wd G A s.heap H (bMd G a o sg.2.2.2) locs → lv_has ls 8 [(0, .ref (a o)), (1, .int sg.1), (2, .int sg.2.1), (3, .int x3), (4, .int sg.2.2.1)] → WW p l e 5 s m [.ref (a o)] below meth c G A (some (.int out.1)) ((bMd G a o out.2)) H locs 40 ls []) sg := by
      intro x3
      have J181 : ∀ (x2 : Int32) (x4 : Int32) (t0 : Int32) (w : Md) (r : (Int32 × Int32 × Int32 × Md) ⊕ ((Int32 × Int32 × Int32 × Md) ⊕ (Int32 × Md))), f_X6_change_J181 w x2 x3 x4 t0 = some r → (Sum.elim (fun (sg : Int32 × Int32 × Int32 × Md) => ∀ (H : Heap) (locs : List Loc) (ls : Array Slot), Wd G A s.heap H (bMd G a o sg.2.2.2) locs → lv_has ls 8 [(0, .ref (a o)), (1, .int sg.1), (2, .int sg.2.1), (3, .int x3), (4, .int sg.2.2.1)] → WW p l e 5 s m [.ref (a o)] below meth c G A (some (.int out.1)) ((bMd G a o out.2)) H locs 40 ls []) (Sum.elim (fun (sg : Int32 × Int32 × Int32 × Md) => ∀ (H : Heap) (locs : List Loc) (ls : Array Slot), Wd G A s.heap H (bMd G a o sg.2.2.2) locs → lv_has ls 8 [(0, .ref (a o)), (1, .int sg.1), (2, .int sg.2.1), (3, .int sg.2.2.1)] → WW p l e 5 s m [.ref (a o)] below meth c G A (some (.int out.1)) ((bMd G a o out.2)) H locs 27 ls []) (fun (r : Int32 × Md) => r = out))) r → ∀ (H : Heap) (locs : List Loc) (ls : Array Slot), Wd G A s.heap H (bMd G a o w) locs → lv_has ls 8 [(0, .ref (a o)), (2, .int x2), (3, .int x3), (4, .int x4)] → WW p l e 5 s m [.ref (a o)] below meth c G A (some (.int out.1)) ((bMd G a o out.2)) H locs 181 ls [.int t0] := by
        intro x2 x4 t0 w r hf hF H locs ls hW hl
        unfold f_X6_change_J181 at hf
        refine lv_istore_n (lv' := [(1, .int t0), (0, .ref (a o)), (2, .int x2), (3, .int x3), (4, .int x4)]) hx hb dX6_change_181 rfl hl (by decide) rfl (fun ls hl => ?_)
        refine lv_iinc (v := (x4 + (1 : Int32))) (lv' := [(4, .int (x4 + (1 : Int32))), (1, .int t0), (0, .ref (a o)), (2, .int x2), (3, .int x3)]) hx hb dX6_change_182 hl (k := 4) rfl rfl (by decide) rfl (fun ls hl => ?_)
        refine lv_goto (tgt := 40) hx hb dX6_change_185 (by decide) ?_
        have e1 := Option.some.inj hf
        subst e1
        exact (elim_l hF) _ _ _ hW (lv_sub hl [2, 1, 3, 4, 0] rfl)
      have J168 : ∀ (x1 : Int32) (x4 : Int32) (x7 : Int32) (t0 : Int32) (w : Md) (r : (Int32 × Int32 × Int32 × Md) ⊕ ((Int32 × Int32 × Int32 × Md) ⊕ (Int32 × Md))), f_X6_change_J168 w x1 x3 x4 x7 t0 = some r → (Sum.elim (fun (sg : Int32 × Int32 × Int32 × Md) => ∀ (H : Heap) (locs : List Loc) (ls : Array Slot), Wd G A s.heap H (bMd G a o sg.2.2.2) locs → lv_has ls 8 [(0, .ref (a o)), (1, .int sg.1), (2, .int sg.2.1), (3, .int x3), (4, .int sg.2.2.1)] → WW p l e 5 s m [.ref (a o)] below meth c G A (some (.int out.1)) ((bMd G a o out.2)) H locs 40 ls []) (Sum.elim (fun (sg : Int32 × Int32 × Int32 × Md) => ∀ (H : Heap) (locs : List Loc) (ls : Array Slot), Wd G A s.heap H (bMd G a o sg.2.2.2) locs → lv_has ls 8 [(0, .ref (a o)), (1, .int sg.1), (2, .int sg.2.1), (3, .int sg.2.2.1)] → WW p l e 5 s m [.ref (a o)] below meth c G A (some (.int out.1)) ((bMd G a o out.2)) H locs 27 ls []) (fun (r : Int32 × Md) => r = out))) r → ∀ (H : Heap) (locs : List Loc) (ls : Array Slot), Wd G A s.heap H (bMd G a o w) locs → lv_has ls 8 [(0, .ref (a o)), (1, .int x1), (3, .int x3), (4, .int x4), (7, .int x7)] → WW p l e 5 s m [.ref (a o)] below meth c G A (some (.int out.1)) ((bMd G a o out.2)) H locs 168 ls [.int t0] := by
        intro x1 x4 x7 t0 w r hf hF H locs ls hW hl
        unfold f_X6_change_J168 at hf
        refine lv_istore_n (lv' := [(2, .int t0), (0, .ref (a o)), (1, .int x1), (3, .int x3), (4, .int x4), (7, .int x7)]) hx hb dX6_change_168 rfl hl (by decide) rfl (fun ls hl => ?_)
        refine lv_iload hx hb dX6_change_169 (lv_at hl 5 rfl) ?_
        refine lv_iload_n hx hb dX6_change_171 rfl (lv_at hl 2 rfl) ?_
        refine lv_icmp_ge (tgt := 180) hx hb dX6_change_172 (by decide) (fun c172_8 => ?_) (fun c172_8 => ?_)
        · replace hf := if_t c172_8 hf
          refine lv_iload_n hx hb dX6_change_180 rfl (lv_at hl 2 rfl) ?_
          exact J181 _ _ _ _ _ hf hF _ _ _ hW (lv_sub hl [1, 0, 3, 4] rfl)
        · replace hf := if_f c172_8 hf
          refine lv_iload hx hb dX6_change_175 (lv_at hl 5 rfl) ?_
          refine lv_goto (tgt := 181) hx hb dX6_change_177 (by decide) ?_
          exact J181 _ _ _ _ _ hf hF _ _ _ hW (lv_sub hl [1, 0, 3, 4] rfl)
      have B40 : ∀ (x1 : Int32) (x2 : Int32) (x4 : Int32) (w : Md) (r : (Int32 × Int32 × Int32 × Md) ⊕ ((Int32 × Int32 × Int32 × Md) ⊕ (Int32 × Md))), f_X6_change_B40 x3 x1 x2 x4 w = some r → (Sum.elim (fun (sg : Int32 × Int32 × Int32 × Md) => ∀ (H : Heap) (locs : List Loc) (ls : Array Slot), Wd G A s.heap H (bMd G a o sg.2.2.2) locs → lv_has ls 8 [(0, .ref (a o)), (1, .int sg.1), (2, .int sg.2.1), (3, .int x3), (4, .int sg.2.2.1)] → WW p l e 5 s m [.ref (a o)] below meth c G A (some (.int out.1)) ((bMd G a o out.2)) H locs 40 ls []) (Sum.elim (fun (sg : Int32 × Int32 × Int32 × Md) => ∀ (H : Heap) (locs : List Loc) (ls : Array Slot), Wd G A s.heap H (bMd G a o sg.2.2.2) locs → lv_has ls 8 [(0, .ref (a o)), (1, .int sg.1), (2, .int sg.2.1), (3, .int sg.2.2.1)] → WW p l e 5 s m [.ref (a o)] below meth c G A (some (.int out.1)) ((bMd G a o out.2)) H locs 27 ls []) (fun (r : Int32 × Md) => r = out))) r → ∀ (H : Heap) (locs : List Loc) (ls : Array Slot), Wd G A s.heap H (bMd G a o w) locs → lv_has ls 8 [(0, .ref (a o)), (1, .int x1), (2, .int x2), (3, .int x3), (4, .int x4)] → WW p l e 5 s m [.ref (a o)] below meth c G A (some (.int out.1)) ((bMd G a o out.2)) H locs 40 ls [] := by
        intro x1 x2 x4 w r hf hF H locs ls hW hl
        unfold f_X6_change_B40 at hf
        refine lv_iload hx hb dX6_change_40 (lv_at hl 4 rfl) ?_
        refine lv_aload_n hx hb dX6_change_42 rfl (lv_at hl 0 rfl) ?_
        refine k_get C0 hW 6 18 0 (v := .int (md_n w)) rfl (by decide) inX6 mf_X6_142 rfl rfl dX6_change_43 ?_
        refine lv_icmp_ge (tgt := 188) hx hb dX6_change_46 (by decide) (fun c46_4 => ?_) (fun c46_4 => ?_)
        · replace hf := if_t c46_4 hf
          obtain ⟨r2, e2⟩ := om_s hf
          replace hf := e2.1
          replace e2 := e2.2
          subst e2
          replace hF := elim_r hF
          exact J188 _ _ _ _ _ hf hF _ _ _ hW (lv_sub hl [0, 1, 2, 3] rfl)
        · replace hf := if_f c46_4 hf
          refine lv_aload_n hx hb dX6_change_49 rfl (lv_at hl 0 rfl) ?_
          obtain ⟨q50, hq50⟩ := ob_s hf
          replace hf := hq50.2
          replace hq50 := hq50.1
          refine cW1 (rest := []) (ws1 := (bMd G a o q50)) (st1 := []) C0 hW hl.1 (c_X6_copyNow l G a o w _ hq50) cb_X6_copyNow mm_X6_203 fst_Md 0 6 rfl rfl rfl (by decide) rfl rfl (Nat.le_of_ble_eq_true rfl) ⟨Nat.zero_le _, Nat.zero_le _⟩ dX6_change_50 rfl (fun H locs hW => ?_)
          refine lv_aload_n hx hb dX6_change_53 rfl (lv_at hl 0 rfl) ?_
          refine k_get C0 hW 6 25 0 (v := .ref (a (o + 16))) rfl (by decide) inX6 mf_X6_60 rfl rfl dX6_change_54 ?_
          refine lv_iconst (v := 4) hx hb dX6_change_57 (by decide) ?_
          refine lv_iload_n hx hb dX6_change_58 rfl (lv_at hl 3 rfl) ?_
          refine lv_iadd hx hb dX6_change_59 ?_
          refine lv_iconst (v := 4) hx hb dX6_change_60 (by decide) ?_
          refine lv_iload hx hb dX6_change_61 (lv_at hl 4 rfl) ?_
          refine lv_iadd hx hb dX6_change_63 ?_
          obtain ⟨q64, hq64⟩ := ob_s hf
          replace hf := hq64.2
          replace hq64 := hq64.1
          refine cS1 (rest := []) (ws1 := (bMd G a o (md_set_tried q50 q64))) (st1 := []) C0 hW hl.1 (c_X6_swap l G (a (o + 16)) 12 (md_tried q50) ((4 : Int32) + x3) ((4 : Int32) + x4) _ hq64) cb_X6_swap mm_X6_224 [16] rfl rfl rfl (by decide) rfl rfl (Nat.le_of_ble_eq_true rfl) ⟨Nat.zero_le _, Nat.zero_le _⟩ dX6_change_64 rfl rfl (fun H locs hW => ?_)
          refine lv_aload_n hx hb dX6_change_67 rfl (lv_at hl 0 rfl) ?_
          refine k_get C0 hW 6 25 0 (v := .ref (a (o + 16))) rfl (by decide) inX6 mf_X6_60 rfl rfl dX6_change_68 ?_
          refine lv_iconst (v := 3) hx hb dX6_change_71 (by decide) ?_
          refine k_iald C0 hW 16 3 rfl (inb_in rfl) rfl dX6_change_72 ?_
          refine lv_iload_n hx hb dX6_change_73 rfl (lv_at hl 3 rfl) ?_
          refine lv_ishr hx hb dX6_change_74 ?_
          refine lv_iconst (v := 1) hx hb dX6_change_75 (by decide) ?_
          refine lv_iand hx hb dX6_change_76 ?_
          refine lv_topi (fun v77 ev77 => ?_)
          replace hf := nm_s ev77 hf
          refine lv_istore (lv' := [(5, .int v77), (0, .ref (a o)), (1, .int x1), (2, .int x2), (3, .int x3), (4, .int x4)]) hx hb dX6_change_77 hl (by decide) rfl (fun ls hl => ?_)
          refine lv_aload_n hx hb dX6_change_79 rfl (lv_at hl 1 rfl) ?_
          refine k_get C0 hW 6 25 0 (v := .ref (a (o + 16))) rfl (by decide) inX6 mf_X6_60 rfl rfl dX6_change_80 ?_
          refine lv_iconst (v := 3) hx hb dX6_change_83 (by decide) ?_
          refine k_iald C0 hW 16 3 rfl (inb_in rfl) rfl dX6_change_84 ?_
          refine lv_iload hx hb dX6_change_85 (lv_at hl 5 rfl) ?_
          refine lv_ishr hx hb dX6_change_87 ?_
          refine lv_iconst (v := 1) hx hb dX6_change_88 (by decide) ?_
          refine lv_iand hx hb dX6_change_89 ?_
          refine lv_topi (fun v90 ev90 => ?_)
          replace hf := nm_s ev90 hf
          refine lv_istore (lv' := [(6, .int v90), (5, .int v77), (0, .ref (a o)), (1, .int x1), (2, .int x2), (3, .int x3), (4, .int x4)]) hx hb dX6_change_90 hl (by decide) rfl (fun ls hl => ?_)
          refine lv_aload_n hx hb dX6_change_92 rfl (lv_at hl 2 rfl) ?_
          refine k_get C0 hW 6 25 0 (v := .ref (a (o + 16))) rfl (by decide) inX6 mf_X6_60 rfl rfl dX6_change_93 ?_
          refine lv_iconst (v := 3) hx hb dX6_change_96 (by decide) ?_
          refine lv_aload_n hx hb dX6_change_97 rfl (lv_at hl 2 rfl) ?_
          refine k_get C0 hW 6 25 0 (v := .ref (a (o + 16))) rfl (by decide) inX6 mf_X6_60 rfl rfl dX6_change_98 ?_
          refine lv_iconst (v := 3) hx hb dX6_change_101 (by decide) ?_
          refine k_iald C0 hW 16 3 rfl (inb_in rfl) rfl dX6_change_102 ?_
          refine lv_iconst (v := 1) hx hb dX6_change_103 (by decide) ?_
          refine lv_iload_n hx hb dX6_change_104 rfl (lv_at hl 5 rfl) ?_
          refine lv_ishl hx hb dX6_change_105 ?_
          refine lv_iconst (v := -1) hx hb dX6_change_106 (by decide) ?_
          refine lv_ixor hx hb dX6_change_107 ?_
          refine lv_iand hx hb dX6_change_108 ?_
          refine lv_iconst (v := 1) hx hb dX6_change_109 (by decide) ?_
          refine lv_iload hx hb dX6_change_110 (lv_at hl 6 rfl) ?_
          refine lv_ishl hx hb dX6_change_112 ?_
          refine lv_iconst (v := -1) hx hb dX6_change_113 (by decide) ?_
          refine lv_ixor hx hb dX6_change_114 ?_
          refine lv_iand hx hb dX6_change_115 ?_
          refine lv_iload hx hb dX6_change_116 (lv_at hl 0 rfl) ?_
          refine lv_iload_n hx hb dX6_change_118 rfl (lv_at hl 5 rfl) ?_
          refine lv_ishl hx hb dX6_change_119 ?_
          refine lv_ior hx hb dX6_change_120 ?_
          refine lv_iload hx hb dX6_change_121 (lv_at hl 1 rfl) ?_
          refine lv_iload hx hb dX6_change_123 (lv_at hl 6 rfl) ?_
          refine lv_ishl hx hb dX6_change_125 ?_
          refine lv_ior hx hb dX6_change_126 ?_
          refine k_iast C0 hW 16 3 rfl (inb_in rfl) rfl dX6_change_127 (fun H locs hW => ?_)
          have hW : Wd G A s.heap H (bMd G a o (md_set_tried q50 (upd q64 3 (((((q64 3) &&& ((jshl (1 : Int32) x3) ^^^ (-1 : Int32))) &&& ((jshl (1 : Int32) x4) ^^^ (-1 : Int32))) ||| (jshl v90 x3)) ||| (jshl v77 x4))))) locs := hW
          refine lv_aload_n hx hb dX6_change_128 rfl (lv_at hl 2 rfl) ?_
          refine lv_iload_n hx hb dX6_change_129 rfl (lv_at hl 5 rfl) ?_
          refine lv_iload hx hb dX6_change_130 (lv_at hl 6 rfl) ?_
          obtain ⟨q132, hq132⟩ := ob_s hf
          replace hf := hq132.2
          replace hq132 := hq132.1
          refine cW1 (rest := []) (ws1 := (bMd G a o q132)) (st1 := []) C0 hW hl.1 (c_X6_changes l G a o (md_set_tried q50 (upd q64 3 (((((q64 3) &&& ((jshl (1 : Int32) x3) ^^^ (-1 : Int32))) &&& ((jshl (1 : Int32) x4) ^^^ (-1 : Int32))) ||| (jshl v90 x3)) ||| (jshl v77 x4)))) x3 x4 _ hq132) cb_X6_changes mm_X6_228 fst_Md 0 6 rfl rfl rfl (by decide) rfl rfl (Nat.le_of_ble_eq_true rfl) ⟨Nat.zero_le _, Nat.zero_le _⟩ dX6_change_132 rfl (fun H locs hW => ?_)
          refine lv_aload_n hx hb dX6_change_135 rfl (lv_at hl 2 rfl) ?_
          refine lv_bipush (v := 20) hx hb dX6_change_136 (by decide) ?_
          refine lv_iconst (v := 1) hx hb dX6_change_138 (by decide) ?_
          obtain ⟨q139, hq139⟩ := ob_s hf
          replace hf := hq139.2
          replace hq139 := hq139.1
          refine cW1 (rest := []) (ws1 := (bMd G a o q139.2)) (st1 := [.int q139.1]) C0 hW hl.1 (c_X6_limpsIn l G a o q132 (20 : Int32) (1 : Int32) _ hq139) cb_X6_limpsIn mm_X6_206 fst_Md 0 6 rfl rfl rfl (by decide) rfl rfl (Nat.le_of_ble_eq_true rfl) ⟨Nat.zero_le _, Nat.zero_le _⟩ dX6_change_139 rfl (fun H locs hW => ?_)
          refine lv_istore (lv' := [(7, .int q139.1), (6, .int v90), (5, .int v77), (0, .ref (a o)), (1, .int x1), (2, .int x2), (3, .int x3), (4, .int x4)]) hx hb dX6_change_142 hl (by decide) rfl (fun ls hl => ?_)
          refine lv_aload_n hx hb dX6_change_144 rfl (lv_at hl 3 rfl) ?_
          refine lv_iload_n hx hb dX6_change_145 rfl (lv_at hl 6 rfl) ?_
          refine lv_iload hx hb dX6_change_146 (lv_at hl 7 rfl) ?_
          obtain ⟨q148, hq148⟩ := ob_s hf
          replace hf := hq148.2
          replace hq148 := hq148.1
          refine cW1 (rest := []) (ws1 := (bMd G a o q148)) (st1 := []) C0 hW hl.1 (c_X6_changes l G a o q139.2 x3 x4 _ hq148) cb_X6_changes mm_X6_228 fst_Md 0 6 rfl rfl rfl (by decide) rfl rfl (Nat.le_of_ble_eq_true rfl) ⟨Nat.zero_le _, Nat.zero_le _⟩ dX6_change_148 rfl (fun H locs hW => ?_)
          refine lv_iload hx hb dX6_change_151 (lv_at hl 0 rfl) ?_
          refine lv_iload_n hx hb dX6_change_153 rfl (lv_at hl 4 rfl) ?_
          refine lv_icmp_ge (tgt := 167) hx hb dX6_change_154 (by decide) (fun c154_7 => ?_) (fun c154_7 => ?_)
          · replace hf := if_t c154_7 hf
            refine lv_iload_n hx hb dX6_change_167 rfl (lv_at hl 5 rfl) ?_
            exact J168 _ _ _ _ _ _ hf hF _ _ _ hW (lv_sub hl [3, 4, 6, 7, 0] rfl)
          · replace hf := if_f c154_7 hf
            refine lv_bipush (v := 10) hx hb dX6_change_157 (by decide) ?_
            refine lv_iload_n hx hb dX6_change_159 rfl (lv_at hl 6 rfl) ?_
            refine lv_imul hx hb dX6_change_160 ?_
            refine lv_iload hx hb dX6_change_161 (lv_at hl 7 rfl) ?_
            refine lv_iadd hx hb dX6_change_163 ?_
            refine lv_goto (tgt := 168) hx hb dX6_change_164 (by decide) ?_
            exact J168 _ _ _ _ _ _ hf hF _ _ _ hW (lv_sub hl [3, 4, 6, 7, 0] rfl)
      exact lp_sound (fun sg r hb hz => B40 sg.1 sg.2.1 sg.2.2.1 sg.2.2.2 r hb hz)
    have B27 : ∀ (x1 : Int32) (x2 : Int32) (x3 : Int32) (w : Md) (r : (Int32 × Int32 × Int32 × Md) ⊕ (Int32 × Md)), f_X6_change_B27 x1 x2 x3 w = some r → (Sum.elim (fun (sg : Int32 × Int32 × Int32 × Md) => ∀ (H : Heap) (locs : List Loc) (ls : Array Slot), Wd G A s.heap H (bMd G a o sg.2.2.2) locs → lv_has ls 8 [(0, .ref (a o)), (1, .int sg.1), (2, .int sg.2.1), (3, .int sg.2.2.1)] → WW p l e 5 s m [.ref (a o)] below meth c G A (some (.int out.1)) ((bMd G a o out.2)) H locs 27 ls []) (fun (r : Int32 × Md) => r = out)) r → ∀ (H : Heap) (locs : List Loc) (ls : Array Slot), Wd G A s.heap H (bMd G a o w) locs → lv_has ls 8 [(0, .ref (a o)), (1, .int x1), (2, .int x2), (3, .int x3)] → WW p l e 5 s m [.ref (a o)] below meth c G A (some (.int out.1)) ((bMd G a o out.2)) H locs 27 ls [] := by
      intro x1 x2 x3 w r hf hF H locs ls hW hl
      unfold f_X6_change_B27 at hf
      refine lv_iload_n hx hb dX6_change_27 rfl (lv_at hl 3 rfl) ?_
      refine lv_aload_n hx hb dX6_change_28 rfl (lv_at hl 0 rfl) ?_
      refine k_get C0 hW 6 18 0 (v := .int (md_n w)) rfl (by decide) inX6 mf_X6_142 rfl rfl dX6_change_29 ?_
      refine lv_icmp_ge (tgt := 194) hx hb dX6_change_32 (by decide) (fun c32_2 => ?_) (fun c32_2 => ?_)
      · replace hf := if_t c32_2 hf
        obtain ⟨r2, e2⟩ := om_s hf
        replace hf := e2.1
        replace e2 := e2.2
        subst e2
        replace hF := elim_r hF
        exact J194 _ _ _ _ hf hF _ _ _ hW (lv_sub hl [0, 1, 2] rfl)
      · replace hf := if_f c32_2 hf
        refine lv_iload_n hx hb dX6_change_35 rfl (lv_at hl 3 rfl) ?_
        refine lv_iconst (v := 1) hx hb dX6_change_36 (by decide) ?_
        refine lv_iadd hx hb dX6_change_37 ?_
        refine lv_istore (lv' := [(4, .int (x3 + (1 : Int32))), (0, .ref (a o)), (1, .int x1), (2, .int x2), (3, .int x3)]) hx hb dX6_change_38 hl (by decide) rfl (fun ls hl => ?_)
        exact L40 _ fuel (x1, x2, (x3 + (1 : Int32)), w) _ hf hF _ _ _ hW (lv_sub hl [1, 2, 3, 4, 0] rfl)
    exact lp_sound (fun sg r hb hz => B27 sg.1 sg.2.1 sg.2.2.1 sg.2.2.2 r hb hz)
  obtain ⟨r, hr⟩ : ∃ r, f_X6_change w = some r ∧ r = out := ⟨out, hf, rfl⟩
  replace hf := hr.1
  have hF := hr.2
  clear hr
  unfold f_X6_change at hf
  refine lv_aload_n hx hb dX6_change_0 rfl (lv_at hl 0 rfl) ?_
  refine k_get C0 hW 6 18 0 (v := .int (md_n w)) rfl (by decide) inX6 mf_X6_142 rfl rfl dX6_change_1 ?_
  refine lv_if_ne (tgt := 10) hx hb dX6_change_4 (by decide) (fun c4_1 => ?_) (fun c4_1 => ?_)
  · replace hf := if_f c4_1 hf
    refine lv_aload_n hx hb dX6_change_10 rfl (lv_at hl 0 rfl) ?_
    obtain ⟨q11, hq11⟩ := ob_s hf
    replace hf := hq11.2
    replace hq11 := hq11.1
    refine cW1 (rest := []) (ws1 := (bMd G a o q11)) (st1 := []) C0 hW hl.1 (c_X6_copyNow l G a o w _ hq11) cb_X6_copyNow mm_X6_203 fst_Md 0 6 rfl rfl rfl (by decide) rfl rfl (Nat.le_of_ble_eq_true rfl) ⟨Nat.zero_le _, Nat.zero_le _⟩ dX6_change_11 rfl (fun H locs hW => ?_)
    refine lv_aload_n hx hb dX6_change_14 rfl (lv_at hl 0 rfl) ?_
    refine lv_bipush (v := 20) hx hb dX6_change_15 (by decide) ?_
    refine lv_iconst (v := 1) hx hb dX6_change_17 (by decide) ?_
    obtain ⟨q18, hq18⟩ := ob_s hf
    replace hf := hq18.2
    replace hq18 := hq18.1
    refine cW1 (rest := []) (ws1 := (bMd G a o q18.2)) (st1 := [.int q18.1]) C0 hW hl.1 (c_X6_limpsIn l G a o q11 (20 : Int32) (1 : Int32) _ hq18) cb_X6_limpsIn mm_X6_206 fst_Md 0 6 rfl rfl rfl (by decide) rfl rfl (Nat.le_of_ble_eq_true rfl) ⟨Nat.zero_le _, Nat.zero_le _⟩ dX6_change_18 rfl (fun H locs hW => ?_)
    refine lv_istore_n (lv' := [(1, .int q18.1), (0, .ref (a o))]) hx hb dX6_change_21 rfl hl (by decide) rfl (fun ls hl => ?_)
    refine lv_bipush (v := -9) hx hb dX6_change_22 (by decide) ?_
    refine lv_istore_n (lv' := [(2, .int (-9 : Int32)), (1, .int q18.1), (0, .ref (a o))]) hx hb dX6_change_24 rfl hl (by decide) rfl (fun ls hl => ?_)
    refine lv_iconst (v := 0) hx hb dX6_change_25 (by decide) ?_
    refine lv_istore_n (lv' := [(3, .int (0 : Int32)), (2, .int (-9 : Int32)), (1, .int q18.1), (0, .ref (a o))]) hx hb dX6_change_26 rfl hl (by decide) rfl (fun ls hl => ?_)
    exact L27  fuel (q18.1, (-9 : Int32), (0 : Int32), q18.2) _ hf hF _ _ _ hW (lv_sub hl [3, 2, 1, 0] rfl)
  · replace hf := if_t c4_1 hf
    refine lv_bipush (v := -4) hx hb dX6_change_7 (by decide) ?_
    have e1 := Option.some.inj hf
    subst e1
    have hF : (((-4 : Int32), w) : Int32 × Md) = out := hF
    subst hF
    exact k_iret C0 hW dX6_change_9

def f_X6_comes_J34 (w : Md) : Option (Int32 × Md) :=
  if ((md_tried w) 0) < (md_gateAt w) then (some ((0 : Int32), w)) else (some ((1 : Int32), w))
def f_X6_comes_B2 (x1 : Int32) (w : Md) : Option ((Int32 × Md) ⊕ (Int32 × Md)) :=
  if (60 : Int32) ≤ x1 then (Option.map Sum.inr (f_X6_comes_J34 w)) else (if (md_gateAt w) ≤ ((md_tried w) 0) then (Option.map Sum.inr (f_X6_comes_J34 w)) else (Option.bind (f_X6_limpsIn w (1 : Int32) (0 : Int32)) (fun q24 => some (Sum.inl ((x1 + (1 : Int32)), q24.2)))))
def f_X6_comes_L2 (sg : Int32 × Md) : Option ((Int32 × Md) ⊕ (Int32 × Md)) := f_X6_comes_B2 sg.1 sg.2
def f_X6_comes (w : Md) : Option (Int32 × Md) :=
  lp (f_X6_comes_L2) fuel ((0 : Int32), w)
set_option maxRecDepth 100000 in
set_option maxHeartbeats 1000000 in
theorem c_X6_comes (l : Launch) (G : GG) (a : Nat → Nat) (o : Nat) (w : Md) (out : Int32 × Md) (hf : f_X6_comes w = some out) : Cn l G 5 yX6_comes cX6_comes 2 (some .boolean) [.ref (a o)] (bMd G a o w) (some (.int out.1)) (bMd G a o out.2) := by
  refine cn_start (by decide) (Nat.le_of_ble_eq_true rfl) ?_
  intro p e s m below meth c A ls C0 hW hl
  have hx := C0.1
  have hb := C0.2.1
  have hl : lv_has ls 2 [(0, .ref (a o))] := hl
  have J34 : ∀ (w : Md) (r : Int32 × Md), f_X6_comes_J34 w = some r → (fun (r : Int32 × Md) => r = out) r → ∀ (H : Heap) (locs : List Loc) (ls : Array Slot), Wd G A s.heap H (bMd G a o w) locs → lv_has ls 2 [(0, .ref (a o))] → WW p l e 5 s m [.ref (a o)] below meth c G A (some (.int out.1)) ((bMd G a o out.2)) H locs 34 ls [] := by
    intro w r hf hF H locs ls hW hl
    unfold f_X6_comes_J34 at hf
    refine lv_aload_n hx hb dX6_comes_34 rfl (lv_at hl 0 rfl) ?_
    refine k_get C0 hW 6 25 0 (v := .ref (a (o + 16))) rfl (by decide) inX6 mf_X6_60 rfl rfl dX6_comes_35 ?_
    refine lv_iconst (v := 0) hx hb dX6_comes_38 (by decide) ?_
    refine k_iald C0 hW 16 0 rfl (inb_in rfl) rfl dX6_comes_39 ?_
    refine lv_aload_n hx hb dX6_comes_40 rfl (lv_at hl 0 rfl) ?_
    refine k_get C0 hW 6 19 0 (v := .int (md_gateAt w)) rfl (by decide) inX6 mf_X6_145 rfl rfl dX6_comes_41 ?_
    refine lv_icmp_lt (tgt := 51) hx hb dX6_comes_44 (by decide) (fun c44_2 => ?_) (fun c44_2 => ?_)
    · replace hf := if_t c44_2 hf
      refine lv_iconst (v := 0) hx hb dX6_comes_51 (by decide) ?_
      have e1 := Option.some.inj hf
      subst e1
      have hF : (((0 : Int32), w) : Int32 × Md) = out := hF
      subst hF
      exact k_zret C0 hW rfl dX6_comes_52
    · replace hf := if_f c44_2 hf
      refine lv_iconst (v := 1) hx hb dX6_comes_47 (by decide) ?_
      refine lv_goto (tgt := 52) hx hb dX6_comes_48 (by decide) ?_
      have e1 := Option.some.inj hf
      subst e1
      have hF : (((1 : Int32), w) : Int32 × Md) = out := hF
      subst hF
      exact k_zret C0 hW rfl dX6_comes_52
  have L2 : ∀ (k8 : Nat) (sg : Int32 × Md) (o9 : Int32 × Md), lp (f_X6_comes_L2) k8 sg = some o9 → (fun (r : Int32 × Md) => r = out) o9 → (fun (sg : Int32 × Md) => ∀ (H : Heap) (locs : List Loc) (ls : Array Slot), Wd G A s.heap H (bMd G a o sg.2) locs → lv_has ls 2 [(0, .ref (a o)), (1, .int sg.1)] → WW p l e 5 s m [.ref (a o)] below meth c G A (some (.int out.1)) ((bMd G a o out.2)) H locs 2 ls []) sg := by
    have B2 : ∀ (x1 : Int32) (w : Md) (r : (Int32 × Md) ⊕ (Int32 × Md)), f_X6_comes_B2 x1 w = some r → (Sum.elim (fun (sg : Int32 × Md) => ∀ (H : Heap) (locs : List Loc) (ls : Array Slot), Wd G A s.heap H (bMd G a o sg.2) locs → lv_has ls 2 [(0, .ref (a o)), (1, .int sg.1)] → WW p l e 5 s m [.ref (a o)] below meth c G A (some (.int out.1)) ((bMd G a o out.2)) H locs 2 ls []) (fun (r : Int32 × Md) => r = out)) r → ∀ (H : Heap) (locs : List Loc) (ls : Array Slot), Wd G A s.heap H (bMd G a o w) locs → lv_has ls 2 [(0, .ref (a o)), (1, .int x1)] → WW p l e 5 s m [.ref (a o)] below meth c G A (some (.int out.1)) ((bMd G a o out.2)) H locs 2 ls [] := by
      intro x1 w r hf hF H locs ls hW hl
      unfold f_X6_comes_B2 at hf
      refine lv_iload_n hx hb dX6_comes_2 rfl (lv_at hl 1 rfl) ?_
      refine lv_bipush (v := 60) hx hb dX6_comes_3 (by decide) ?_
      refine lv_icmp_ge (tgt := 34) hx hb dX6_comes_5 (by decide) (fun c5_1 => ?_) (fun c5_1 => ?_)
      · replace hf := if_t c5_1 hf
        obtain ⟨r2, e2⟩ := om_s hf
        replace hf := e2.1
        replace e2 := e2.2
        subst e2
        replace hF := elim_r hF
        exact J34 _ _ hf hF _ _ _ hW (lv_sub hl [0] rfl)
      · replace hf := if_f c5_1 hf
        refine lv_aload_n hx hb dX6_comes_8 rfl (lv_at hl 0 rfl) ?_
        refine k_get C0 hW 6 25 0 (v := .ref (a (o + 16))) rfl (by decide) inX6 mf_X6_60 rfl rfl dX6_comes_9 ?_
        refine lv_iconst (v := 0) hx hb dX6_comes_12 (by decide) ?_
        refine k_iald C0 hW 16 0 rfl (inb_in rfl) rfl dX6_comes_13 ?_
        refine lv_aload_n hx hb dX6_comes_14 rfl (lv_at hl 0 rfl) ?_
        refine k_get C0 hW 6 19 0 (v := .int (md_gateAt w)) rfl (by decide) inX6 mf_X6_145 rfl rfl dX6_comes_15 ?_
        refine lv_icmp_ge (tgt := 34) hx hb dX6_comes_18 (by decide) (fun c18_3 => ?_) (fun c18_3 => ?_)
        · replace hf := if_t c18_3 hf
          obtain ⟨r2, e2⟩ := om_s hf
          replace hf := e2.1
          replace e2 := e2.2
          subst e2
          replace hF := elim_r hF
          exact J34 _ _ hf hF _ _ _ hW (lv_sub hl [0] rfl)
        · replace hf := if_f c18_3 hf
          refine lv_aload_n hx hb dX6_comes_21 rfl (lv_at hl 0 rfl) ?_
          refine lv_iconst (v := 1) hx hb dX6_comes_22 (by decide) ?_
          refine lv_iconst (v := 0) hx hb dX6_comes_23 (by decide) ?_
          obtain ⟨q24, hq24⟩ := ob_s hf
          replace hf := hq24.2
          replace hq24 := hq24.1
          refine cW1 (rest := []) (ws1 := (bMd G a o q24.2)) (st1 := [.int q24.1]) C0 hW hl.1 (c_X6_limpsIn l G a o w (1 : Int32) (0 : Int32) _ hq24) cb_X6_limpsIn mm_X6_206 fst_Md 0 6 rfl rfl rfl (by decide) rfl rfl (Nat.le_of_ble_eq_true rfl) ⟨Nat.zero_le _, Nat.zero_le _⟩ dX6_comes_24 rfl (fun H locs hW => ?_)
          refine lv_pop hx hb dX6_comes_27 rfl ?_
          refine lv_iinc (v := (x1 + (1 : Int32))) (lv' := [(1, .int (x1 + (1 : Int32))), (0, .ref (a o))]) hx hb dX6_comes_28 hl (k := 1) rfl rfl (by decide) rfl (fun ls hl => ?_)
          refine lv_goto (tgt := 2) hx hb dX6_comes_31 (by decide) ?_
          have e1 := Option.some.inj hf
          subst e1
          exact (elim_l hF) _ _ _ hW (lv_sub hl [1, 0] rfl)
    exact lp_sound (fun sg r hb hz => B2 sg.1 sg.2 r hb hz)
  obtain ⟨r, hr⟩ : ∃ r, f_X6_comes w = some r ∧ r = out := ⟨out, hf, rfl⟩
  replace hf := hr.1
  have hF := hr.2
  clear hr
  unfold f_X6_comes at hf
  refine lv_iconst (v := 0) hx hb dX6_comes_0 (by decide) ?_
  refine lv_istore_n (lv' := [(1, .int (0 : Int32)), (0, .ref (a o))]) hx hb dX6_comes_1 rfl hl (by decide) rfl (fun ls hl => ?_)
  exact L2  fuel ((0 : Int32), w) _ hf hF _ _ _ hW (lv_sub hl [1, 0] rfl)

def f_X6_copy_J45 (w : Md) : Option (Int32 × Md) :=
  Option.bind (f_X6_meets w (1 : Int32)) (fun q47 => some (q47.1, q47.2))
def f_X6_copy_J95 (w : Md) : Option (Int32 × Md) :=
  Option.bind (f_X6_meets w (2 : Int32)) (fun q97 => some (q97.1, q97.2))
def f_X6_copy_B136 (x3 : Int32) (x4 : Int32) (x5 : Int32) (x6 : Int32) (w : Md) : Option ((Int32 × Md) ⊕ (Int32 × Md)) :=
  if x5 ≤ x6 then (Option.map Sum.inr (some ((1 : Int32), w))) else (gd (inb x6 40) (gd (inb ((((40 : Int32) * x3) + x4) + x6) 240) (some (Sum.inl ((x6 + (1 : Int32)), (md_set_rows w (upd (md_rows w) (ix ((((40 : Int32) * x3) + x4) + x6)) ((md_copied w) (ix x6)))))))))
def f_X6_copy_L136 (x3 : Int32) (x4 : Int32) (x5 : Int32) (sg : Int32 × Md) : Option ((Int32 × Md) ⊕ (Int32 × Md)) := f_X6_copy_B136 x3 x4 x5 sg.1 sg.2
def f_X6_copy_J133 (w : Md) (x3 : Int32) (x4 : Int32) (x5 : Int32) : Option (Int32 × Md) :=
  lp (f_X6_copy_L136 x3 x4 x5) fuel ((0 : Int32), w)
def f_X6_copy_B104 (x1 : Int32) (x2 : Int32) (x3 : Int32) (x4 : Int32) (x5 : Int32) (x6 : Int32) (w : Md) : Option ((Int32 × Md) ⊕ (Int32 × Md)) :=
  if x5 ≤ x6 then (Option.map Sum.inr (f_X6_copy_J133 w x3 x4 x5)) else (Option.bind (f_X6_rowAt w x1 (x2 + x6)) (fun q123 => gd (inb x6 40) (some (Sum.inl ((x6 + (1 : Int32)), (md_set_copied w (upd (md_copied w) (ix x6) q123)))))))
def f_X6_copy_L104 (x1 : Int32) (x2 : Int32) (x3 : Int32) (x4 : Int32) (x5 : Int32) (sg : Int32 × Md) : Option ((Int32 × Md) ⊕ (Int32 × Md)) := f_X6_copy_B104 x1 x2 x3 x4 x5 sg.1 sg.2
def f_X6_copy (w : Md) (x1 : Int32) (x2 : Int32) (x3 : Int32) (x4 : Int32) (x5 : Int32) : Option (Int32 × Md) :=
  Option.bind (f_X6_isRow x1) (fun q1 => if q1 = 0 then (some ((-1 : Int32), w)) else (Option.bind (f_X6_isRow x3) (fun q8 => if q8 = 0 then (some ((-1 : Int32), w)) else (if 0 ≤ x5 then (gd (inb x1 6) (if ((md_sizes w) (ix x1)) < 0 then (f_X6_copy_J45 w) else (gd (inb x3 6) (if 0 ≤ ((md_sizes w) (ix x3)) then (if x2 < 0 then (f_X6_copy_J95 w) else (if x4 < 0 then (f_X6_copy_J95 w) else (gd (inb x1 6) (if 0 < (lg_cmp ((x2.toInt64) + (x5.toInt64)) (((md_sizes w) (ix x1)).toInt64)) then (f_X6_copy_J95 w) else (gd (inb x3 6) (if (lg_cmp ((x4.toInt64) + (x5.toInt64)) (((md_sizes w) (ix x3)).toInt64)) ≤ 0 then (lp (f_X6_copy_L104 x1 x2 x3 x4 x5) fuel ((0 : Int32), w)) else (f_X6_copy_J95 w))))))) else (f_X6_copy_J45 w))))) else (Option.bind (f_X6_meets w (5 : Int32)) (fun q23 => some (q23.1, q23.2)))))))
set_option maxRecDepth 100000 in
set_option maxHeartbeats 1000000 in
theorem c_X6_copy (l : Launch) (G : GG) (a : Nat → Nat) (o : Nat) (w : Md) (x1 : Int32) (x2 : Int32) (x3 : Int32) (x4 : Int32) (x5 : Int32) (out : Int32 × Md) (hf : f_X6_copy w x1 x2 x3 x4 x5 = some out) : Cn l G 2 yX6_copy cX6_copy 7 (some .int) [.ref (a o), .int x1, .int x2, .int x3, .int x4, .int x5] (bMd G a o w) (some (.int out.1)) (bMd G a o out.2) := by
  refine cn_start (by decide) (Nat.le_of_ble_eq_true rfl) ?_
  intro p e s m below meth c A ls C0 hW hl
  have hx := C0.1
  have hb := C0.2.1
  have hl : lv_has ls 7 [(0, .ref (a o)), (1, .int x1), (2, .int x2), (3, .int x3), (4, .int x4), (5, .int x5)] := hl
  have J45 : ∀ (w : Md) (r : Int32 × Md), f_X6_copy_J45 w = some r → (fun (r : Int32 × Md) => r = out) r → ∀ (H : Heap) (locs : List Loc) (ls : Array Slot), Wd G A s.heap H (bMd G a o w) locs → lv_has ls 7 [(0, .ref (a o))] → WW p l e 2 s m [.ref (a o), .int x1, .int x2, .int x3, .int x4, .int x5] below meth c G A (some (.int out.1)) ((bMd G a o out.2)) H locs 45 ls [] := by
    intro w r hf hF H locs ls hW hl
    unfold f_X6_copy_J45 at hf
    refine lv_aload_n hx hb dX6_copy_45 rfl (lv_at hl 0 rfl) ?_
    refine lv_iconst (v := 1) hx hb dX6_copy_46 (by decide) ?_
    obtain ⟨q47, hq47⟩ := ob_s hf
    replace hf := hq47.2
    replace hq47 := hq47.1
    refine cW1 (rest := []) (ws1 := (bMd G a o q47.2)) (st1 := [.int q47.1]) C0 hW hl.1 (c_X6_meets l G a o w (1 : Int32) _ hq47) cb_X6_meets mm_X6_97 fst_Md 0 6 rfl rfl rfl (by decide) rfl rfl (Nat.le_of_ble_eq_true rfl) ⟨Nat.zero_le _, Nat.zero_le _⟩ dX6_copy_47 rfl (fun H locs hW => ?_)
    have e1 := Option.some.inj hf
    subst e1
    have hF : ((q47.1, q47.2) : Int32 × Md) = out := hF
    subst hF
    exact k_iret C0 hW dX6_copy_50
  have J95 : ∀ (w : Md) (r : Int32 × Md), f_X6_copy_J95 w = some r → (fun (r : Int32 × Md) => r = out) r → ∀ (H : Heap) (locs : List Loc) (ls : Array Slot), Wd G A s.heap H (bMd G a o w) locs → lv_has ls 7 [(0, .ref (a o))] → WW p l e 2 s m [.ref (a o), .int x1, .int x2, .int x3, .int x4, .int x5] below meth c G A (some (.int out.1)) ((bMd G a o out.2)) H locs 95 ls [] := by
    intro w r hf hF H locs ls hW hl
    unfold f_X6_copy_J95 at hf
    refine lv_aload_n hx hb dX6_copy_95 rfl (lv_at hl 0 rfl) ?_
    refine lv_iconst (v := 2) hx hb dX6_copy_96 (by decide) ?_
    obtain ⟨q97, hq97⟩ := ob_s hf
    replace hf := hq97.2
    replace hq97 := hq97.1
    refine cW1 (rest := []) (ws1 := (bMd G a o q97.2)) (st1 := [.int q97.1]) C0 hW hl.1 (c_X6_meets l G a o w (2 : Int32) _ hq97) cb_X6_meets mm_X6_97 fst_Md 0 6 rfl rfl rfl (by decide) rfl rfl (Nat.le_of_ble_eq_true rfl) ⟨Nat.zero_le _, Nat.zero_le _⟩ dX6_copy_97 rfl (fun H locs hW => ?_)
    have e1 := Option.some.inj hf
    subst e1
    have hF : ((q97.1, q97.2) : Int32 × Md) = out := hF
    subst hF
    exact k_iret C0 hW dX6_copy_100
  have L136 : ∀ (k8 : Nat) (sg : Int32 × Md) (o9 : Int32 × Md), lp (f_X6_copy_L136 x3 x4 x5) k8 sg = some o9 → (fun (r : Int32 × Md) => r = out) o9 → (fun (sg : Int32 × Md) => ∀ (H : Heap) (locs : List Loc) (ls : Array Slot), Wd G A s.heap H (bMd G a o sg.2) locs → lv_has ls 7 [(0, .ref (a o)), (3, .int x3), (4, .int x4), (5, .int x5), (6, .int sg.1)] → WW p l e 2 s m [.ref (a o), .int x1, .int x2, .int x3, .int x4, .int x5] below meth c G A (some (.int out.1)) ((bMd G a o out.2)) H locs 136 ls []) sg := by
    have B136 : ∀ (x6 : Int32) (w : Md) (r : (Int32 × Md) ⊕ (Int32 × Md)), f_X6_copy_B136 x3 x4 x5 x6 w = some r → (Sum.elim (fun (sg : Int32 × Md) => ∀ (H : Heap) (locs : List Loc) (ls : Array Slot), Wd G A s.heap H (bMd G a o sg.2) locs → lv_has ls 7 [(0, .ref (a o)), (3, .int x3), (4, .int x4), (5, .int x5), (6, .int sg.1)] → WW p l e 2 s m [.ref (a o), .int x1, .int x2, .int x3, .int x4, .int x5] below meth c G A (some (.int out.1)) ((bMd G a o out.2)) H locs 136 ls []) (fun (r : Int32 × Md) => r = out)) r → ∀ (H : Heap) (locs : List Loc) (ls : Array Slot), Wd G A s.heap H (bMd G a o w) locs → lv_has ls 7 [(0, .ref (a o)), (3, .int x3), (4, .int x4), (5, .int x5), (6, .int x6)] → WW p l e 2 s m [.ref (a o), .int x1, .int x2, .int x3, .int x4, .int x5] below meth c G A (some (.int out.1)) ((bMd G a o out.2)) H locs 136 ls [] := by
      intro x6 w r hf hF H locs ls hW hl
      unfold f_X6_copy_B136 at hf
      refine lv_iload hx hb dX6_copy_136 (lv_at hl 4 rfl) ?_
      refine lv_iload hx hb dX6_copy_138 (lv_at hl 3 rfl) ?_
      refine lv_icmp_ge (tgt := 171) hx hb dX6_copy_140 (by decide) (fun c140_15 => ?_) (fun c140_15 => ?_)
      · replace hf := if_t c140_15 hf
        obtain ⟨r2, e2⟩ := om_s hf
        replace hf := e2.1
        replace e2 := e2.2
        subst e2
        replace hF := elim_r hF
        refine lv_iconst (v := 1) hx hb dX6_copy_171 (by decide) ?_
        have e1 := Option.some.inj hf
        subst e1
        have hF : (((1 : Int32), w) : Int32 × Md) = out := hF
        subst hF
        exact k_iret C0 hW dX6_copy_172
      · replace hf := if_f c140_15 hf
        refine lv_aload_n hx hb dX6_copy_143 rfl (lv_at hl 0 rfl) ?_
        refine k_get C0 hW 6 6 0 (v := .ref (a (o + 3))) rfl (by decide) inX6 mf_X6_20 rfl rfl dX6_copy_144 ?_
        refine lv_bipush (v := 40) hx hb dX6_copy_147 (by decide) ?_
        refine lv_iload_n hx hb dX6_copy_149 rfl (lv_at hl 1 rfl) ?_
        refine lv_imul hx hb dX6_copy_150 ?_
        refine lv_iload hx hb dX6_copy_151 (lv_at hl 2 rfl) ?_
        refine lv_iadd hx hb dX6_copy_153 ?_
        refine lv_iload hx hb dX6_copy_154 (lv_at hl 4 rfl) ?_
        refine lv_iadd hx hb dX6_copy_156 ?_
        refine lv_aload_n hx hb dX6_copy_157 rfl (lv_at hl 0 rfl) ?_
        refine k_get C0 hW 6 7 0 (v := .ref (a (o + 4))) rfl (by decide) inX6 mf_X6_23 rfl rfl dX6_copy_158 ?_
        refine lv_iload hx hb dX6_copy_161 (lv_at hl 4 rfl) ?_
        have g163_16 := (gd_some hf).1; replace hf := (gd_some hf).2
        refine k_iald C0 hW 4 (ix x6) rfl (inb_in g163_16) rfl dX6_copy_163 ?_
        have g164_17 := (gd_some hf).1; replace hf := (gd_some hf).2
        refine k_iast C0 hW 3 (ix ((((40 : Int32) * x3) + x4) + x6)) rfl (inb_in g164_17) rfl dX6_copy_164 (fun H locs hW => ?_)
        have hW : Wd G A s.heap H (bMd G a o (md_set_rows w (upd (md_rows w) (ix ((((40 : Int32) * x3) + x4) + x6)) ((md_copied w) (ix x6))))) locs := hW
        refine lv_iinc (v := (x6 + (1 : Int32))) (lv' := [(6, .int (x6 + (1 : Int32))), (0, .ref (a o)), (3, .int x3), (4, .int x4), (5, .int x5)]) hx hb dX6_copy_165 hl (k := 4) rfl rfl (by decide) rfl (fun ls hl => ?_)
        refine lv_goto (tgt := 136) hx hb dX6_copy_168 (by decide) ?_
        have e1 := Option.some.inj hf
        subst e1
        exact (elim_l hF) _ _ _ hW (lv_sub hl [1, 2, 3, 4, 0] rfl)
    exact lp_sound (fun sg r hb hz => B136 sg.1 sg.2 r hb hz)
  have J133 : ∀ (w : Md) (r : Int32 × Md), f_X6_copy_J133 w x3 x4 x5 = some r → (fun (r : Int32 × Md) => r = out) r → ∀ (H : Heap) (locs : List Loc) (ls : Array Slot), Wd G A s.heap H (bMd G a o w) locs → lv_has ls 7 [(0, .ref (a o)), (3, .int x3), (4, .int x4), (5, .int x5)] → WW p l e 2 s m [.ref (a o), .int x1, .int x2, .int x3, .int x4, .int x5] below meth c G A (some (.int out.1)) ((bMd G a o out.2)) H locs 133 ls [] := by
    intro w r hf hF H locs ls hW hl
    unfold f_X6_copy_J133 at hf
    refine lv_iconst (v := 0) hx hb dX6_copy_133 (by decide) ?_
    refine lv_istore (lv' := [(6, .int (0 : Int32)), (0, .ref (a o)), (3, .int x3), (4, .int x4), (5, .int x5)]) hx hb dX6_copy_134 hl (by decide) rfl (fun ls hl => ?_)
    exact L136  fuel ((0 : Int32), w) _ hf hF _ _ _ hW (lv_sub hl [1, 2, 3, 4, 0] rfl)
  have L104 : ∀ (k8 : Nat) (sg : Int32 × Md) (o9 : Int32 × Md), lp (f_X6_copy_L104 x1 x2 x3 x4 x5) k8 sg = some o9 → (fun (r : Int32 × Md) => r = out) o9 → (fun (sg : Int32 × Md) => ∀ (H : Heap) (locs : List Loc) (ls : Array Slot), Wd G A s.heap H (bMd G a o sg.2) locs → lv_has ls 7 [(0, .ref (a o)), (1, .int x1), (2, .int x2), (3, .int x3), (4, .int x4), (5, .int x5), (6, .int sg.1)] → WW p l e 2 s m [.ref (a o), .int x1, .int x2, .int x3, .int x4, .int x5] below meth c G A (some (.int out.1)) ((bMd G a o out.2)) H locs 104 ls []) sg := by
    have B104 : ∀ (x6 : Int32) (w : Md) (r : (Int32 × Md) ⊕ (Int32 × Md)), f_X6_copy_B104 x1 x2 x3 x4 x5 x6 w = some r → (Sum.elim (fun (sg : Int32 × Md) => ∀ (H : Heap) (locs : List Loc) (ls : Array Slot), Wd G A s.heap H (bMd G a o sg.2) locs → lv_has ls 7 [(0, .ref (a o)), (1, .int x1), (2, .int x2), (3, .int x3), (4, .int x4), (5, .int x5), (6, .int sg.1)] → WW p l e 2 s m [.ref (a o), .int x1, .int x2, .int x3, .int x4, .int x5] below meth c G A (some (.int out.1)) ((bMd G a o out.2)) H locs 104 ls []) (fun (r : Int32 × Md) => r = out)) r → ∀ (H : Heap) (locs : List Loc) (ls : Array Slot), Wd G A s.heap H (bMd G a o w) locs → lv_has ls 7 [(0, .ref (a o)), (1, .int x1), (2, .int x2), (3, .int x3), (4, .int x4), (5, .int x5), (6, .int x6)] → WW p l e 2 s m [.ref (a o), .int x1, .int x2, .int x3, .int x4, .int x5] below meth c G A (some (.int out.1)) ((bMd G a o out.2)) H locs 104 ls [] := by
      intro x6 w r hf hF H locs ls hW hl
      unfold f_X6_copy_B104 at hf
      refine lv_iload hx hb dX6_copy_104 (lv_at hl 6 rfl) ?_
      refine lv_iload hx hb dX6_copy_106 (lv_at hl 5 rfl) ?_
      refine lv_icmp_ge (tgt := 133) hx hb dX6_copy_108 (by decide) (fun c108_14 => ?_) (fun c108_14 => ?_)
      · replace hf := if_t c108_14 hf
        obtain ⟨r2, e2⟩ := om_s hf
        replace hf := e2.1
        replace e2 := e2.2
        subst e2
        replace hF := elim_r hF
        exact J133 _ _ hf hF _ _ _ hW (lv_sub hl [0, 3, 4, 5] rfl)
      · replace hf := if_f c108_14 hf
        refine lv_aload_n hx hb dX6_copy_111 rfl (lv_at hl 0 rfl) ?_
        refine k_get C0 hW 6 7 0 (v := .ref (a (o + 4))) rfl (by decide) inX6 mf_X6_23 rfl rfl dX6_copy_112 ?_
        refine lv_iload hx hb dX6_copy_115 (lv_at hl 6 rfl) ?_
        refine lv_aload_n hx hb dX6_copy_117 rfl (lv_at hl 0 rfl) ?_
        refine lv_iload_n hx hb dX6_copy_118 rfl (lv_at hl 1 rfl) ?_
        refine lv_iload_n hx hb dX6_copy_119 rfl (lv_at hl 2 rfl) ?_
        refine lv_iload hx hb dX6_copy_120 (lv_at hl 6 rfl) ?_
        refine lv_iadd hx hb dX6_copy_122 ?_
        obtain ⟨q123, hq123⟩ := ob_s hf
        replace hf := hq123.2
        replace hq123 := hq123.1
        refine cW1 (rest := [.int x6, .ref (a (o + 4))]) (ws1 := (bMd G a o w)) (st1 := [.int q123, .int x6, .ref (a (o + 4))]) C0 hW hl.1 (c_X6_rowAt l G a o w x1 (x2 + x6) _ hq123) cb_X6_rowAt mm_X6_101 fst_Md 0 6 rfl rfl rfl (by decide) rfl rfl (Nat.le_of_ble_eq_true rfl) ⟨Nat.zero_le _, Nat.zero_le _⟩ dX6_copy_123 rfl (fun H locs hW => ?_)
        have g126_18 := (gd_some hf).1; replace hf := (gd_some hf).2
        refine k_iast C0 hW 4 (ix x6) rfl (inb_in g126_18) rfl dX6_copy_126 (fun H locs hW => ?_)
        have hW : Wd G A s.heap H (bMd G a o (md_set_copied w (upd (md_copied w) (ix x6) q123))) locs := hW
        refine lv_iinc (v := (x6 + (1 : Int32))) (lv' := [(6, .int (x6 + (1 : Int32))), (0, .ref (a o)), (1, .int x1), (2, .int x2), (3, .int x3), (4, .int x4), (5, .int x5)]) hx hb dX6_copy_127 hl (k := 6) rfl rfl (by decide) rfl (fun ls hl => ?_)
        refine lv_goto (tgt := 104) hx hb dX6_copy_130 (by decide) ?_
        have e1 := Option.some.inj hf
        subst e1
        exact (elim_l hF) _ _ _ hW (lv_sub hl [1, 2, 3, 4, 5, 6, 0] rfl)
    exact lp_sound (fun sg r hb hz => B104 sg.1 sg.2 r hb hz)
  obtain ⟨r, hr⟩ : ∃ r, f_X6_copy w x1 x2 x3 x4 x5 = some r ∧ r = out := ⟨out, hf, rfl⟩
  replace hf := hr.1
  have hF := hr.2
  clear hr
  unfold f_X6_copy at hf
  refine lv_iload_n hx hb dX6_copy_0 rfl (lv_at hl 1 rfl) ?_
  obtain ⟨q1, hq1⟩ := ob_s hf
  replace hf := hq1.2
  replace hq1 := hq1.1
  refine cS0 (rest := []) (st1 := [.int q1]) C0 hW hl.1 (c_X6_isRow l G x1 _ hq1) cb_X6_isRow mm_X6_93 [] rfl rfl (by decide) rfl rfl (Nat.le_of_ble_eq_true rfl) ⟨Nat.zero_le _, Nat.zero_le _⟩ dX6_copy_1 rfl (fun H locs hW => ?_)
  refine lv_if_eq (tgt := 14) hx hb dX6_copy_4 (by decide) (fun c4_1 => ?_) (fun c4_1 => ?_)
  · replace hf := if_t c4_1 hf
    refine lv_iconst (v := -1) hx hb dX6_copy_14 (by decide) ?_
    have e1 := Option.some.inj hf
    subst e1
    have hF : (((-1 : Int32), w) : Int32 × Md) = out := hF
    subst hF
    exact k_iret C0 hW dX6_copy_15
  · replace hf := if_f c4_1 hf
    refine lv_iload_n hx hb dX6_copy_7 rfl (lv_at hl 3 rfl) ?_
    obtain ⟨q8, hq8⟩ := ob_s hf
    replace hf := hq8.2
    replace hq8 := hq8.1
    refine cS0 (rest := []) (st1 := [.int q8]) C0 hW hl.1 (c_X6_isRow l G x3 _ hq8) cb_X6_isRow mm_X6_93 [] rfl rfl (by decide) rfl rfl (Nat.le_of_ble_eq_true rfl) ⟨Nat.zero_le _, Nat.zero_le _⟩ dX6_copy_8 rfl (fun H locs hW => ?_)
    refine lv_if_ne (tgt := 16) hx hb dX6_copy_11 (by decide) (fun c11_2 => ?_) (fun c11_2 => ?_)
    · replace hf := if_f c11_2 hf
      refine lv_iload hx hb dX6_copy_16 (lv_at hl 5 rfl) ?_
      refine lv_if_ge (tgt := 27) hx hb dX6_copy_18 (by decide) (fun c18_3 => ?_) (fun c18_3 => ?_)
      · replace hf := if_t c18_3 hf
        refine lv_aload_n hx hb dX6_copy_27 rfl (lv_at hl 0 rfl) ?_
        refine k_get C0 hW 6 5 0 (v := .ref (a (o + 2))) rfl (by decide) inX6 mf_X6_17 rfl rfl dX6_copy_28 ?_
        refine lv_iload_n hx hb dX6_copy_31 rfl (lv_at hl 1 rfl) ?_
        have g32_4 := (gd_some hf).1; replace hf := (gd_some hf).2
        refine k_iald C0 hW 2 (ix x1) rfl (inb_in g32_4) rfl dX6_copy_32 ?_
        refine lv_if_lt (tgt := 45) hx hb dX6_copy_33 (by decide) (fun c33_5 => ?_) (fun c33_5 => ?_)
        · replace hf := if_t c33_5 hf
          exact J45 _ _ hf hF _ _ _ hW (lv_sub hl [0] rfl)
        · replace hf := if_f c33_5 hf
          refine lv_aload_n hx hb dX6_copy_36 rfl (lv_at hl 0 rfl) ?_
          refine k_get C0 hW 6 5 0 (v := .ref (a (o + 2))) rfl (by decide) inX6 mf_X6_17 rfl rfl dX6_copy_37 ?_
          refine lv_iload_n hx hb dX6_copy_40 rfl (lv_at hl 3 rfl) ?_
          have g41_6 := (gd_some hf).1; replace hf := (gd_some hf).2
          refine k_iald C0 hW 2 (ix x3) rfl (inb_in g41_6) rfl dX6_copy_41 ?_
          refine lv_if_ge (tgt := 51) hx hb dX6_copy_42 (by decide) (fun c42_7 => ?_) (fun c42_7 => ?_)
          · replace hf := if_t c42_7 hf
            refine lv_iload_n hx hb dX6_copy_51 rfl (lv_at hl 2 rfl) ?_
            refine lv_if_lt (tgt := 95) hx hb dX6_copy_52 (by decide) (fun c52_8 => ?_) (fun c52_8 => ?_)
            · replace hf := if_t c52_8 hf
              exact J95 _ _ hf hF _ _ _ hW (lv_sub hl [0] rfl)
            · replace hf := if_f c52_8 hf
              refine lv_iload hx hb dX6_copy_55 (lv_at hl 4 rfl) ?_
              refine lv_if_lt (tgt := 95) hx hb dX6_copy_57 (by decide) (fun c57_9 => ?_) (fun c57_9 => ?_)
              · replace hf := if_t c57_9 hf
                exact J95 _ _ hf hF _ _ _ hW (lv_sub hl [0] rfl)
              · replace hf := if_f c57_9 hf
                refine lv_iload_n hx hb dX6_copy_60 rfl (lv_at hl 2 rfl) ?_
                refine lv_i2l (v := x2.toInt64) hx hb dX6_copy_61 rfl ?_
                refine lv_iload hx hb dX6_copy_62 (lv_at hl 5 rfl) ?_
                refine lv_i2l (v := x5.toInt64) hx hb dX6_copy_64 rfl ?_
                refine lv_ladd hx hb dX6_copy_65 ?_
                refine lv_aload_n hx hb dX6_copy_66 rfl (lv_at hl 0 rfl) ?_
                refine k_get C0 hW 6 5 0 (v := .ref (a (o + 2))) rfl (by decide) inX6 mf_X6_17 rfl rfl dX6_copy_67 ?_
                refine lv_iload_n hx hb dX6_copy_70 rfl (lv_at hl 1 rfl) ?_
                have g71_10 := (gd_some hf).1; replace hf := (gd_some hf).2
                refine k_iald C0 hW 2 (ix x1) rfl (inb_in g71_10) rfl dX6_copy_71 ?_
                refine lv_i2l (v := ((md_sizes w) (ix x1)).toInt64) hx hb dX6_copy_72 rfl ?_
                refine W.lcmp hx hb dX6_copy_73 ?_
                refine lv_if_gt (tgt := 95) hx hb dX6_copy_74 (by decide) (fun c74_11 => ?_) (fun c74_11 => ?_)
                · replace hf := if_t c74_11 hf
                  exact J95 _ _ hf hF _ _ _ hW (lv_sub hl [0] rfl)
                · replace hf := if_f c74_11 hf
                  refine lv_iload hx hb dX6_copy_77 (lv_at hl 4 rfl) ?_
                  refine lv_i2l (v := x4.toInt64) hx hb dX6_copy_79 rfl ?_
                  refine lv_iload hx hb dX6_copy_80 (lv_at hl 5 rfl) ?_
                  refine lv_i2l (v := x5.toInt64) hx hb dX6_copy_82 rfl ?_
                  refine lv_ladd hx hb dX6_copy_83 ?_
                  refine lv_aload_n hx hb dX6_copy_84 rfl (lv_at hl 0 rfl) ?_
                  refine k_get C0 hW 6 5 0 (v := .ref (a (o + 2))) rfl (by decide) inX6 mf_X6_17 rfl rfl dX6_copy_85 ?_
                  refine lv_iload_n hx hb dX6_copy_88 rfl (lv_at hl 3 rfl) ?_
                  have g89_12 := (gd_some hf).1; replace hf := (gd_some hf).2
                  refine k_iald C0 hW 2 (ix x3) rfl (inb_in g89_12) rfl dX6_copy_89 ?_
                  refine lv_i2l (v := ((md_sizes w) (ix x3)).toInt64) hx hb dX6_copy_90 rfl ?_
                  refine W.lcmp hx hb dX6_copy_91 ?_
                  refine lv_if_le (tgt := 101) hx hb dX6_copy_92 (by decide) (fun c92_13 => ?_) (fun c92_13 => ?_)
                  · replace hf := if_t c92_13 hf
                    refine lv_iconst (v := 0) hx hb dX6_copy_101 (by decide) ?_
                    refine lv_istore (lv' := [(6, .int (0 : Int32)), (0, .ref (a o)), (1, .int x1), (2, .int x2), (3, .int x3), (4, .int x4), (5, .int x5)]) hx hb dX6_copy_102 hl (by decide) rfl (fun ls hl => ?_)
                    exact L104  fuel ((0 : Int32), w) _ hf hF _ _ _ hW (lv_sub hl [1, 2, 3, 4, 5, 6, 0] rfl)
                  · replace hf := if_f c92_13 hf
                    exact J95 _ _ hf hF _ _ _ hW (lv_sub hl [0] rfl)
          · replace hf := if_f c42_7 hf
            exact J45 _ _ hf hF _ _ _ hW (lv_sub hl [0] rfl)
      · replace hf := if_f c18_3 hf
        refine lv_aload_n hx hb dX6_copy_21 rfl (lv_at hl 0 rfl) ?_
        refine lv_iconst (v := 5) hx hb dX6_copy_22 (by decide) ?_
        obtain ⟨q23, hq23⟩ := ob_s hf
        replace hf := hq23.2
        replace hq23 := hq23.1
        refine cW1 (rest := []) (ws1 := (bMd G a o q23.2)) (st1 := [.int q23.1]) C0 hW hl.1 (c_X6_meets l G a o w (5 : Int32) _ hq23) cb_X6_meets mm_X6_97 fst_Md 0 6 rfl rfl rfl (by decide) rfl rfl (Nat.le_of_ble_eq_true rfl) ⟨Nat.zero_le _, Nat.zero_le _⟩ dX6_copy_23 rfl (fun H locs hW => ?_)
        have e1 := Option.some.inj hf
        subst e1
        have hF : ((q23.1, q23.2) : Int32 × Md) = out := hF
        subst hF
        exact k_iret C0 hW dX6_copy_26
    · replace hf := if_t c11_2 hf
      refine lv_iconst (v := -1) hx hb dX6_copy_14 (by decide) ?_
      have e1 := Option.some.inj hf
      subst e1
      have hF : (((-1 : Int32), w) : Int32 × Md) = out := hF
      subst hF
      exact k_iret C0 hW dX6_copy_15

def f_X6_isOver_now_J48 (w : Md) (x3 : Int32) (t0 : Int32) : Option ((Int32 × Int32) ⊕ (Int32)) :=
  some (Sum.inl (t0, (x3 + (1 : Int32))))
def f_X6_isOver_now_J43 (w : Md) (x3 : Int32) : Option ((Int32 × Int32) ⊕ (Int32)) :=
  f_X6_isOver_now_J48 w x3 (1 : Int32)
def f_X6_isOver_now_J47 (w : Md) (x3 : Int32) : Option ((Int32 × Int32) ⊕ (Int32)) :=
  f_X6_isOver_now_J48 w x3 (0 : Int32)
def f_X6_isOver_now_B4 (w : Md) (x2 : Int32) (x3 : Int32) : Option ((Int32 × Int32) ⊕ (Int32)) :=
  if (md_n w) ≤ x3 then (Option.map Sum.inr (gd (isB x2) (some x2))) else (if x2 = 0 then (Option.bind (f_X6_has ((md_now w) 3) x3) (fun q20 => if q20 = 0 then (gd (decide (¬ (md_n w) = 0)) (Option.bind (f_X6_has ((md_now w) 3) (jrem (x3 + (1 : Int32)) (md_n w))) (fun q37 => if q37 = 0 then (f_X6_isOver_now_J43 w x3) else (f_X6_isOver_now_J47 w x3)))) else (f_X6_isOver_now_J47 w x3))) else (f_X6_isOver_now_J43 w x3))
def f_X6_isOver_now_L4 (w : Md) (sg : Int32 × Int32) : Option ((Int32 × Int32) ⊕ (Int32)) := f_X6_isOver_now_B4 w sg.1 sg.2
def f_X6_isOver_now (w : Md) : Option (Int32) :=
  lp (f_X6_isOver_now_L4 w) fuel ((0 : Int32), (0 : Int32))
set_option maxRecDepth 100000 in
set_option maxHeartbeats 1000000 in
theorem c_X6_isOver_now (l : Launch) (G : GG) (a : Nat → Nat) (o : Nat) (w : Md) (out : Int32) (hf : f_X6_isOver_now w = some out) : Cn l G 1 yX6_isOver cX6_isOver 4 (some .boolean) [.ref (a o), .ref (a (o + 15))] (bMd G a o w) (some (.int out)) (bMd G a o w) := by
  refine cn_start (by decide) (Nat.le_of_ble_eq_true rfl) ?_
  intro p e s m below meth c A ls C0 hW hl
  have hx := C0.1
  have hb := C0.2.1
  have hl : lv_has ls 4 [(0, .ref (a o)), (1, .ref (a (o + 15)))] := hl
  have L4 : ∀ (k8 : Nat) (sg : Int32 × Int32) (o9 : Int32), lp (f_X6_isOver_now_L4 w) k8 sg = some o9 → (fun (r : Int32) => r = out) o9 → (fun (sg : Int32 × Int32) => ∀ (H : Heap) (locs : List Loc) (ls : Array Slot), Wd G A s.heap H (bMd G a o w) locs → lv_has ls 4 [(0, .ref (a o)), (1, .ref (a (o + 15))), (2, .int sg.1), (3, .int sg.2)] → WW p l e 1 s m [.ref (a o), .ref (a (o + 15))] below meth c G A (some (.int out)) ((bMd G a o w)) H locs 4 ls []) sg := by
    have J48 : ∀ (x3 : Int32) (t0 : Int32) (r : (Int32 × Int32) ⊕ (Int32)), f_X6_isOver_now_J48 w x3 t0 = some r → (Sum.elim (fun (sg : Int32 × Int32) => ∀ (H : Heap) (locs : List Loc) (ls : Array Slot), Wd G A s.heap H (bMd G a o w) locs → lv_has ls 4 [(0, .ref (a o)), (1, .ref (a (o + 15))), (2, .int sg.1), (3, .int sg.2)] → WW p l e 1 s m [.ref (a o), .ref (a (o + 15))] below meth c G A (some (.int out)) ((bMd G a o w)) H locs 4 ls []) (fun (r : Int32) => r = out)) r → ∀ (H : Heap) (locs : List Loc) (ls : Array Slot), Wd G A s.heap H (bMd G a o w) locs → lv_has ls 4 [(0, .ref (a o)), (1, .ref (a (o + 15))), (3, .int x3)] → WW p l e 1 s m [.ref (a o), .ref (a (o + 15))] below meth c G A (some (.int out)) ((bMd G a o w)) H locs 48 ls [.int t0] := by
      intro x3 t0 r hf hF H locs ls hW hl
      unfold f_X6_isOver_now_J48 at hf
      refine lv_istore_n (lv' := [(2, .int t0), (0, .ref (a o)), (1, .ref (a (o + 15))), (3, .int x3)]) hx hb dX6_isOver_48 rfl hl (by decide) rfl (fun ls hl => ?_)
      refine lv_iinc (v := (x3 + (1 : Int32))) (lv' := [(3, .int (x3 + (1 : Int32))), (2, .int t0), (0, .ref (a o)), (1, .ref (a (o + 15)))]) hx hb dX6_isOver_49 hl (k := 3) rfl rfl (by decide) rfl (fun ls hl => ?_)
      refine lv_goto (tgt := 4) hx hb dX6_isOver_52 (by decide) ?_
      have e1 := Option.some.inj hf
      subst e1
      exact (elim_l hF) _ _ _ hW (lv_sub hl [2, 3, 1, 0] rfl)
    have J43 : ∀ (x3 : Int32) (r : (Int32 × Int32) ⊕ (Int32)), f_X6_isOver_now_J43 w x3 = some r → (Sum.elim (fun (sg : Int32 × Int32) => ∀ (H : Heap) (locs : List Loc) (ls : Array Slot), Wd G A s.heap H (bMd G a o w) locs → lv_has ls 4 [(0, .ref (a o)), (1, .ref (a (o + 15))), (2, .int sg.1), (3, .int sg.2)] → WW p l e 1 s m [.ref (a o), .ref (a (o + 15))] below meth c G A (some (.int out)) ((bMd G a o w)) H locs 4 ls []) (fun (r : Int32) => r = out)) r → ∀ (H : Heap) (locs : List Loc) (ls : Array Slot), Wd G A s.heap H (bMd G a o w) locs → lv_has ls 4 [(0, .ref (a o)), (1, .ref (a (o + 15))), (3, .int x3)] → WW p l e 1 s m [.ref (a o), .ref (a (o + 15))] below meth c G A (some (.int out)) ((bMd G a o w)) H locs 43 ls [] := by
      intro x3 r hf hF H locs ls hW hl
      unfold f_X6_isOver_now_J43 at hf
      refine lv_iconst (v := 1) hx hb dX6_isOver_43 (by decide) ?_
      refine lv_goto (tgt := 48) hx hb dX6_isOver_44 (by decide) ?_
      exact J48 _ _ _ hf hF _ _ _ hW (lv_sub hl [0, 1, 2] rfl)
    have J47 : ∀ (x3 : Int32) (r : (Int32 × Int32) ⊕ (Int32)), f_X6_isOver_now_J47 w x3 = some r → (Sum.elim (fun (sg : Int32 × Int32) => ∀ (H : Heap) (locs : List Loc) (ls : Array Slot), Wd G A s.heap H (bMd G a o w) locs → lv_has ls 4 [(0, .ref (a o)), (1, .ref (a (o + 15))), (2, .int sg.1), (3, .int sg.2)] → WW p l e 1 s m [.ref (a o), .ref (a (o + 15))] below meth c G A (some (.int out)) ((bMd G a o w)) H locs 4 ls []) (fun (r : Int32) => r = out)) r → ∀ (H : Heap) (locs : List Loc) (ls : Array Slot), Wd G A s.heap H (bMd G a o w) locs → lv_has ls 4 [(0, .ref (a o)), (1, .ref (a (o + 15))), (3, .int x3)] → WW p l e 1 s m [.ref (a o), .ref (a (o + 15))] below meth c G A (some (.int out)) ((bMd G a o w)) H locs 47 ls [] := by
      intro x3 r hf hF H locs ls hW hl
      unfold f_X6_isOver_now_J47 at hf
      refine lv_iconst (v := 0) hx hb dX6_isOver_47 (by decide) ?_
      exact J48 _ _ _ hf hF _ _ _ hW (lv_sub hl [0, 1, 2] rfl)
    have B4 : ∀ (x2 : Int32) (x3 : Int32) (r : (Int32 × Int32) ⊕ (Int32)), f_X6_isOver_now_B4 w x2 x3 = some r → (Sum.elim (fun (sg : Int32 × Int32) => ∀ (H : Heap) (locs : List Loc) (ls : Array Slot), Wd G A s.heap H (bMd G a o w) locs → lv_has ls 4 [(0, .ref (a o)), (1, .ref (a (o + 15))), (2, .int sg.1), (3, .int sg.2)] → WW p l e 1 s m [.ref (a o), .ref (a (o + 15))] below meth c G A (some (.int out)) ((bMd G a o w)) H locs 4 ls []) (fun (r : Int32) => r = out)) r → ∀ (H : Heap) (locs : List Loc) (ls : Array Slot), Wd G A s.heap H (bMd G a o w) locs → lv_has ls 4 [(0, .ref (a o)), (1, .ref (a (o + 15))), (2, .int x2), (3, .int x3)] → WW p l e 1 s m [.ref (a o), .ref (a (o + 15))] below meth c G A (some (.int out)) ((bMd G a o w)) H locs 4 ls [] := by
      intro x2 x3 r hf hF H locs ls hW hl
      unfold f_X6_isOver_now_B4 at hf
      refine lv_iload_n hx hb dX6_isOver_4 rfl (lv_at hl 3 rfl) ?_
      refine lv_aload_n hx hb dX6_isOver_5 rfl (lv_at hl 0 rfl) ?_
      refine k_get C0 hW 6 18 0 (v := .int (md_n w)) rfl (by decide) inX6 mf_X6_142 rfl rfl dX6_isOver_6 ?_
      refine lv_icmp_ge (tgt := 55) hx hb dX6_isOver_9 (by decide) (fun c9_1 => ?_) (fun c9_1 => ?_)
      · replace hf := if_t c9_1 hf
        obtain ⟨r2, e2⟩ := om_s hf
        replace hf := e2.1
        replace e2 := e2.2
        subst e2
        replace hF := elim_r hF
        refine lv_iload_n hx hb dX6_isOver_55 rfl (lv_at hl 2 rfl) ?_
        have g56_2 := (gd_some hf).1; replace hf := (gd_some hf).2
        have e1 := Option.some.inj hf
        subst e1
        have hF : (x2 : Int32) = out := hF
        subst hF
        exact k_zret C0 hW g56_2 dX6_isOver_56
      · replace hf := if_f c9_1 hf
        refine lv_iload_n hx hb dX6_isOver_12 rfl (lv_at hl 2 rfl) ?_
        refine lv_if_ne (tgt := 43) hx hb dX6_isOver_13 (by decide) (fun c13_3 => ?_) (fun c13_3 => ?_)
        · replace hf := if_f c13_3 hf
          exact J43 _ _ hf hF _ _ _ hW (lv_sub hl [0, 1, 3] rfl)
        · replace hf := if_t c13_3 hf
          refine lv_aload_n hx hb dX6_isOver_16 rfl (lv_at hl 1 rfl) ?_
          refine lv_iconst (v := 3) hx hb dX6_isOver_17 (by decide) ?_
          refine k_iald C0 hW 15 3 rfl (inb_in rfl) rfl dX6_isOver_18 ?_
          refine lv_iload_n hx hb dX6_isOver_19 rfl (lv_at hl 3 rfl) ?_
          obtain ⟨q20, hq20⟩ := ob_s hf
          replace hf := hq20.2
          replace hq20 := hq20.1
          refine cS0 (rest := []) (st1 := [.int q20]) C0 hW hl.1 (c_X6_has l G ((md_now w) 3) x3 _ hq20) cb_X6_has mm_X6_158 [] rfl rfl (by decide) rfl rfl (Nat.le_of_ble_eq_true rfl) ⟨Nat.zero_le _, Nat.zero_le _⟩ dX6_isOver_20 rfl (fun H locs hW => ?_)
          refine lv_if_ne (tgt := 47) hx hb dX6_isOver_23 (by decide) (fun c23_4 => ?_) (fun c23_4 => ?_)
          · replace hf := if_f c23_4 hf
            exact J47 _ _ hf hF _ _ _ hW (lv_sub hl [0, 1, 3] rfl)
          · replace hf := if_t c23_4 hf
            refine lv_aload_n hx hb dX6_isOver_26 rfl (lv_at hl 1 rfl) ?_
            refine lv_iconst (v := 3) hx hb dX6_isOver_27 (by decide) ?_
            refine k_iald C0 hW 15 3 rfl (inb_in rfl) rfl dX6_isOver_28 ?_
            refine lv_iload_n hx hb dX6_isOver_29 rfl (lv_at hl 3 rfl) ?_
            refine lv_iconst (v := 1) hx hb dX6_isOver_30 (by decide) ?_
            refine lv_iadd hx hb dX6_isOver_31 ?_
            refine lv_aload_n hx hb dX6_isOver_32 rfl (lv_at hl 0 rfl) ?_
            refine k_get C0 hW 6 18 0 (v := .int (md_n w)) rfl (by decide) inX6 mf_X6_142 rfl rfl dX6_isOver_33 ?_
            have g36_5 := (gd_some hf).1; replace hf := (gd_some hf).2
            refine lv_irem hx hb dX6_isOver_36 (of_decide_eq_true g36_5) ?_
            obtain ⟨q37, hq37⟩ := ob_s hf
            replace hf := hq37.2
            replace hq37 := hq37.1
            refine cS0 (rest := []) (st1 := [.int q37]) C0 hW hl.1 (c_X6_has l G ((md_now w) 3) (jrem (x3 + (1 : Int32)) (md_n w)) _ hq37) cb_X6_has mm_X6_158 [] rfl rfl (by decide) rfl rfl (Nat.le_of_ble_eq_true rfl) ⟨Nat.zero_le _, Nat.zero_le _⟩ dX6_isOver_37 rfl (fun H locs hW => ?_)
            refine lv_if_ne (tgt := 47) hx hb dX6_isOver_40 (by decide) (fun c40_6 => ?_) (fun c40_6 => ?_)
            · replace hf := if_f c40_6 hf
              exact J47 _ _ hf hF _ _ _ hW (lv_sub hl [0, 1, 3] rfl)
            · replace hf := if_t c40_6 hf
              exact J43 _ _ hf hF _ _ _ hW (lv_sub hl [0, 1, 3] rfl)
    exact lp_sound (fun sg r hb hz => B4 sg.1 sg.2 r hb hz)
  obtain ⟨r, hr⟩ : ∃ r, f_X6_isOver_now w = some r ∧ r = out := ⟨out, hf, rfl⟩
  replace hf := hr.1
  have hF := hr.2
  clear hr
  unfold f_X6_isOver_now at hf
  refine lv_iconst (v := 0) hx hb dX6_isOver_0 (by decide) ?_
  refine lv_istore_n (lv' := [(2, .int (0 : Int32)), (0, .ref (a o)), (1, .ref (a (o + 15)))]) hx hb dX6_isOver_1 rfl hl (by decide) rfl (fun ls hl => ?_)
  refine lv_iconst (v := 0) hx hb dX6_isOver_2 (by decide) ?_
  refine lv_istore_n (lv' := [(3, .int (0 : Int32)), (2, .int (0 : Int32)), (0, .ref (a o)), (1, .ref (a (o + 15)))]) hx hb dX6_isOver_3 rfl hl (by decide) rfl (fun ls hl => ?_)
  exact L4  fuel ((0 : Int32), (0 : Int32)) _ hf hF _ _ _ hW (lv_sub hl [2, 3, 1, 0] rfl)

def f_X6_isOf_J25  : Option (Int32) :=
  some (1 : Int32)
def f_X6_isOf_J15 (x0 : Int32) (x1 : Int32) : Option (Int32) :=
  if x1 = (4 : Int32) then (if x0 = (5 : Int32) then f_X6_isOf_J25 else (some (0 : Int32))) else (some (0 : Int32))
def f_X6_isOf (x0 : Int32) (x1 : Int32) : Option (Int32) :=
  if x0 = x1 then f_X6_isOf_J25 else (if x1 = (2 : Int32) then (if x0 = (3 : Int32) then f_X6_isOf_J25 else (f_X6_isOf_J15 x0 x1)) else (f_X6_isOf_J15 x0 x1))
set_option maxRecDepth 100000 in
set_option maxHeartbeats 1000000 in
theorem c_X6_isOf (l : Launch) (G : GG) (x0 : Int32) (x1 : Int32) (out : Int32) (hf : f_X6_isOf x0 x1 = some out) : Cn l G 0 yX6_isOf cX6_isOf 2 (some .boolean) [.int x0, .int x1] ([] : va_W) (some (.int out)) ([] : va_W) := by
  refine cn_start (by decide) (Nat.le_of_ble_eq_true rfl) ?_
  intro p e s m below meth c A ls C0 hW hl
  have hx := C0.1
  have hb := C0.2.1
  have hl : lv_has ls 2 [(0, .int x0), (1, .int x1)] := hl
  have J25 : ∀ (r : Int32), f_X6_isOf_J25 = some r → (fun (r : Int32) => r = out) r → ∀ (H : Heap) (locs : List Loc) (ls : Array Slot), Wd G A s.heap H ([] : va_W) locs → lv_has ls 2 [] → WW p l e 0 s m [.int x0, .int x1] below meth c G A (some (.int out)) (([] : va_W)) H locs 25 ls [] := by
    intro r hf hF H locs ls hW hl
    unfold f_X6_isOf_J25 at hf
    refine lv_iconst (v := 1) hx hb dX6_isOf_25 (by decide) ?_
    refine lv_goto (tgt := 30) hx hb dX6_isOf_26 (by decide) ?_
    have e1 := Option.some.inj hf
    subst e1
    have hF : ((1 : Int32) : Int32) = out := hF
    subst hF
    exact k_zret C0 hW rfl dX6_isOf_30
  have J15 : ∀ (r : Int32), f_X6_isOf_J15 x0 x1 = some r → (fun (r : Int32) => r = out) r → ∀ (H : Heap) (locs : List Loc) (ls : Array Slot), Wd G A s.heap H ([] : va_W) locs → lv_has ls 2 [(0, .int x0), (1, .int x1)] → WW p l e 0 s m [.int x0, .int x1] below meth c G A (some (.int out)) (([] : va_W)) H locs 15 ls [] := by
    intro r hf hF H locs ls hW hl
    unfold f_X6_isOf_J15 at hf
    refine lv_iload_n hx hb dX6_isOf_15 rfl (lv_at hl 1 rfl) ?_
    refine lv_iconst (v := 4) hx hb dX6_isOf_16 (by decide) ?_
    refine lv_icmp_ne (tgt := 29) hx hb dX6_isOf_17 (by decide) (fun c17_3 => ?_) (fun c17_3 => ?_)
    · replace hf := if_f c17_3 hf
      refine lv_iconst (v := 0) hx hb dX6_isOf_29 (by decide) ?_
      have e1 := Option.some.inj hf
      subst e1
      have hF : ((0 : Int32) : Int32) = out := hF
      subst hF
      exact k_zret C0 hW rfl dX6_isOf_30
    · replace hf := if_t c17_3 hf
      refine lv_iload_n hx hb dX6_isOf_20 rfl (lv_at hl 0 rfl) ?_
      refine lv_iconst (v := 5) hx hb dX6_isOf_21 (by decide) ?_
      refine lv_icmp_ne (tgt := 29) hx hb dX6_isOf_22 (by decide) (fun c22_4 => ?_) (fun c22_4 => ?_)
      · replace hf := if_f c22_4 hf
        refine lv_iconst (v := 0) hx hb dX6_isOf_29 (by decide) ?_
        have e1 := Option.some.inj hf
        subst e1
        have hF : ((0 : Int32) : Int32) = out := hF
        subst hF
        exact k_zret C0 hW rfl dX6_isOf_30
      · replace hf := if_t c22_4 hf
        exact J25  _ hf hF _ _ _ hW (lv_sub hl [] rfl)
  obtain ⟨r, hr⟩ : ∃ r, f_X6_isOf x0 x1 = some r ∧ r = out := ⟨out, hf, rfl⟩
  replace hf := hr.1
  have hF := hr.2
  clear hr
  unfold f_X6_isOf at hf
  refine lv_iload_n hx hb dX6_isOf_0 rfl (lv_at hl 0 rfl) ?_
  refine lv_iload_n hx hb dX6_isOf_1 rfl (lv_at hl 1 rfl) ?_
  refine lv_icmp_eq (tgt := 25) hx hb dX6_isOf_2 (by decide) (fun c2_1 => ?_) (fun c2_1 => ?_)
  · replace hf := if_t c2_1 hf
    exact J25  _ hf hF _ _ _ hW (lv_sub hl [] rfl)
  · replace hf := if_f c2_1 hf
    refine lv_iload_n hx hb dX6_isOf_5 rfl (lv_at hl 1 rfl) ?_
    refine lv_iconst (v := 2) hx hb dX6_isOf_6 (by decide) ?_
    refine lv_icmp_ne (tgt := 15) hx hb dX6_isOf_7 (by decide) (fun c7_2 => ?_) (fun c7_2 => ?_)
    · replace hf := if_f c7_2 hf
      exact J15  _ hf hF _ _ _ hW (lv_sub hl [0, 1] rfl)
    · replace hf := if_t c7_2 hf
      refine lv_iload_n hx hb dX6_isOf_10 rfl (lv_at hl 0 rfl) ?_
      refine lv_iconst (v := 3) hx hb dX6_isOf_11 (by decide) ?_
      refine lv_icmp_eq (tgt := 25) hx hb dX6_isOf_12 (by decide) (fun c12_5 => ?_) (fun c12_5 => ?_)
      · replace hf := if_t c12_5 hf
        exact J25  _ hf hF _ _ _ hW (lv_sub hl [] rfl)
      · replace hf := if_f c12_5 hf
        exact J15  _ hf hF _ _ _ hW (lv_sub hl [0, 1] rfl)

def f_X6_counted_J147 (w : Md) (x3 : Int32) (t0 : Int32) (t1 : Int32) : Option ((Int32 × Int32) ⊕ (Int32)) :=
  some (Sum.inl ((t0 + t1), (x3 + (1 : Int32))))
def f_X6_counted_B126 (w : Md) (x2 : Int32) (x3 : Int32) : Option ((Int32 × Int32) ⊕ (Int32)) :=
  if (6 : Int32) ≤ x3 then (Option.map Sum.inr (some x2)) else (gd (inb x3 6) (if ((md_sizes w) (ix x3)) < 0 then (f_X6_counted_J147 w x3 x2 (0 : Int32)) else (f_X6_counted_J147 w x3 x2 (1 : Int32))))
def f_X6_counted_L126 (w : Md) (sg : Int32 × Int32) : Option ((Int32 × Int32) ⊕ (Int32)) := f_X6_counted_B126 w sg.1 sg.2
def f_X6_counted_J179 (w : Md) (x3 : Int32) (t0 : Int32) (t1 : Int32) : Option ((Int32 × Int32) ⊕ (Int32)) :=
  some (Sum.inl ((t0 + t1), (x3 + (1 : Int32))))
def f_X6_counted_B159 (w : Md) (x2 : Int32) (x3 : Int32) : Option ((Int32 × Int32) ⊕ (Int32)) :=
  if (4 : Int32) ≤ x3 then (Option.map Sum.inr (some x2)) else (gd (inb x3 4) (if ((md_textSizes w) (ix x3)) < 0 then (f_X6_counted_J179 w x3 x2 (0 : Int32)) else (f_X6_counted_J179 w x3 x2 (1 : Int32))))
def f_X6_counted_L159 (w : Md) (sg : Int32 × Int32) : Option ((Int32 × Int32) ⊕ (Int32)) := f_X6_counted_B159 w sg.1 sg.2
def f_X6_counted_J211 (w : Md) (x3 : Int32) (t0 : Int32) (t1 : Int32) : Option ((Int32 × Int32) ⊕ (Int32)) :=
  some (Sum.inl ((t0 + t1), (x3 + (1 : Int32))))
def f_X6_counted_B191 (w : Md) (x2 : Int32) (x3 : Int32) : Option ((Int32 × Int32) ⊕ (Int32)) :=
  if (3 : Int32) ≤ x3 then (Option.map Sum.inr (some x2)) else (gd (inb x3 3) (if ((md_keptMany w) (ix x3)) < 0 then (f_X6_counted_J211 w x3 x2 (0 : Int32)) else (f_X6_counted_J211 w x3 x2 (1 : Int32))))
def f_X6_counted_L191 (w : Md) (sg : Int32 × Int32) : Option ((Int32 × Int32) ⊕ (Int32)) := f_X6_counted_B191 w sg.1 sg.2
def f_X6_counted_J255 (w : Md) (x3 : Int32) (t0 : Int32) (t1 : Int32) : Option ((Int32 × Int32) ⊕ (Int32)) :=
  some (Sum.inl ((t0 + t1), (x3 + (1 : Int32))))
def f_X6_counted_B223 (w : Md) (x2 : Int32) (x3 : Int32) : Option ((Int32 × Int32) ⊕ (Int32)) :=
  if (md_n w) ≤ x3 then (Option.map Sum.inr (some x2)) else (Option.bind (f_X6_has ((md_now w) 3) x3) (fun q239 => if q239 = 0 then (f_X6_counted_J255 w x3 x2 (0 : Int32)) else (gd (inb x3 8) (f_X6_counted_J255 w x3 x2 ((md_longs w) (ix x3))))))
def f_X6_counted_L223 (w : Md) (sg : Int32 × Int32) : Option ((Int32 × Int32) ⊕ (Int32)) := f_X6_counted_B223 w sg.1 sg.2
def f_X6_counted_J294 (w : Md) (x3 : Int32) (t0 : Int32) (t1 : Int32) : Option ((Int32 × Int32) ⊕ (Int32)) :=
  some (Sum.inl ((t0 + t1), (x3 + (1 : Int32))))
def f_X6_counted_B267 (w : Md) (x2 : Int32) (x3 : Int32) : Option ((Int32 × Int32) ⊕ (Int32)) :=
  if (md_n w) ≤ x3 then (Option.map Sum.inr (some x2)) else (gd (inb x3 8) (Option.bind (f_X6_isOf ((md_kinds w) (ix x3)) (4 : Int32)) (fun q283 => if q283 = 0 then (f_X6_counted_J294 w x3 x2 (0 : Int32)) else (f_X6_counted_J294 w x3 x2 (1 : Int32)))))
def f_X6_counted_L267 (w : Md) (sg : Int32 × Int32) : Option ((Int32 × Int32) ⊕ (Int32)) := f_X6_counted_B267 w sg.1 sg.2
def f_X6_counted (w : Md) (x1 : Int32) : Option (Int32) :=
  if x1 = 0 then (some (md_n w)) else if x1 = 1 then (some ((md_now w) 0)) else if x1 = 2 then (some (md_deedMany w)) else if x1 = 3 then (some ((md_now w) 1)) else if x1 = 4 then (some ((md_now w) 3)) else if x1 = 5 then (some ((md_now w) 2)) else if x1 = 6 then (Option.bind (f_X6_isOver_now w) (fun q107 => if q107 = 0 then (some (0 : Int32)) else (some (1 : Int32)))) else if x1 = 7 then (some (md_gateAt w)) else if x1 = 8 then (lp (f_X6_counted_L126 w) fuel ((0 : Int32), (0 : Int32))) else if x1 = 9 then (lp (f_X6_counted_L159 w) fuel ((0 : Int32), (0 : Int32))) else if x1 = 10 then (lp (f_X6_counted_L191 w) fuel ((0 : Int32), (0 : Int32))) else if x1 = 11 then (lp (f_X6_counted_L223 w) fuel ((0 : Int32), (0 : Int32))) else lp (f_X6_counted_L267 w) fuel ((0 : Int32), (0 : Int32))
set_option maxRecDepth 100000 in
set_option maxHeartbeats 1000000 in
theorem c_X6_counted (l : Launch) (G : GG) (a : Nat → Nat) (o : Nat) (w : Md) (x1 : Int32) (out : Int32) (hf : f_X6_counted w x1 = some out) : Cn l G 2 yX6_counted cX6_counted 4 (some .int) [.ref (a o), .int x1] (bMd G a o w) (some (.int out)) (bMd G a o w) := by
  refine cn_start (by decide) (Nat.le_of_ble_eq_true rfl) ?_
  intro p e s m below meth c A ls C0 hW hl
  have hx := C0.1
  have hb := C0.2.1
  have hl : lv_has ls 4 [(0, .ref (a o)), (1, .int x1)] := hl
  have L126 : ∀ (k8 : Nat) (sg : Int32 × Int32) (o9 : Int32), lp (f_X6_counted_L126 w) k8 sg = some o9 → (fun (r : Int32) => r = out) o9 → (fun (sg : Int32 × Int32) => ∀ (H : Heap) (locs : List Loc) (ls : Array Slot), Wd G A s.heap H (bMd G a o w) locs → lv_has ls 4 [(0, .ref (a o)), (2, .int sg.1), (3, .int sg.2)] → WW p l e 2 s m [.ref (a o), .int x1] below meth c G A (some (.int out)) ((bMd G a o w)) H locs 126 ls []) sg := by
    have J147 : ∀ (x3 : Int32) (t0 : Int32) (t1 : Int32) (r : (Int32 × Int32) ⊕ (Int32)), f_X6_counted_J147 w x3 t0 t1 = some r → (Sum.elim (fun (sg : Int32 × Int32) => ∀ (H : Heap) (locs : List Loc) (ls : Array Slot), Wd G A s.heap H (bMd G a o w) locs → lv_has ls 4 [(0, .ref (a o)), (2, .int sg.1), (3, .int sg.2)] → WW p l e 2 s m [.ref (a o), .int x1] below meth c G A (some (.int out)) ((bMd G a o w)) H locs 126 ls []) (fun (r : Int32) => r = out)) r → ∀ (H : Heap) (locs : List Loc) (ls : Array Slot), Wd G A s.heap H (bMd G a o w) locs → lv_has ls 4 [(0, .ref (a o)), (3, .int x3)] → WW p l e 2 s m [.ref (a o), .int x1] below meth c G A (some (.int out)) ((bMd G a o w)) H locs 147 ls [.int t1, .int t0] := by
      intro x3 t0 t1 r hf hF H locs ls hW hl
      unfold f_X6_counted_J147 at hf
      refine lv_iadd hx hb dX6_counted_147 ?_
      refine lv_istore_n (lv' := [(2, .int (t0 + t1)), (0, .ref (a o)), (3, .int x3)]) hx hb dX6_counted_148 rfl hl (by decide) rfl (fun ls hl => ?_)
      refine lv_iinc (v := (x3 + (1 : Int32))) (lv' := [(3, .int (x3 + (1 : Int32))), (2, .int (t0 + t1)), (0, .ref (a o))]) hx hb dX6_counted_149 hl (k := 2) rfl rfl (by decide) rfl (fun ls hl => ?_)
      refine lv_goto (tgt := 126) hx hb dX6_counted_152 (by decide) ?_
      have e1 := Option.some.inj hf
      subst e1
      exact (elim_l hF) _ _ _ hW (lv_sub hl [2, 1, 0] rfl)
    have B126 : ∀ (x2 : Int32) (x3 : Int32) (r : (Int32 × Int32) ⊕ (Int32)), f_X6_counted_B126 w x2 x3 = some r → (Sum.elim (fun (sg : Int32 × Int32) => ∀ (H : Heap) (locs : List Loc) (ls : Array Slot), Wd G A s.heap H (bMd G a o w) locs → lv_has ls 4 [(0, .ref (a o)), (2, .int sg.1), (3, .int sg.2)] → WW p l e 2 s m [.ref (a o), .int x1] below meth c G A (some (.int out)) ((bMd G a o w)) H locs 126 ls []) (fun (r : Int32) => r = out)) r → ∀ (H : Heap) (locs : List Loc) (ls : Array Slot), Wd G A s.heap H (bMd G a o w) locs → lv_has ls 4 [(0, .ref (a o)), (2, .int x2), (3, .int x3)] → WW p l e 2 s m [.ref (a o), .int x1] below meth c G A (some (.int out)) ((bMd G a o w)) H locs 126 ls [] := by
      intro x2 x3 r hf hF H locs ls hW hl
      unfold f_X6_counted_B126 at hf
      refine lv_iload_n hx hb dX6_counted_126 rfl (lv_at hl 2 rfl) ?_
      refine lv_bipush (v := 6) hx hb dX6_counted_127 (by decide) ?_
      refine lv_icmp_ge (tgt := 155) hx hb dX6_counted_129 (by decide) (fun c129_11 => ?_) (fun c129_11 => ?_)
      · replace hf := if_t c129_11 hf
        obtain ⟨r2, e2⟩ := om_s hf
        replace hf := e2.1
        replace e2 := e2.2
        subst e2
        replace hF := elim_r hF
        refine lv_iload_n hx hb dX6_counted_155 rfl (lv_at hl 1 rfl) ?_
        have e1 := Option.some.inj hf
        subst e1
        have hF : (x2 : Int32) = out := hF
        subst hF
        exact k_iret C0 hW dX6_counted_156
      · replace hf := if_f c129_11 hf
        refine lv_iload_n hx hb dX6_counted_132 rfl (lv_at hl 1 rfl) ?_
        refine lv_aload_n hx hb dX6_counted_133 rfl (lv_at hl 0 rfl) ?_
        refine k_get C0 hW 6 5 0 (v := .ref (a (o + 2))) rfl (by decide) inX6 mf_X6_17 rfl rfl dX6_counted_134 ?_
        refine lv_iload_n hx hb dX6_counted_137 rfl (lv_at hl 2 rfl) ?_
        have g138_12 := (gd_some hf).1; replace hf := (gd_some hf).2
        refine k_iald C0 hW 2 (ix x3) rfl (inb_in g138_12) rfl dX6_counted_138 ?_
        refine lv_if_lt (tgt := 146) hx hb dX6_counted_139 (by decide) (fun c139_13 => ?_) (fun c139_13 => ?_)
        · replace hf := if_t c139_13 hf
          refine lv_iconst (v := 0) hx hb dX6_counted_146 (by decide) ?_
          exact J147 _ _ _ _ hf hF _ _ _ hW (lv_sub hl [0, 2] rfl)
        · replace hf := if_f c139_13 hf
          refine lv_iconst (v := 1) hx hb dX6_counted_142 (by decide) ?_
          refine lv_goto (tgt := 147) hx hb dX6_counted_143 (by decide) ?_
          exact J147 _ _ _ _ hf hF _ _ _ hW (lv_sub hl [0, 2] rfl)
    exact lp_sound (fun sg r hb hz => B126 sg.1 sg.2 r hb hz)
  have L159 : ∀ (k8 : Nat) (sg : Int32 × Int32) (o9 : Int32), lp (f_X6_counted_L159 w) k8 sg = some o9 → (fun (r : Int32) => r = out) o9 → (fun (sg : Int32 × Int32) => ∀ (H : Heap) (locs : List Loc) (ls : Array Slot), Wd G A s.heap H (bMd G a o w) locs → lv_has ls 4 [(0, .ref (a o)), (2, .int sg.1), (3, .int sg.2)] → WW p l e 2 s m [.ref (a o), .int x1] below meth c G A (some (.int out)) ((bMd G a o w)) H locs 159 ls []) sg := by
    have J179 : ∀ (x3 : Int32) (t0 : Int32) (t1 : Int32) (r : (Int32 × Int32) ⊕ (Int32)), f_X6_counted_J179 w x3 t0 t1 = some r → (Sum.elim (fun (sg : Int32 × Int32) => ∀ (H : Heap) (locs : List Loc) (ls : Array Slot), Wd G A s.heap H (bMd G a o w) locs → lv_has ls 4 [(0, .ref (a o)), (2, .int sg.1), (3, .int sg.2)] → WW p l e 2 s m [.ref (a o), .int x1] below meth c G A (some (.int out)) ((bMd G a o w)) H locs 159 ls []) (fun (r : Int32) => r = out)) r → ∀ (H : Heap) (locs : List Loc) (ls : Array Slot), Wd G A s.heap H (bMd G a o w) locs → lv_has ls 4 [(0, .ref (a o)), (3, .int x3)] → WW p l e 2 s m [.ref (a o), .int x1] below meth c G A (some (.int out)) ((bMd G a o w)) H locs 179 ls [.int t1, .int t0] := by
      intro x3 t0 t1 r hf hF H locs ls hW hl
      unfold f_X6_counted_J179 at hf
      refine lv_iadd hx hb dX6_counted_179 ?_
      refine lv_istore_n (lv' := [(2, .int (t0 + t1)), (0, .ref (a o)), (3, .int x3)]) hx hb dX6_counted_180 rfl hl (by decide) rfl (fun ls hl => ?_)
      refine lv_iinc (v := (x3 + (1 : Int32))) (lv' := [(3, .int (x3 + (1 : Int32))), (2, .int (t0 + t1)), (0, .ref (a o))]) hx hb dX6_counted_181 hl (k := 2) rfl rfl (by decide) rfl (fun ls hl => ?_)
      refine lv_goto (tgt := 159) hx hb dX6_counted_184 (by decide) ?_
      have e1 := Option.some.inj hf
      subst e1
      exact (elim_l hF) _ _ _ hW (lv_sub hl [2, 1, 0] rfl)
    have B159 : ∀ (x2 : Int32) (x3 : Int32) (r : (Int32 × Int32) ⊕ (Int32)), f_X6_counted_B159 w x2 x3 = some r → (Sum.elim (fun (sg : Int32 × Int32) => ∀ (H : Heap) (locs : List Loc) (ls : Array Slot), Wd G A s.heap H (bMd G a o w) locs → lv_has ls 4 [(0, .ref (a o)), (2, .int sg.1), (3, .int sg.2)] → WW p l e 2 s m [.ref (a o), .int x1] below meth c G A (some (.int out)) ((bMd G a o w)) H locs 159 ls []) (fun (r : Int32) => r = out)) r → ∀ (H : Heap) (locs : List Loc) (ls : Array Slot), Wd G A s.heap H (bMd G a o w) locs → lv_has ls 4 [(0, .ref (a o)), (2, .int x2), (3, .int x3)] → WW p l e 2 s m [.ref (a o), .int x1] below meth c G A (some (.int out)) ((bMd G a o w)) H locs 159 ls [] := by
      intro x2 x3 r hf hF H locs ls hW hl
      unfold f_X6_counted_B159 at hf
      refine lv_iload_n hx hb dX6_counted_159 rfl (lv_at hl 2 rfl) ?_
      refine lv_iconst (v := 4) hx hb dX6_counted_160 (by decide) ?_
      refine lv_icmp_ge (tgt := 187) hx hb dX6_counted_161 (by decide) (fun c161_15 => ?_) (fun c161_15 => ?_)
      · replace hf := if_t c161_15 hf
        obtain ⟨r2, e2⟩ := om_s hf
        replace hf := e2.1
        replace e2 := e2.2
        subst e2
        replace hF := elim_r hF
        refine lv_iload_n hx hb dX6_counted_187 rfl (lv_at hl 1 rfl) ?_
        have e1 := Option.some.inj hf
        subst e1
        have hF : (x2 : Int32) = out := hF
        subst hF
        exact k_iret C0 hW dX6_counted_188
      · replace hf := if_f c161_15 hf
        refine lv_iload_n hx hb dX6_counted_164 rfl (lv_at hl 1 rfl) ?_
        refine lv_aload_n hx hb dX6_counted_165 rfl (lv_at hl 0 rfl) ?_
        refine k_get C0 hW 6 8 0 (v := .ref (a (o + 5))) rfl (by decide) inX6 mf_X6_26 rfl rfl dX6_counted_166 ?_
        refine lv_iload_n hx hb dX6_counted_169 rfl (lv_at hl 2 rfl) ?_
        have g170_16 := (gd_some hf).1; replace hf := (gd_some hf).2
        refine k_iald C0 hW 5 (ix x3) rfl (inb_in g170_16) rfl dX6_counted_170 ?_
        refine lv_if_lt (tgt := 178) hx hb dX6_counted_171 (by decide) (fun c171_17 => ?_) (fun c171_17 => ?_)
        · replace hf := if_t c171_17 hf
          refine lv_iconst (v := 0) hx hb dX6_counted_178 (by decide) ?_
          exact J179 _ _ _ _ hf hF _ _ _ hW (lv_sub hl [0, 2] rfl)
        · replace hf := if_f c171_17 hf
          refine lv_iconst (v := 1) hx hb dX6_counted_174 (by decide) ?_
          refine lv_goto (tgt := 179) hx hb dX6_counted_175 (by decide) ?_
          exact J179 _ _ _ _ hf hF _ _ _ hW (lv_sub hl [0, 2] rfl)
    exact lp_sound (fun sg r hb hz => B159 sg.1 sg.2 r hb hz)
  have L191 : ∀ (k8 : Nat) (sg : Int32 × Int32) (o9 : Int32), lp (f_X6_counted_L191 w) k8 sg = some o9 → (fun (r : Int32) => r = out) o9 → (fun (sg : Int32 × Int32) => ∀ (H : Heap) (locs : List Loc) (ls : Array Slot), Wd G A s.heap H (bMd G a o w) locs → lv_has ls 4 [(0, .ref (a o)), (2, .int sg.1), (3, .int sg.2)] → WW p l e 2 s m [.ref (a o), .int x1] below meth c G A (some (.int out)) ((bMd G a o w)) H locs 191 ls []) sg := by
    have J211 : ∀ (x3 : Int32) (t0 : Int32) (t1 : Int32) (r : (Int32 × Int32) ⊕ (Int32)), f_X6_counted_J211 w x3 t0 t1 = some r → (Sum.elim (fun (sg : Int32 × Int32) => ∀ (H : Heap) (locs : List Loc) (ls : Array Slot), Wd G A s.heap H (bMd G a o w) locs → lv_has ls 4 [(0, .ref (a o)), (2, .int sg.1), (3, .int sg.2)] → WW p l e 2 s m [.ref (a o), .int x1] below meth c G A (some (.int out)) ((bMd G a o w)) H locs 191 ls []) (fun (r : Int32) => r = out)) r → ∀ (H : Heap) (locs : List Loc) (ls : Array Slot), Wd G A s.heap H (bMd G a o w) locs → lv_has ls 4 [(0, .ref (a o)), (3, .int x3)] → WW p l e 2 s m [.ref (a o), .int x1] below meth c G A (some (.int out)) ((bMd G a o w)) H locs 211 ls [.int t1, .int t0] := by
      intro x3 t0 t1 r hf hF H locs ls hW hl
      unfold f_X6_counted_J211 at hf
      refine lv_iadd hx hb dX6_counted_211 ?_
      refine lv_istore_n (lv' := [(2, .int (t0 + t1)), (0, .ref (a o)), (3, .int x3)]) hx hb dX6_counted_212 rfl hl (by decide) rfl (fun ls hl => ?_)
      refine lv_iinc (v := (x3 + (1 : Int32))) (lv' := [(3, .int (x3 + (1 : Int32))), (2, .int (t0 + t1)), (0, .ref (a o))]) hx hb dX6_counted_213 hl (k := 2) rfl rfl (by decide) rfl (fun ls hl => ?_)
      refine lv_goto (tgt := 191) hx hb dX6_counted_216 (by decide) ?_
      have e1 := Option.some.inj hf
      subst e1
      exact (elim_l hF) _ _ _ hW (lv_sub hl [2, 1, 0] rfl)
    have B191 : ∀ (x2 : Int32) (x3 : Int32) (r : (Int32 × Int32) ⊕ (Int32)), f_X6_counted_B191 w x2 x3 = some r → (Sum.elim (fun (sg : Int32 × Int32) => ∀ (H : Heap) (locs : List Loc) (ls : Array Slot), Wd G A s.heap H (bMd G a o w) locs → lv_has ls 4 [(0, .ref (a o)), (2, .int sg.1), (3, .int sg.2)] → WW p l e 2 s m [.ref (a o), .int x1] below meth c G A (some (.int out)) ((bMd G a o w)) H locs 191 ls []) (fun (r : Int32) => r = out)) r → ∀ (H : Heap) (locs : List Loc) (ls : Array Slot), Wd G A s.heap H (bMd G a o w) locs → lv_has ls 4 [(0, .ref (a o)), (2, .int x2), (3, .int x3)] → WW p l e 2 s m [.ref (a o), .int x1] below meth c G A (some (.int out)) ((bMd G a o w)) H locs 191 ls [] := by
      intro x2 x3 r hf hF H locs ls hW hl
      unfold f_X6_counted_B191 at hf
      refine lv_iload_n hx hb dX6_counted_191 rfl (lv_at hl 2 rfl) ?_
      refine lv_iconst (v := 3) hx hb dX6_counted_192 (by decide) ?_
      refine lv_icmp_ge (tgt := 219) hx hb dX6_counted_193 (by decide) (fun c193_19 => ?_) (fun c193_19 => ?_)
      · replace hf := if_t c193_19 hf
        obtain ⟨r2, e2⟩ := om_s hf
        replace hf := e2.1
        replace e2 := e2.2
        subst e2
        replace hF := elim_r hF
        refine lv_iload_n hx hb dX6_counted_219 rfl (lv_at hl 1 rfl) ?_
        have e1 := Option.some.inj hf
        subst e1
        have hF : (x2 : Int32) = out := hF
        subst hF
        exact k_iret C0 hW dX6_counted_220
      · replace hf := if_f c193_19 hf
        refine lv_iload_n hx hb dX6_counted_196 rfl (lv_at hl 1 rfl) ?_
        refine lv_aload_n hx hb dX6_counted_197 rfl (lv_at hl 0 rfl) ?_
        refine k_get C0 hW 6 28 0 (v := .ref (a (o + 18))) rfl (by decide) inX6 mf_X6_66 rfl rfl dX6_counted_198 ?_
        refine lv_iload_n hx hb dX6_counted_201 rfl (lv_at hl 2 rfl) ?_
        have g202_20 := (gd_some hf).1; replace hf := (gd_some hf).2
        refine k_iald C0 hW 18 (ix x3) rfl (inb_in g202_20) rfl dX6_counted_202 ?_
        refine lv_if_lt (tgt := 210) hx hb dX6_counted_203 (by decide) (fun c203_21 => ?_) (fun c203_21 => ?_)
        · replace hf := if_t c203_21 hf
          refine lv_iconst (v := 0) hx hb dX6_counted_210 (by decide) ?_
          exact J211 _ _ _ _ hf hF _ _ _ hW (lv_sub hl [0, 2] rfl)
        · replace hf := if_f c203_21 hf
          refine lv_iconst (v := 1) hx hb dX6_counted_206 (by decide) ?_
          refine lv_goto (tgt := 211) hx hb dX6_counted_207 (by decide) ?_
          exact J211 _ _ _ _ hf hF _ _ _ hW (lv_sub hl [0, 2] rfl)
    exact lp_sound (fun sg r hb hz => B191 sg.1 sg.2 r hb hz)
  have L223 : ∀ (k8 : Nat) (sg : Int32 × Int32) (o9 : Int32), lp (f_X6_counted_L223 w) k8 sg = some o9 → (fun (r : Int32) => r = out) o9 → (fun (sg : Int32 × Int32) => ∀ (H : Heap) (locs : List Loc) (ls : Array Slot), Wd G A s.heap H (bMd G a o w) locs → lv_has ls 4 [(0, .ref (a o)), (2, .int sg.1), (3, .int sg.2)] → WW p l e 2 s m [.ref (a o), .int x1] below meth c G A (some (.int out)) ((bMd G a o w)) H locs 223 ls []) sg := by
    have J255 : ∀ (x3 : Int32) (t0 : Int32) (t1 : Int32) (r : (Int32 × Int32) ⊕ (Int32)), f_X6_counted_J255 w x3 t0 t1 = some r → (Sum.elim (fun (sg : Int32 × Int32) => ∀ (H : Heap) (locs : List Loc) (ls : Array Slot), Wd G A s.heap H (bMd G a o w) locs → lv_has ls 4 [(0, .ref (a o)), (2, .int sg.1), (3, .int sg.2)] → WW p l e 2 s m [.ref (a o), .int x1] below meth c G A (some (.int out)) ((bMd G a o w)) H locs 223 ls []) (fun (r : Int32) => r = out)) r → ∀ (H : Heap) (locs : List Loc) (ls : Array Slot), Wd G A s.heap H (bMd G a o w) locs → lv_has ls 4 [(0, .ref (a o)), (3, .int x3)] → WW p l e 2 s m [.ref (a o), .int x1] below meth c G A (some (.int out)) ((bMd G a o w)) H locs 255 ls [.int t1, .int t0] := by
      intro x3 t0 t1 r hf hF H locs ls hW hl
      unfold f_X6_counted_J255 at hf
      refine lv_iadd hx hb dX6_counted_255 ?_
      refine lv_istore_n (lv' := [(2, .int (t0 + t1)), (0, .ref (a o)), (3, .int x3)]) hx hb dX6_counted_256 rfl hl (by decide) rfl (fun ls hl => ?_)
      refine lv_iinc (v := (x3 + (1 : Int32))) (lv' := [(3, .int (x3 + (1 : Int32))), (2, .int (t0 + t1)), (0, .ref (a o))]) hx hb dX6_counted_257 hl (k := 2) rfl rfl (by decide) rfl (fun ls hl => ?_)
      refine lv_goto (tgt := 223) hx hb dX6_counted_260 (by decide) ?_
      have e1 := Option.some.inj hf
      subst e1
      exact (elim_l hF) _ _ _ hW (lv_sub hl [2, 1, 0] rfl)
    have B223 : ∀ (x2 : Int32) (x3 : Int32) (r : (Int32 × Int32) ⊕ (Int32)), f_X6_counted_B223 w x2 x3 = some r → (Sum.elim (fun (sg : Int32 × Int32) => ∀ (H : Heap) (locs : List Loc) (ls : Array Slot), Wd G A s.heap H (bMd G a o w) locs → lv_has ls 4 [(0, .ref (a o)), (2, .int sg.1), (3, .int sg.2)] → WW p l e 2 s m [.ref (a o), .int x1] below meth c G A (some (.int out)) ((bMd G a o w)) H locs 223 ls []) (fun (r : Int32) => r = out)) r → ∀ (H : Heap) (locs : List Loc) (ls : Array Slot), Wd G A s.heap H (bMd G a o w) locs → lv_has ls 4 [(0, .ref (a o)), (2, .int x2), (3, .int x3)] → WW p l e 2 s m [.ref (a o), .int x1] below meth c G A (some (.int out)) ((bMd G a o w)) H locs 223 ls [] := by
      intro x2 x3 r hf hF H locs ls hW hl
      unfold f_X6_counted_B223 at hf
      refine lv_iload_n hx hb dX6_counted_223 rfl (lv_at hl 2 rfl) ?_
      refine lv_aload_n hx hb dX6_counted_224 rfl (lv_at hl 0 rfl) ?_
      refine k_get C0 hW 6 18 0 (v := .int (md_n w)) rfl (by decide) inX6 mf_X6_142 rfl rfl dX6_counted_225 ?_
      refine lv_icmp_ge (tgt := 263) hx hb dX6_counted_228 (by decide) (fun c228_23 => ?_) (fun c228_23 => ?_)
      · replace hf := if_t c228_23 hf
        obtain ⟨r2, e2⟩ := om_s hf
        replace hf := e2.1
        replace e2 := e2.2
        subst e2
        replace hF := elim_r hF
        refine lv_iload_n hx hb dX6_counted_263 rfl (lv_at hl 1 rfl) ?_
        have e1 := Option.some.inj hf
        subst e1
        have hF : (x2 : Int32) = out := hF
        subst hF
        exact k_iret C0 hW dX6_counted_264
      · replace hf := if_f c228_23 hf
        refine lv_iload_n hx hb dX6_counted_231 rfl (lv_at hl 1 rfl) ?_
        refine lv_aload_n hx hb dX6_counted_232 rfl (lv_at hl 0 rfl) ?_
        refine k_get C0 hW 6 24 0 (v := .ref (a (o + 15))) rfl (by decide) inX6 mf_X6_57 rfl rfl dX6_counted_233 ?_
        refine lv_iconst (v := 3) hx hb dX6_counted_236 (by decide) ?_
        refine k_iald C0 hW 15 3 rfl (inb_in rfl) rfl dX6_counted_237 ?_
        refine lv_iload_n hx hb dX6_counted_238 rfl (lv_at hl 2 rfl) ?_
        obtain ⟨q239, hq239⟩ := ob_s hf
        replace hf := hq239.2
        replace hq239 := hq239.1
        refine cS0 (rest := [.int x2]) (st1 := [.int q239, .int x2]) C0 hW hl.1 (c_X6_has l G ((md_now w) 3) x3 _ hq239) cb_X6_has mm_X6_158 [] rfl rfl (by decide) rfl rfl (Nat.le_of_ble_eq_true rfl) ⟨Nat.zero_le _, Nat.zero_le _⟩ dX6_counted_239 rfl (fun H locs hW => ?_)
        refine lv_if_eq (tgt := 254) hx hb dX6_counted_242 (by decide) (fun c242_24 => ?_) (fun c242_24 => ?_)
        · replace hf := if_t c242_24 hf
          refine lv_iconst (v := 0) hx hb dX6_counted_254 (by decide) ?_
          exact J255 _ _ _ _ hf hF _ _ _ hW (lv_sub hl [0, 2] rfl)
        · replace hf := if_f c242_24 hf
          refine lv_aload_n hx hb dX6_counted_245 rfl (lv_at hl 0 rfl) ?_
          refine k_get C0 hW 6 22 0 (v := .ref (a (o + 13))) rfl (by decide) inX6 mf_X6_51 rfl rfl dX6_counted_246 ?_
          refine lv_iload_n hx hb dX6_counted_249 rfl (lv_at hl 2 rfl) ?_
          have g250_25 := (gd_some hf).1; replace hf := (gd_some hf).2
          refine k_iald C0 hW 13 (ix x3) rfl (inb_in g250_25) rfl dX6_counted_250 ?_
          refine lv_goto (tgt := 255) hx hb dX6_counted_251 (by decide) ?_
          exact J255 _ _ _ _ hf hF _ _ _ hW (lv_sub hl [0, 2] rfl)
    exact lp_sound (fun sg r hb hz => B223 sg.1 sg.2 r hb hz)
  have L267 : ∀ (k8 : Nat) (sg : Int32 × Int32) (o9 : Int32), lp (f_X6_counted_L267 w) k8 sg = some o9 → (fun (r : Int32) => r = out) o9 → (fun (sg : Int32 × Int32) => ∀ (H : Heap) (locs : List Loc) (ls : Array Slot), Wd G A s.heap H (bMd G a o w) locs → lv_has ls 4 [(0, .ref (a o)), (2, .int sg.1), (3, .int sg.2)] → WW p l e 2 s m [.ref (a o), .int x1] below meth c G A (some (.int out)) ((bMd G a o w)) H locs 267 ls []) sg := by
    have J294 : ∀ (x3 : Int32) (t0 : Int32) (t1 : Int32) (r : (Int32 × Int32) ⊕ (Int32)), f_X6_counted_J294 w x3 t0 t1 = some r → (Sum.elim (fun (sg : Int32 × Int32) => ∀ (H : Heap) (locs : List Loc) (ls : Array Slot), Wd G A s.heap H (bMd G a o w) locs → lv_has ls 4 [(0, .ref (a o)), (2, .int sg.1), (3, .int sg.2)] → WW p l e 2 s m [.ref (a o), .int x1] below meth c G A (some (.int out)) ((bMd G a o w)) H locs 267 ls []) (fun (r : Int32) => r = out)) r → ∀ (H : Heap) (locs : List Loc) (ls : Array Slot), Wd G A s.heap H (bMd G a o w) locs → lv_has ls 4 [(0, .ref (a o)), (3, .int x3)] → WW p l e 2 s m [.ref (a o), .int x1] below meth c G A (some (.int out)) ((bMd G a o w)) H locs 294 ls [.int t1, .int t0] := by
      intro x3 t0 t1 r hf hF H locs ls hW hl
      unfold f_X6_counted_J294 at hf
      refine lv_iadd hx hb dX6_counted_294 ?_
      refine lv_istore_n (lv' := [(2, .int (t0 + t1)), (0, .ref (a o)), (3, .int x3)]) hx hb dX6_counted_295 rfl hl (by decide) rfl (fun ls hl => ?_)
      refine lv_iinc (v := (x3 + (1 : Int32))) (lv' := [(3, .int (x3 + (1 : Int32))), (2, .int (t0 + t1)), (0, .ref (a o))]) hx hb dX6_counted_296 hl (k := 2) rfl rfl (by decide) rfl (fun ls hl => ?_)
      refine lv_goto (tgt := 267) hx hb dX6_counted_299 (by decide) ?_
      have e1 := Option.some.inj hf
      subst e1
      exact (elim_l hF) _ _ _ hW (lv_sub hl [2, 1, 0] rfl)
    have B267 : ∀ (x2 : Int32) (x3 : Int32) (r : (Int32 × Int32) ⊕ (Int32)), f_X6_counted_B267 w x2 x3 = some r → (Sum.elim (fun (sg : Int32 × Int32) => ∀ (H : Heap) (locs : List Loc) (ls : Array Slot), Wd G A s.heap H (bMd G a o w) locs → lv_has ls 4 [(0, .ref (a o)), (2, .int sg.1), (3, .int sg.2)] → WW p l e 2 s m [.ref (a o), .int x1] below meth c G A (some (.int out)) ((bMd G a o w)) H locs 267 ls []) (fun (r : Int32) => r = out)) r → ∀ (H : Heap) (locs : List Loc) (ls : Array Slot), Wd G A s.heap H (bMd G a o w) locs → lv_has ls 4 [(0, .ref (a o)), (2, .int x2), (3, .int x3)] → WW p l e 2 s m [.ref (a o), .int x1] below meth c G A (some (.int out)) ((bMd G a o w)) H locs 267 ls [] := by
      intro x2 x3 r hf hF H locs ls hW hl
      unfold f_X6_counted_B267 at hf
      refine lv_iload_n hx hb dX6_counted_267 rfl (lv_at hl 2 rfl) ?_
      refine lv_aload_n hx hb dX6_counted_268 rfl (lv_at hl 0 rfl) ?_
      refine k_get C0 hW 6 18 0 (v := .int (md_n w)) rfl (by decide) inX6 mf_X6_142 rfl rfl dX6_counted_269 ?_
      refine lv_icmp_ge (tgt := 302) hx hb dX6_counted_272 (by decide) (fun c272_26 => ?_) (fun c272_26 => ?_)
      · replace hf := if_t c272_26 hf
        obtain ⟨r2, e2⟩ := om_s hf
        replace hf := e2.1
        replace e2 := e2.2
        subst e2
        replace hF := elim_r hF
        refine lv_iload_n hx hb dX6_counted_302 rfl (lv_at hl 1 rfl) ?_
        have e1 := Option.some.inj hf
        subst e1
        have hF : (x2 : Int32) = out := hF
        subst hF
        exact k_iret C0 hW dX6_counted_303
      · replace hf := if_f c272_26 hf
        refine lv_iload_n hx hb dX6_counted_275 rfl (lv_at hl 1 rfl) ?_
        refine lv_aload_n hx hb dX6_counted_276 rfl (lv_at hl 0 rfl) ?_
        refine k_get C0 hW 6 21 0 (v := .ref (a (o + 12))) rfl (by decide) inX6 mf_X6_48 rfl rfl dX6_counted_277 ?_
        refine lv_iload_n hx hb dX6_counted_280 rfl (lv_at hl 2 rfl) ?_
        have g281_27 := (gd_some hf).1; replace hf := (gd_some hf).2
        refine k_iald C0 hW 12 (ix x3) rfl (inb_in g281_27) rfl dX6_counted_281 ?_
        refine lv_iconst (v := 4) hx hb dX6_counted_282 (by decide) ?_
        obtain ⟨q283, hq283⟩ := ob_s hf
        replace hf := hq283.2
        replace hq283 := hq283.1
        refine cS0 (rest := [.int x2]) (st1 := [.int q283, .int x2]) C0 hW hl.1 (c_X6_isOf l G ((md_kinds w) (ix x3)) (4 : Int32) _ hq283) cb_X6_isOf mm_X6_175 [] rfl rfl (by decide) rfl rfl (Nat.le_of_ble_eq_true rfl) ⟨Nat.zero_le _, Nat.zero_le _⟩ dX6_counted_283 rfl (fun H locs hW => ?_)
        refine lv_if_eq (tgt := 293) hx hb dX6_counted_286 (by decide) (fun c286_28 => ?_) (fun c286_28 => ?_)
        · replace hf := if_t c286_28 hf
          refine lv_iconst (v := 0) hx hb dX6_counted_293 (by decide) ?_
          exact J294 _ _ _ _ hf hF _ _ _ hW (lv_sub hl [0, 2] rfl)
        · replace hf := if_f c286_28 hf
          refine lv_iconst (v := 1) hx hb dX6_counted_289 (by decide) ?_
          refine lv_goto (tgt := 294) hx hb dX6_counted_290 (by decide) ?_
          exact J294 _ _ _ _ hf hF _ _ _ hW (lv_sub hl [0, 2] rfl)
    exact lp_sound (fun sg r hb hz => B267 sg.1 sg.2 r hb hz)
  obtain ⟨r, hr⟩ : ∃ r, f_X6_counted w x1 = some r ∧ r = out := ⟨out, hf, rfl⟩
  replace hf := hr.1
  have hF := hr.2
  clear hr
  unfold f_X6_counted at hf
  refine lv_iconst (v := 0) hx hb dX6_counted_0 (by decide) ?_
  refine lv_istore_n (lv' := [(2, .int (0 : Int32)), (0, .ref (a o)), (1, .int x1)]) hx hb dX6_counted_1 rfl hl (by decide) rfl (fun ls hl => ?_)
  refine lv_iload_n hx hb dX6_counted_2 rfl (lv_at hl 2 rfl) ?_
  by_cases c3_1 : x1 = 0
  · replace hf := if_t c3_1 hf
    refine lv_tableIn (off := 61) (tgt := 64) hx hb dX6_counted_3 (by rw [c3_1]; decide) (by rw [c3_1]; decide) (by rw [c3_1]; rfl) (by decide) ?_
    refine lv_aload_n hx hb dX6_counted_64 rfl (lv_at hl 1 rfl) ?_
    refine k_get C0 hW 6 18 0 (v := .int (md_n w)) rfl (by decide) inX6 mf_X6_142 rfl rfl dX6_counted_65 ?_
    have e1 := Option.some.inj hf
    subst e1
    have hF : ((md_n w) : Int32) = out := hF
    subst hF
    exact k_iret C0 hW dX6_counted_68
  replace hf := if_f c3_1 hf
  by_cases c3_2 : x1 = 1
  · replace hf := if_t c3_2 hf
    refine lv_tableIn (off := 66) (tgt := 69) hx hb dX6_counted_3 (by rw [c3_2]; decide) (by rw [c3_2]; decide) (by rw [c3_2]; rfl) (by decide) ?_
    refine lv_aload_n hx hb dX6_counted_69 rfl (lv_at hl 1 rfl) ?_
    refine k_get C0 hW 6 24 0 (v := .ref (a (o + 15))) rfl (by decide) inX6 mf_X6_57 rfl rfl dX6_counted_70 ?_
    refine lv_iconst (v := 0) hx hb dX6_counted_73 (by decide) ?_
    refine k_iald C0 hW 15 0 rfl (inb_in rfl) rfl dX6_counted_74 ?_
    have e1 := Option.some.inj hf
    subst e1
    have hF : (((md_now w) 0) : Int32) = out := hF
    subst hF
    exact k_iret C0 hW dX6_counted_75
  replace hf := if_f c3_2 hf
  by_cases c3_3 : x1 = 2
  · replace hf := if_t c3_3 hf
    refine lv_tableIn (off := 73) (tgt := 76) hx hb dX6_counted_3 (by rw [c3_3]; decide) (by rw [c3_3]; decide) (by rw [c3_3]; rfl) (by decide) ?_
    refine lv_aload_n hx hb dX6_counted_76 rfl (lv_at hl 1 rfl) ?_
    refine k_get C0 hW 6 26 0 (v := .int (md_deedMany w)) rfl (by decide) inX6 mf_X6_148 rfl rfl dX6_counted_77 ?_
    have e1 := Option.some.inj hf
    subst e1
    have hF : ((md_deedMany w) : Int32) = out := hF
    subst hF
    exact k_iret C0 hW dX6_counted_80
  replace hf := if_f c3_3 hf
  by_cases c3_4 : x1 = 3
  · replace hf := if_t c3_4 hf
    refine lv_tableIn (off := 78) (tgt := 81) hx hb dX6_counted_3 (by rw [c3_4]; decide) (by rw [c3_4]; decide) (by rw [c3_4]; rfl) (by decide) ?_
    refine lv_aload_n hx hb dX6_counted_81 rfl (lv_at hl 1 rfl) ?_
    refine k_get C0 hW 6 24 0 (v := .ref (a (o + 15))) rfl (by decide) inX6 mf_X6_57 rfl rfl dX6_counted_82 ?_
    refine lv_iconst (v := 1) hx hb dX6_counted_85 (by decide) ?_
    refine k_iald C0 hW 15 1 rfl (inb_in rfl) rfl dX6_counted_86 ?_
    have e1 := Option.some.inj hf
    subst e1
    have hF : (((md_now w) 1) : Int32) = out := hF
    subst hF
    exact k_iret C0 hW dX6_counted_87
  replace hf := if_f c3_4 hf
  by_cases c3_5 : x1 = 4
  · replace hf := if_t c3_5 hf
    refine lv_tableIn (off := 85) (tgt := 88) hx hb dX6_counted_3 (by rw [c3_5]; decide) (by rw [c3_5]; decide) (by rw [c3_5]; rfl) (by decide) ?_
    refine lv_aload_n hx hb dX6_counted_88 rfl (lv_at hl 1 rfl) ?_
    refine k_get C0 hW 6 24 0 (v := .ref (a (o + 15))) rfl (by decide) inX6 mf_X6_57 rfl rfl dX6_counted_89 ?_
    refine lv_iconst (v := 3) hx hb dX6_counted_92 (by decide) ?_
    refine k_iald C0 hW 15 3 rfl (inb_in rfl) rfl dX6_counted_93 ?_
    have e1 := Option.some.inj hf
    subst e1
    have hF : (((md_now w) 3) : Int32) = out := hF
    subst hF
    exact k_iret C0 hW dX6_counted_94
  replace hf := if_f c3_5 hf
  by_cases c3_6 : x1 = 5
  · replace hf := if_t c3_6 hf
    refine lv_tableIn (off := 92) (tgt := 95) hx hb dX6_counted_3 (by rw [c3_6]; decide) (by rw [c3_6]; decide) (by rw [c3_6]; rfl) (by decide) ?_
    refine lv_aload_n hx hb dX6_counted_95 rfl (lv_at hl 1 rfl) ?_
    refine k_get C0 hW 6 24 0 (v := .ref (a (o + 15))) rfl (by decide) inX6 mf_X6_57 rfl rfl dX6_counted_96 ?_
    refine lv_iconst (v := 2) hx hb dX6_counted_99 (by decide) ?_
    refine k_iald C0 hW 15 2 rfl (inb_in rfl) rfl dX6_counted_100 ?_
    have e1 := Option.some.inj hf
    subst e1
    have hF : (((md_now w) 2) : Int32) = out := hF
    subst hF
    exact k_iret C0 hW dX6_counted_101
  replace hf := if_f c3_6 hf
  by_cases c3_7 : x1 = 6
  · replace hf := if_t c3_7 hf
    refine lv_tableIn (off := 99) (tgt := 102) hx hb dX6_counted_3 (by rw [c3_7]; decide) (by rw [c3_7]; decide) (by rw [c3_7]; rfl) (by decide) ?_
    refine lv_aload_n hx hb dX6_counted_102 rfl (lv_at hl 1 rfl) ?_
    refine lv_aload_n hx hb dX6_counted_103 rfl (lv_at hl 1 rfl) ?_
    refine k_get C0 hW 6 24 0 (v := .ref (a (o + 15))) rfl (by decide) inX6 mf_X6_57 rfl rfl dX6_counted_104 ?_
    obtain ⟨q107, hq107⟩ := ob_s hf
    replace hf := hq107.2
    replace hq107 := hq107.1
    refine cW1 (rest := []) (ws1 := (bMd G a o w)) (st1 := [.int q107]) C0 hW hl.1 (c_X6_isOver_now l G a o w _ hq107) cb_X6_isOver mm_X6_181 fst_Md 0 6 rfl rfl rfl (by decide) rfl rfl (Nat.le_of_ble_eq_true rfl) ⟨Nat.zero_le _, Nat.zero_le _⟩ dX6_counted_107 rfl (fun H locs hW => ?_)
    refine lv_if_eq (tgt := 117) hx hb dX6_counted_110 (by decide) (fun c110_8 => ?_) (fun c110_8 => ?_)
    · replace hf := if_t c110_8 hf
      refine lv_iconst (v := 0) hx hb dX6_counted_117 (by decide) ?_
      have e1 := Option.some.inj hf
      subst e1
      have hF : ((0 : Int32) : Int32) = out := hF
      subst hF
      exact k_iret C0 hW dX6_counted_118
    · replace hf := if_f c110_8 hf
      refine lv_iconst (v := 1) hx hb dX6_counted_113 (by decide) ?_
      refine lv_goto (tgt := 118) hx hb dX6_counted_114 (by decide) ?_
      have e1 := Option.some.inj hf
      subst e1
      have hF : ((1 : Int32) : Int32) = out := hF
      subst hF
      exact k_iret C0 hW dX6_counted_118
  replace hf := if_f c3_7 hf
  by_cases c3_9 : x1 = 7
  · replace hf := if_t c3_9 hf
    refine lv_tableIn (off := 116) (tgt := 119) hx hb dX6_counted_3 (by rw [c3_9]; decide) (by rw [c3_9]; decide) (by rw [c3_9]; rfl) (by decide) ?_
    refine lv_aload_n hx hb dX6_counted_119 rfl (lv_at hl 1 rfl) ?_
    refine k_get C0 hW 6 19 0 (v := .int (md_gateAt w)) rfl (by decide) inX6 mf_X6_145 rfl rfl dX6_counted_120 ?_
    have e1 := Option.some.inj hf
    subst e1
    have hF : ((md_gateAt w) : Int32) = out := hF
    subst hF
    exact k_iret C0 hW dX6_counted_123
  replace hf := if_f c3_9 hf
  by_cases c3_10 : x1 = 8
  · replace hf := if_t c3_10 hf
    refine lv_tableIn (off := 121) (tgt := 124) hx hb dX6_counted_3 (by rw [c3_10]; decide) (by rw [c3_10]; decide) (by rw [c3_10]; rfl) (by decide) ?_
    refine lv_iconst (v := 0) hx hb dX6_counted_124 (by decide) ?_
    refine lv_istore_n (lv' := [(3, .int (0 : Int32)), (2, .int (0 : Int32)), (0, .ref (a o)), (1, .int x1)]) hx hb dX6_counted_125 rfl hl (by decide) rfl (fun ls hl => ?_)
    exact L126  fuel ((0 : Int32), (0 : Int32)) _ hf hF _ _ _ hW (lv_sub hl [2, 1, 0] rfl)
  replace hf := if_f c3_10 hf
  by_cases c3_14 : x1 = 9
  · replace hf := if_t c3_14 hf
    refine lv_tableIn (off := 154) (tgt := 157) hx hb dX6_counted_3 (by rw [c3_14]; decide) (by rw [c3_14]; decide) (by rw [c3_14]; rfl) (by decide) ?_
    refine lv_iconst (v := 0) hx hb dX6_counted_157 (by decide) ?_
    refine lv_istore_n (lv' := [(3, .int (0 : Int32)), (2, .int (0 : Int32)), (0, .ref (a o)), (1, .int x1)]) hx hb dX6_counted_158 rfl hl (by decide) rfl (fun ls hl => ?_)
    exact L159  fuel ((0 : Int32), (0 : Int32)) _ hf hF _ _ _ hW (lv_sub hl [2, 1, 0] rfl)
  replace hf := if_f c3_14 hf
  by_cases c3_18 : x1 = 10
  · replace hf := if_t c3_18 hf
    refine lv_tableIn (off := 186) (tgt := 189) hx hb dX6_counted_3 (by rw [c3_18]; decide) (by rw [c3_18]; decide) (by rw [c3_18]; rfl) (by decide) ?_
    refine lv_iconst (v := 0) hx hb dX6_counted_189 (by decide) ?_
    refine lv_istore_n (lv' := [(3, .int (0 : Int32)), (2, .int (0 : Int32)), (0, .ref (a o)), (1, .int x1)]) hx hb dX6_counted_190 rfl hl (by decide) rfl (fun ls hl => ?_)
    exact L191  fuel ((0 : Int32), (0 : Int32)) _ hf hF _ _ _ hW (lv_sub hl [2, 1, 0] rfl)
  replace hf := if_f c3_18 hf
  by_cases c3_22 : x1 = 11
  · replace hf := if_t c3_22 hf
    refine lv_tableIn (off := 218) (tgt := 221) hx hb dX6_counted_3 (by rw [c3_22]; decide) (by rw [c3_22]; decide) (by rw [c3_22]; rfl) (by decide) ?_
    refine lv_iconst (v := 0) hx hb dX6_counted_221 (by decide) ?_
    refine lv_istore_n (lv' := [(3, .int (0 : Int32)), (2, .int (0 : Int32)), (0, .ref (a o)), (1, .int x1)]) hx hb dX6_counted_222 rfl hl (by decide) rfl (fun ls hl => ?_)
    exact L223  fuel ((0 : Int32), (0 : Int32)) _ hf hF _ _ _ hW (lv_sub hl [2, 1, 0] rfl)
  replace hf := if_f c3_22 hf
  refine lv_tableOut (tgt := 265) hx hb dX6_counted_3 (by have := lv_neT c3_1 (show (0 : Int32).toInt = 0 from rfl); have := lv_neT c3_2 (show (1 : Int32).toInt = 1 from rfl); have := lv_neT c3_3 (show (2 : Int32).toInt = 2 from rfl); have := lv_neT c3_4 (show (3 : Int32).toInt = 3 from rfl); have := lv_neT c3_5 (show (4 : Int32).toInt = 4 from rfl); have := lv_neT c3_6 (show (5 : Int32).toInt = 5 from rfl); have := lv_neT c3_7 (show (6 : Int32).toInt = 6 from rfl); have := lv_neT c3_9 (show (7 : Int32).toInt = 7 from rfl); have := lv_neT c3_10 (show (8 : Int32).toInt = 8 from rfl); have := lv_neT c3_14 (show (9 : Int32).toInt = 9 from rfl); have := lv_neT c3_18 (show (10 : Int32).toInt = 10 from rfl); have := lv_neT c3_22 (show (11 : Int32).toInt = 11 from rfl); omega) (by decide) ?_
  refine lv_iconst (v := 0) hx hb dX6_counted_265 (by decide) ?_
  refine lv_istore_n (lv' := [(3, .int (0 : Int32)), (2, .int (0 : Int32)), (0, .ref (a o)), (1, .int x1)]) hx hb dX6_counted_266 rfl hl (by decide) rfl (fun ls hl => ?_)
  exact L267  fuel ((0 : Int32), (0 : Int32)) _ hf hF _ _ _ hW (lv_sub hl [2, 1, 0] rfl)

def f_X6_count (w : Md) (x1 : Int32) : Option (Int32) :=
  Option.bind (f_X6_in x1 (0 : Int32) (12 : Int32)) (fun q4 => if q4 = 0 then (some (-1 : Int32)) else (Option.bind (f_X6_counted w x1) (fun q12 => some q12)))
set_option maxRecDepth 100000 in
set_option maxHeartbeats 1000000 in
theorem c_X6_count (l : Launch) (G : GG) (a : Nat → Nat) (o : Nat) (w : Md) (x1 : Int32) (out : Int32) (hf : f_X6_count w x1 = some out) : Cn l G 3 yX6_count cX6_count 2 (some .int) [.ref (a o), .int x1] (bMd G a o w) (some (.int out)) (bMd G a o w) := by
  refine cn_start (by decide) (Nat.le_of_ble_eq_true rfl) ?_
  intro p e s m below meth c A ls C0 hW hl
  have hx := C0.1
  have hb := C0.2.1
  have hl : lv_has ls 2 [(0, .ref (a o)), (1, .int x1)] := hl
  obtain ⟨r, hr⟩ : ∃ r, f_X6_count w x1 = some r ∧ r = out := ⟨out, hf, rfl⟩
  replace hf := hr.1
  have hF := hr.2
  clear hr
  unfold f_X6_count at hf
  refine lv_iload_n hx hb dX6_count_0 rfl (lv_at hl 1 rfl) ?_
  refine lv_iconst (v := 0) hx hb dX6_count_1 (by decide) ?_
  refine lv_bipush (v := 12) hx hb dX6_count_2 (by decide) ?_
  obtain ⟨q4, hq4⟩ := ob_s hf
  replace hf := hq4.2
  replace hq4 := hq4.1
  refine cS0 (rest := []) (st1 := [.int q4]) C0 hW hl.1 (c_X6_in l G x1 (0 : Int32) (12 : Int32) _ hq4) cb_X6_in mm_X6_89 [] rfl rfl (by decide) rfl rfl (Nat.le_of_ble_eq_true rfl) ⟨Nat.zero_le _, Nat.zero_le _⟩ dX6_count_4 rfl (fun H locs hW => ?_)
  refine lv_if_eq (tgt := 18) hx hb dX6_count_7 (by decide) (fun c7_1 => ?_) (fun c7_1 => ?_)
  · replace hf := if_t c7_1 hf
    refine lv_iconst (v := -1) hx hb dX6_count_18 (by decide) ?_
    have e1 := Option.some.inj hf
    subst e1
    have hF : ((-1 : Int32) : Int32) = out := hF
    subst hF
    exact k_iret C0 hW dX6_count_19
  · replace hf := if_f c7_1 hf
    refine lv_aload_n hx hb dX6_count_10 rfl (lv_at hl 0 rfl) ?_
    refine lv_iload_n hx hb dX6_count_11 rfl (lv_at hl 1 rfl) ?_
    obtain ⟨q12, hq12⟩ := ob_s hf
    replace hf := hq12.2
    replace hq12 := hq12.1
    refine cW1 (rest := []) (ws1 := (bMd G a o w)) (st1 := [.int q12]) C0 hW hl.1 (c_X6_counted l G a o w x1 _ hq12) cb_X6_counted mm_X6_263 fst_Md 0 6 rfl rfl rfl (by decide) rfl rfl (Nat.le_of_ble_eq_true rfl) ⟨Nat.zero_le _, Nat.zero_le _⟩ dX6_count_12 rfl (fun H locs hW => ?_)
    refine lv_goto (tgt := 19) hx hb dX6_count_15 (by decide) ?_
    have e1 := Option.some.inj hf
    subst e1
    have hF : (q12 : Int32) = out := hF
    subst hF
    exact k_iret C0 hW dX6_count_19

def f_X6_bearsOn_now (w : Md) (x2 : Int32) (x3 : Int32) : Option (Int32) :=
  gd (inb x2 8) (gd (inb x2 8) (gd (inb ((4 : Int32) + x2) 12) (Option.bind (f_X6_bearsAs ((md_kinds w) (ix x2)) ((md_strongs w) (ix x2)) x3 ((md_now w) (ix ((4 : Int32) + x2))) ((md_now w) 2)) (fun q21 => some q21))))
set_option maxRecDepth 100000 in
set_option maxHeartbeats 1000000 in
theorem c_X6_bearsOn_now (l : Launch) (G : GG) (a : Nat → Nat) (o : Nat) (w : Md) (x2 : Int32) (x3 : Int32) (out : Int32) (hf : f_X6_bearsOn_now w x2 x3 = some out) : Cn l G 2 yX6_bearsOn cX6_bearsOn 4 (some .int) [.ref (a o), .ref (a (o + 15)), .int x2, .int x3] (bMd G a o w) (some (.int out)) (bMd G a o w) := by
  refine cn_start (by decide) (Nat.le_of_ble_eq_true rfl) ?_
  intro p e s m below meth c A ls C0 hW hl
  have hx := C0.1
  have hb := C0.2.1
  have hl : lv_has ls 4 [(0, .ref (a o)), (1, .ref (a (o + 15))), (2, .int x2), (3, .int x3)] := hl
  obtain ⟨r, hr⟩ : ∃ r, f_X6_bearsOn_now w x2 x3 = some r ∧ r = out := ⟨out, hf, rfl⟩
  replace hf := hr.1
  have hF := hr.2
  clear hr
  unfold f_X6_bearsOn_now at hf
  refine lv_aload_n hx hb dX6_bearsOn_0 rfl (lv_at hl 0 rfl) ?_
  refine k_get C0 hW 6 21 0 (v := .ref (a (o + 12))) rfl (by decide) inX6 mf_X6_48 rfl rfl dX6_bearsOn_1 ?_
  refine lv_iload_n hx hb dX6_bearsOn_4 rfl (lv_at hl 2 rfl) ?_
  have g5_1 := (gd_some hf).1; replace hf := (gd_some hf).2
  refine k_iald C0 hW 12 (ix x2) rfl (inb_in g5_1) rfl dX6_bearsOn_5 ?_
  refine lv_aload_n hx hb dX6_bearsOn_6 rfl (lv_at hl 0 rfl) ?_
  refine k_get C0 hW 6 23 0 (v := .ref (a (o + 14))) rfl (by decide) inX6 mf_X6_54 rfl rfl dX6_bearsOn_7 ?_
  refine lv_iload_n hx hb dX6_bearsOn_10 rfl (lv_at hl 2 rfl) ?_
  have g11_2 := (gd_some hf).1; replace hf := (gd_some hf).2
  refine k_iald C0 hW 14 (ix x2) rfl (inb_in g11_2) rfl dX6_bearsOn_11 ?_
  refine lv_iload_n hx hb dX6_bearsOn_12 rfl (lv_at hl 3 rfl) ?_
  refine lv_aload_n hx hb dX6_bearsOn_13 rfl (lv_at hl 1 rfl) ?_
  refine lv_iconst (v := 4) hx hb dX6_bearsOn_14 (by decide) ?_
  refine lv_iload_n hx hb dX6_bearsOn_15 rfl (lv_at hl 2 rfl) ?_
  refine lv_iadd hx hb dX6_bearsOn_16 ?_
  have g17_3 := (gd_some hf).1; replace hf := (gd_some hf).2
  refine k_iald C0 hW 15 (ix ((4 : Int32) + x2)) rfl (inb_in g17_3) rfl dX6_bearsOn_17 ?_
  refine lv_aload_n hx hb dX6_bearsOn_18 rfl (lv_at hl 1 rfl) ?_
  refine lv_iconst (v := 2) hx hb dX6_bearsOn_19 (by decide) ?_
  refine k_iald C0 hW 15 2 rfl (inb_in rfl) rfl dX6_bearsOn_20 ?_
  obtain ⟨q21, hq21⟩ := ob_s hf
  replace hf := hq21.2
  replace hq21 := hq21.1
  refine cS0 (rest := []) (st1 := [.int q21]) C0 hW hl.1 (c_X6_bearsAs l G ((md_kinds w) (ix x2)) ((md_strongs w) (ix x2)) x3 ((md_now w) (ix ((4 : Int32) + x2))) ((md_now w) 2) _ hq21) cb_X6_bearsAs mm_X6_154 [] rfl rfl (by decide) rfl rfl (Nat.le_of_ble_eq_true rfl) ⟨Nat.zero_le _, Nat.zero_le _⟩ dX6_bearsOn_21 rfl (fun H locs hW => ?_)
  have e1 := Option.some.inj hf
  subst e1
  have hF : (q21 : Int32) = out := hF
  subst hF
  exact k_iret C0 hW dX6_bearsOn_24

def f_X6_spokeTells (w : Md) (x1 : Int32) (x2 : Int32) : Option (Int32) :=
  if x2 = 0 then (gd (inb x1 8) (some ((md_kinds w) (ix x1)))) else if x2 = 1 then (gd (inb x1 8) (some ((md_longs w) (ix x1)))) else if x2 = 2 then (gd (inb x1 8) (some ((md_strongs w) (ix x1)))) else if x2 = 3 then (gd (inb ((4 : Int32) + x1) 12) (some ((md_now w) (ix ((4 : Int32) + x1))))) else if x2 = 4 then (some ((jshr ((md_now w) 3) x1) &&& (1 : Int32))) else Option.bind (f_X6_depth w ((md_now w) 0)) (fun q90 => Option.bind (f_X6_bearsOn_now w x1 q90) (fun q93 => some q93))
set_option maxRecDepth 100000 in
set_option maxHeartbeats 1000000 in
theorem c_X6_spokeTells (l : Launch) (G : GG) (a : Nat → Nat) (o : Nat) (w : Md) (x1 : Int32) (x2 : Int32) (out : Int32) (hf : f_X6_spokeTells w x1 x2 = some out) : Cn l G 3 yX6_spokeTells cX6_spokeTells 3 (some .int) [.ref (a o), .int x1, .int x2] (bMd G a o w) (some (.int out)) (bMd G a o w) := by
  refine cn_start (by decide) (Nat.le_of_ble_eq_true rfl) ?_
  intro p e s m below meth c A ls C0 hW hl
  have hx := C0.1
  have hb := C0.2.1
  have hl : lv_has ls 3 [(0, .ref (a o)), (1, .int x1), (2, .int x2)] := hl
  obtain ⟨r, hr⟩ : ∃ r, f_X6_spokeTells w x1 x2 = some r ∧ r = out := ⟨out, hf, rfl⟩
  replace hf := hr.1
  have hF := hr.2
  clear hr
  unfold f_X6_spokeTells at hf
  refine lv_iload_n hx hb dX6_spokeTells_0 rfl (lv_at hl 2 rfl) ?_
  by_cases c1_1 : x2 = 0
  · replace hf := if_t c1_1 hf
    refine lv_tableIn (off := 35) (tgt := 36) hx hb dX6_spokeTells_1 (by rw [c1_1]; decide) (by rw [c1_1]; decide) (by rw [c1_1]; rfl) (by decide) ?_
    refine lv_aload_n hx hb dX6_spokeTells_36 rfl (lv_at hl 0 rfl) ?_
    refine k_get C0 hW 6 21 0 (v := .ref (a (o + 12))) rfl (by decide) inX6 mf_X6_48 rfl rfl dX6_spokeTells_37 ?_
    refine lv_iload_n hx hb dX6_spokeTells_40 rfl (lv_at hl 1 rfl) ?_
    have g41_2 := (gd_some hf).1; replace hf := (gd_some hf).2
    refine k_iald C0 hW 12 (ix x1) rfl (inb_in g41_2) rfl dX6_spokeTells_41 ?_
    have e1 := Option.some.inj hf
    subst e1
    have hF : (((md_kinds w) (ix x1)) : Int32) = out := hF
    subst hF
    exact k_iret C0 hW dX6_spokeTells_42
  replace hf := if_f c1_1 hf
  by_cases c1_3 : x2 = 1
  · replace hf := if_t c1_3 hf
    refine lv_tableIn (off := 42) (tgt := 43) hx hb dX6_spokeTells_1 (by rw [c1_3]; decide) (by rw [c1_3]; decide) (by rw [c1_3]; rfl) (by decide) ?_
    refine lv_aload_n hx hb dX6_spokeTells_43 rfl (lv_at hl 0 rfl) ?_
    refine k_get C0 hW 6 22 0 (v := .ref (a (o + 13))) rfl (by decide) inX6 mf_X6_51 rfl rfl dX6_spokeTells_44 ?_
    refine lv_iload_n hx hb dX6_spokeTells_47 rfl (lv_at hl 1 rfl) ?_
    have g48_4 := (gd_some hf).1; replace hf := (gd_some hf).2
    refine k_iald C0 hW 13 (ix x1) rfl (inb_in g48_4) rfl dX6_spokeTells_48 ?_
    have e1 := Option.some.inj hf
    subst e1
    have hF : (((md_longs w) (ix x1)) : Int32) = out := hF
    subst hF
    exact k_iret C0 hW dX6_spokeTells_49
  replace hf := if_f c1_3 hf
  by_cases c1_5 : x2 = 2
  · replace hf := if_t c1_5 hf
    refine lv_tableIn (off := 49) (tgt := 50) hx hb dX6_spokeTells_1 (by rw [c1_5]; decide) (by rw [c1_5]; decide) (by rw [c1_5]; rfl) (by decide) ?_
    refine lv_aload_n hx hb dX6_spokeTells_50 rfl (lv_at hl 0 rfl) ?_
    refine k_get C0 hW 6 23 0 (v := .ref (a (o + 14))) rfl (by decide) inX6 mf_X6_54 rfl rfl dX6_spokeTells_51 ?_
    refine lv_iload_n hx hb dX6_spokeTells_54 rfl (lv_at hl 1 rfl) ?_
    have g55_6 := (gd_some hf).1; replace hf := (gd_some hf).2
    refine k_iald C0 hW 14 (ix x1) rfl (inb_in g55_6) rfl dX6_spokeTells_55 ?_
    have e1 := Option.some.inj hf
    subst e1
    have hF : (((md_strongs w) (ix x1)) : Int32) = out := hF
    subst hF
    exact k_iret C0 hW dX6_spokeTells_56
  replace hf := if_f c1_5 hf
  by_cases c1_7 : x2 = 3
  · replace hf := if_t c1_7 hf
    refine lv_tableIn (off := 56) (tgt := 57) hx hb dX6_spokeTells_1 (by rw [c1_7]; decide) (by rw [c1_7]; decide) (by rw [c1_7]; rfl) (by decide) ?_
    refine lv_aload_n hx hb dX6_spokeTells_57 rfl (lv_at hl 0 rfl) ?_
    refine k_get C0 hW 6 24 0 (v := .ref (a (o + 15))) rfl (by decide) inX6 mf_X6_57 rfl rfl dX6_spokeTells_58 ?_
    refine lv_iconst (v := 4) hx hb dX6_spokeTells_61 (by decide) ?_
    refine lv_iload_n hx hb dX6_spokeTells_62 rfl (lv_at hl 1 rfl) ?_
    refine lv_iadd hx hb dX6_spokeTells_63 ?_
    have g64_8 := (gd_some hf).1; replace hf := (gd_some hf).2
    refine k_iald C0 hW 15 (ix ((4 : Int32) + x1)) rfl (inb_in g64_8) rfl dX6_spokeTells_64 ?_
    have e1 := Option.some.inj hf
    subst e1
    have hF : (((md_now w) (ix ((4 : Int32) + x1))) : Int32) = out := hF
    subst hF
    exact k_iret C0 hW dX6_spokeTells_65
  replace hf := if_f c1_7 hf
  by_cases c1_9 : x2 = 4
  · replace hf := if_t c1_9 hf
    refine lv_tableIn (off := 65) (tgt := 66) hx hb dX6_spokeTells_1 (by rw [c1_9]; decide) (by rw [c1_9]; decide) (by rw [c1_9]; rfl) (by decide) ?_
    refine lv_aload_n hx hb dX6_spokeTells_66 rfl (lv_at hl 0 rfl) ?_
    refine k_get C0 hW 6 24 0 (v := .ref (a (o + 15))) rfl (by decide) inX6 mf_X6_57 rfl rfl dX6_spokeTells_67 ?_
    refine lv_iconst (v := 3) hx hb dX6_spokeTells_70 (by decide) ?_
    refine k_iald C0 hW 15 3 rfl (inb_in rfl) rfl dX6_spokeTells_71 ?_
    refine lv_iload_n hx hb dX6_spokeTells_72 rfl (lv_at hl 1 rfl) ?_
    refine lv_ishr hx hb dX6_spokeTells_73 ?_
    refine lv_iconst (v := 1) hx hb dX6_spokeTells_74 (by decide) ?_
    refine lv_iand hx hb dX6_spokeTells_75 ?_
    have e1 := Option.some.inj hf
    subst e1
    have hF : (((jshr ((md_now w) 3) x1) &&& (1 : Int32)) : Int32) = out := hF
    subst hF
    exact k_iret C0 hW dX6_spokeTells_76
  replace hf := if_f c1_9 hf
  refine lv_tableOut (tgt := 77) hx hb dX6_spokeTells_1 (by have := lv_neT c1_1 (show (0 : Int32).toInt = 0 from rfl); have := lv_neT c1_3 (show (1 : Int32).toInt = 1 from rfl); have := lv_neT c1_5 (show (2 : Int32).toInt = 2 from rfl); have := lv_neT c1_7 (show (3 : Int32).toInt = 3 from rfl); have := lv_neT c1_9 (show (4 : Int32).toInt = 4 from rfl); omega) (by decide) ?_
  refine lv_aload_n hx hb dX6_spokeTells_77 rfl (lv_at hl 0 rfl) ?_
  refine lv_aload_n hx hb dX6_spokeTells_78 rfl (lv_at hl 0 rfl) ?_
  refine k_get C0 hW 6 24 0 (v := .ref (a (o + 15))) rfl (by decide) inX6 mf_X6_57 rfl rfl dX6_spokeTells_79 ?_
  refine lv_iload_n hx hb dX6_spokeTells_82 rfl (lv_at hl 1 rfl) ?_
  refine lv_aload_n hx hb dX6_spokeTells_83 rfl (lv_at hl 0 rfl) ?_
  refine lv_aload_n hx hb dX6_spokeTells_84 rfl (lv_at hl 0 rfl) ?_
  refine k_get C0 hW 6 24 0 (v := .ref (a (o + 15))) rfl (by decide) inX6 mf_X6_57 rfl rfl dX6_spokeTells_85 ?_
  refine lv_iconst (v := 0) hx hb dX6_spokeTells_88 (by decide) ?_
  refine k_iald C0 hW 15 0 rfl (inb_in rfl) rfl dX6_spokeTells_89 ?_
  obtain ⟨q90, hq90⟩ := ob_s hf
  replace hf := hq90.2
  replace hq90 := hq90.1
  refine cW1 (rest := [.int x1, .ref (a (o + 15)), .ref (a o)]) (ws1 := (bMd G a o w)) (st1 := [.int q90, .int x1, .ref (a (o + 15)), .ref (a o)]) C0 hW hl.1 (c_X6_depth l G a o w ((md_now w) 0) _ hq90) cb_X6_depth mm_X6_162 fst_Md 0 6 rfl rfl rfl (by decide) rfl rfl (Nat.le_of_ble_eq_true rfl) ⟨Nat.zero_le _, Nat.zero_le _⟩ dX6_spokeTells_90 rfl (fun H locs hW => ?_)
  obtain ⟨q93, hq93⟩ := ob_s hf
  replace hf := hq93.2
  replace hq93 := hq93.1
  refine cW1 (rest := []) (ws1 := (bMd G a o w)) (st1 := [.int q93]) C0 hW hl.1 (c_X6_bearsOn_now l G a o w x1 q90 _ hq93) cb_X6_bearsOn mm_X6_165 fst_Md 0 6 rfl rfl rfl (by decide) rfl rfl (Nat.le_of_ble_eq_true rfl) ⟨Nat.zero_le _, Nat.zero_le _⟩ dX6_spokeTells_93 rfl (fun H locs hW => ?_)
  have e1 := Option.some.inj hf
  subst e1
  have hF : (q93 : Int32) = out := hF
  subst hF
  exact k_iret C0 hW dX6_spokeTells_96

def f_X6_digest_J233 (w : Md) : Option (Int64 × Md) :=
  some ((md_h w), w)
def f_X6_digest_J227 (w : Md) (x1 : Int32) : Option ((Int32 × Md) ⊕ (Int64 × Md)) :=
  some (Sum.inl ((x1 + (1 : Int32)), w))
def f_X6_digest_B195 (x1 : Int32) (x2 : Int32) (w : Md) : Option ((Int32 × Md) ⊕ ((Int32 × Md) ⊕ (Int64 × Md))) :=
  gd (inb x1 4) (if ((md_textSizes w) (ix x1)) ≤ x2 then (Option.map Sum.inr (f_X6_digest_J227 w x1)) else (gd (inb (((60 : Int32) * x1) + x2) 480) (Option.bind (f_X6_adds w (((md_bytes w) (ix (((60 : Int32) * x1) + x2))).toInt64)) (fun q218 => some (Sum.inl ((x2 + (1 : Int32)), q218))))))
def f_X6_digest_L195 (x1 : Int32) (sg : Int32 × Md) : Option ((Int32 × Md) ⊕ ((Int32 × Md) ⊕ (Int64 × Md))) := f_X6_digest_B195 x1 sg.1 sg.2
def f_X6_digest_B177 (x1 : Int32) (w : Md) : Option ((Int32 × Md) ⊕ (Int64 × Md)) :=
  if (4 : Int32) ≤ x1 then (Option.map Sum.inr (f_X6_digest_J233 w)) else (gd (inb x1 4) (Option.bind (f_X6_adds w (((md_textSizes w) (ix x1)).toInt64)) (fun q190 => lp (f_X6_digest_L195 x1) fuel ((0 : Int32), q190))))
def f_X6_digest_L177 (sg : Int32 × Md) : Option ((Int32 × Md) ⊕ (Int64 × Md)) := f_X6_digest_B177 sg.1 sg.2
def f_X6_digest_J175 (w : Md) : Option (Int64 × Md) :=
  lp (f_X6_digest_L177) fuel ((0 : Int32), w)
def f_X6_digest_J169 (w : Md) (x1 : Int32) : Option ((Int32 × Md) ⊕ (Int64 × Md)) :=
  some (Sum.inl ((x1 + (1 : Int32)), w))
def f_X6_digest_B142 (x1 : Int32) (x2 : Int32) (w : Md) : Option ((Int32 × Md) ⊕ ((Int32 × Md) ⊕ (Int64 × Md))) :=
  gd (inb x1 6) (if ((md_sizes w) (ix x1)) ≤ x2 then (Option.map Sum.inr (f_X6_digest_J169 w x1)) else (Option.bind (f_X6_rowAt w x1 x2) (fun q156 => Option.bind (f_X6_adds w (q156.toInt64)) (fun q160 => some (Sum.inl ((x2 + (1 : Int32)), q160))))))
def f_X6_digest_L142 (x1 : Int32) (sg : Int32 × Md) : Option ((Int32 × Md) ⊕ ((Int32 × Md) ⊕ (Int64 × Md))) := f_X6_digest_B142 x1 sg.1 sg.2
def f_X6_digest_B123 (x1 : Int32) (w : Md) : Option ((Int32 × Md) ⊕ (Int64 × Md)) :=
  if (6 : Int32) ≤ x1 then (Option.map Sum.inr (f_X6_digest_J175 w)) else (gd (inb x1 6) (Option.bind (f_X6_adds w (((md_sizes w) (ix x1)).toInt64)) (fun q137 => lp (f_X6_digest_L142 x1) fuel ((0 : Int32), q137))))
def f_X6_digest_L123 (sg : Int32 × Md) : Option ((Int32 × Md) ⊕ (Int64 × Md)) := f_X6_digest_B123 sg.1 sg.2
def f_X6_digest_J121 (w : Md) : Option (Int64 × Md) :=
  lp (f_X6_digest_L123) fuel ((0 : Int32), w)
def f_X6_digest_B99 (x1 : Int32) (w : Md) : Option ((Int32 × Md) ⊕ (Int64 × Md)) :=
  if (3 : Int32) ≤ x1 then (Option.map Sum.inr (f_X6_digest_J121 w)) else (gd (inb x1 3) (Option.bind (f_X6_adds w (((md_keptMany w) (ix x1)).toInt64)) (fun q112 => some (Sum.inl ((x1 + (1 : Int32)), q112)))))
def f_X6_digest_L99 (sg : Int32 × Md) : Option ((Int32 × Md) ⊕ (Int64 × Md)) := f_X6_digest_B99 sg.1 sg.2
def f_X6_digest_J97 (w : Md) : Option (Int64 × Md) :=
  lp (f_X6_digest_L99) fuel ((0 : Int32), w)
def f_X6_digest_J91 (w : Md) (x1 : Int32) : Option ((Int32 × Md) ⊕ (Int64 × Md)) :=
  some (Sum.inl ((x1 + (1 : Int32)), w))
def f_X6_digest_B68 (x1 : Int32) (x2 : Int32) (w : Md) : Option ((Int32 × Md) ⊕ ((Int32 × Md) ⊕ (Int64 × Md))) :=
  if (6 : Int32) ≤ x2 then (Option.map Sum.inr (f_X6_digest_J91 w x1)) else (Option.bind (f_X6_spokeTells w x1 x2) (fun q78 => Option.bind (f_X6_adds w (q78.toInt64)) (fun q82 => some (Sum.inl ((x2 + (1 : Int32)), q82)))))
def f_X6_digest_L68 (x1 : Int32) (sg : Int32 × Md) : Option ((Int32 × Md) ⊕ ((Int32 × Md) ⊕ (Int64 × Md))) := f_X6_digest_B68 x1 sg.1 sg.2
def f_X6_digest_B58 (x1 : Int32) (w : Md) : Option ((Int32 × Md) ⊕ (Int64 × Md)) :=
  if (md_n w) ≤ x1 then (Option.map Sum.inr (f_X6_digest_J97 w)) else (lp (f_X6_digest_L68 x1) fuel ((0 : Int32), w))
def f_X6_digest_L58 (sg : Int32 × Md) : Option ((Int32 × Md) ⊕ (Int64 × Md)) := f_X6_digest_B58 sg.1 sg.2
def f_X6_digest_J56 (w : Md) : Option (Int64 × Md) :=
  lp (f_X6_digest_L58) fuel ((0 : Int32), w)
def f_X6_digest_B33 (x1 : Int32) (w : Md) : Option ((Int32 × Md) ⊕ (Int64 × Md)) :=
  if (8 : Int32) ≤ x1 then (Option.map Sum.inr (f_X6_digest_J56 w)) else (gd (inb x1 8) (Option.bind (f_X6_adds w (((md_ruts w) (ix x1)).toInt64)) (fun q47 => some (Sum.inl ((x1 + (1 : Int32)), q47)))))
def f_X6_digest_L33 (sg : Int32 × Md) : Option ((Int32 × Md) ⊕ (Int64 × Md)) := f_X6_digest_B33 sg.1 sg.2
def f_X6_digest_J31 (w : Md) : Option (Int64 × Md) :=
  lp (f_X6_digest_L33) fuel ((0 : Int32), w)
def f_X6_digest_B9 (x1 : Int32) (w : Md) : Option ((Int32 × Md) ⊕ (Int64 × Md)) :=
  if (12 : Int32) < x1 then (Option.map Sum.inr (f_X6_digest_J31 w)) else (Option.bind (f_X6_counted w x1) (fun q18 => Option.bind (f_X6_adds w (q18.toInt64)) (fun q22 => some (Sum.inl ((x1 + (1 : Int32)), q22)))))
def f_X6_digest_L9 (sg : Int32 × Md) : Option ((Int32 × Md) ⊕ (Int64 × Md)) := f_X6_digest_B9 sg.1 sg.2
def f_X6_digest (w : Md) : Option (Int64 × Md) :=
  lp (f_X6_digest_L9) fuel ((0 : Int32), (md_set_h w (17 : Int64)))
set_option maxRecDepth 100000 in
set_option maxHeartbeats 1000000 in
theorem c_X6_digest (l : Launch) (G : GG) (a : Nat → Nat) (o : Nat) (w : Md) (out : Int64 × Md) (hf : f_X6_digest w = some out) : Cn l G 4 yX6_digest cX6_digest 3 (some .long) [.ref (a o)] (bMd G a o w) (some (.long out.1)) (bMd G a o out.2) := by
  refine cn_start (by decide) (Nat.le_of_ble_eq_true rfl) ?_
  intro p e s m below meth c A ls C0 hW hl
  have hx := C0.1
  have hb := C0.2.1
  have hl : lv_has ls 3 [(0, .ref (a o))] := hl
  have J233 : ∀ (w : Md) (r : Int64 × Md), f_X6_digest_J233 w = some r → (fun (r : Int64 × Md) => r = out) r → ∀ (H : Heap) (locs : List Loc) (ls : Array Slot), Wd G A s.heap H (bMd G a o w) locs → lv_has ls 3 [(0, .ref (a o))] → WW p l e 4 s m [.ref (a o)] below meth c G A (some (.long out.1)) ((bMd G a o out.2)) H locs 233 ls [] := by
    intro w r hf hF H locs ls hW hl
    unfold f_X6_digest_J233 at hf
    refine lv_aload_n hx hb dX6_digest_233 rfl (lv_at hl 0 rfl) ?_
    refine k_get C0 hW 6 33 0 (v := .long (md_h w)) rfl (by decide) inX6 mf_X6_268 rfl rfl dX6_digest_234 ?_
    have e1 := Option.some.inj hf
    subst e1
    have hF : (((md_h w), w) : Int64 × Md) = out := hF
    subst hF
    exact k_lret C0 hW dX6_digest_237
  have L177 : ∀ (k8 : Nat) (sg : Int32 × Md) (o9 : Int64 × Md), lp (f_X6_digest_L177) k8 sg = some o9 → (fun (r : Int64 × Md) => r = out) o9 → (fun (sg : Int32 × Md) => ∀ (H : Heap) (locs : List Loc) (ls : Array Slot), Wd G A s.heap H (bMd G a o sg.2) locs → lv_has ls 3 [(0, .ref (a o)), (1, .int sg.1)] → WW p l e 4 s m [.ref (a o)] below meth c G A (some (.long out.1)) ((bMd G a o out.2)) H locs 177 ls []) sg := by
    have J227 : ∀ (x1 : Int32) (w : Md) (r : (Int32 × Md) ⊕ (Int64 × Md)), f_X6_digest_J227 w x1 = some r → (Sum.elim (fun (sg : Int32 × Md) => ∀ (H : Heap) (locs : List Loc) (ls : Array Slot), Wd G A s.heap H (bMd G a o sg.2) locs → lv_has ls 3 [(0, .ref (a o)), (1, .int sg.1)] → WW p l e 4 s m [.ref (a o)] below meth c G A (some (.long out.1)) ((bMd G a o out.2)) H locs 177 ls []) (fun (r : Int64 × Md) => r = out)) r → ∀ (H : Heap) (locs : List Loc) (ls : Array Slot), Wd G A s.heap H (bMd G a o w) locs → lv_has ls 3 [(0, .ref (a o)), (1, .int x1)] → WW p l e 4 s m [.ref (a o)] below meth c G A (some (.long out.1)) ((bMd G a o out.2)) H locs 227 ls [] := by
      intro x1 w r hf hF H locs ls hW hl
      unfold f_X6_digest_J227 at hf
      refine lv_iinc (v := (x1 + (1 : Int32))) (lv' := [(1, .int (x1 + (1 : Int32))), (0, .ref (a o))]) hx hb dX6_digest_227 hl (k := 1) rfl rfl (by decide) rfl (fun ls hl => ?_)
      refine lv_goto (tgt := 177) hx hb dX6_digest_230 (by decide) ?_
      have e1 := Option.some.inj hf
      subst e1
      exact (elim_l hF) _ _ _ hW (lv_sub hl [1, 0] rfl)
    have L195 : ∀ (x1 : Int32) (k8 : Nat) (sg : Int32 × Md) (o9 : (Int32 × Md) ⊕ (Int64 × Md)), lp (f_X6_digest_L195 x1) k8 sg = some o9 → (Sum.elim (fun (sg : Int32 × Md) => ∀ (H : Heap) (locs : List Loc) (ls : Array Slot), Wd G A s.heap H (bMd G a o sg.2) locs → lv_has ls 3 [(0, .ref (a o)), (1, .int sg.1)] → WW p l e 4 s m [.ref (a o)] below meth c G A (some (.long out.1)) ((bMd G a o out.2)) H locs 177 ls []) (fun (r : Int64 × Md) => r = out)) o9 → (fun (sg : Int32 × Md) => ∀ (H : Heap) (locs : List Loc) (ls : Array Slot), Wd G A s.heap H (bMd G a o sg.2) locs → lv_has ls 3 [(0, .ref (a o)), (1, .int x1), (2, .int sg.1)] → WW p l e 4 s m [.ref (a o)] below meth c G A (some (.long out.1)) ((bMd G a o out.2)) H locs 195 ls []) sg := by
      intro x1
      have B195 : ∀ (x2 : Int32) (w : Md) (r : (Int32 × Md) ⊕ ((Int32 × Md) ⊕ (Int64 × Md))), f_X6_digest_B195 x1 x2 w = some r → (Sum.elim (fun (sg : Int32 × Md) => ∀ (H : Heap) (locs : List Loc) (ls : Array Slot), Wd G A s.heap H (bMd G a o sg.2) locs → lv_has ls 3 [(0, .ref (a o)), (1, .int x1), (2, .int sg.1)] → WW p l e 4 s m [.ref (a o)] below meth c G A (some (.long out.1)) ((bMd G a o out.2)) H locs 195 ls []) (Sum.elim (fun (sg : Int32 × Md) => ∀ (H : Heap) (locs : List Loc) (ls : Array Slot), Wd G A s.heap H (bMd G a o sg.2) locs → lv_has ls 3 [(0, .ref (a o)), (1, .int sg.1)] → WW p l e 4 s m [.ref (a o)] below meth c G A (some (.long out.1)) ((bMd G a o out.2)) H locs 177 ls []) (fun (r : Int64 × Md) => r = out))) r → ∀ (H : Heap) (locs : List Loc) (ls : Array Slot), Wd G A s.heap H (bMd G a o w) locs → lv_has ls 3 [(0, .ref (a o)), (1, .int x1), (2, .int x2)] → WW p l e 4 s m [.ref (a o)] below meth c G A (some (.long out.1)) ((bMd G a o out.2)) H locs 195 ls [] := by
        intro x2 w r hf hF H locs ls hW hl
        unfold f_X6_digest_B195 at hf
        refine lv_iload_n hx hb dX6_digest_195 rfl (lv_at hl 2 rfl) ?_
        refine lv_aload_n hx hb dX6_digest_196 rfl (lv_at hl 0 rfl) ?_
        refine k_get C0 hW 6 8 0 (v := .ref (a (o + 5))) rfl (by decide) inX6 mf_X6_26 rfl rfl dX6_digest_197 ?_
        refine lv_iload_n hx hb dX6_digest_200 rfl (lv_at hl 1 rfl) ?_
        have g201_8 := (gd_some hf).1; replace hf := (gd_some hf).2
        refine k_iald C0 hW 5 (ix x1) rfl (inb_in g201_8) rfl dX6_digest_201 ?_
        refine lv_icmp_ge (tgt := 227) hx hb dX6_digest_202 (by decide) (fun c202_9 => ?_) (fun c202_9 => ?_)
        · replace hf := if_t c202_9 hf
          obtain ⟨r2, e2⟩ := om_s hf
          replace hf := e2.1
          replace e2 := e2.2
          subst e2
          replace hF := elim_r hF
          exact J227 _ _ _ hf hF _ _ _ hW (lv_sub hl [0, 1] rfl)
        · replace hf := if_f c202_9 hf
          refine lv_aload_n hx hb dX6_digest_205 rfl (lv_at hl 0 rfl) ?_
          refine lv_aload_n hx hb dX6_digest_206 rfl (lv_at hl 0 rfl) ?_
          refine k_get C0 hW 6 9 0 (v := .ref (a (o + 6))) rfl (by decide) inX6 mf_X6_29 rfl rfl dX6_digest_207 ?_
          refine lv_bipush (v := 60) hx hb dX6_digest_210 (by decide) ?_
          refine lv_iload_n hx hb dX6_digest_212 rfl (lv_at hl 1 rfl) ?_
          refine lv_imul hx hb dX6_digest_213 ?_
          refine lv_iload_n hx hb dX6_digest_214 rfl (lv_at hl 2 rfl) ?_
          refine lv_iadd hx hb dX6_digest_215 ?_
          have g216_10 := (gd_some hf).1; replace hf := (gd_some hf).2
          refine k_bald C0 hW 6 (ix (((60 : Int32) * x1) + x2)) rfl (inb_in g216_10) rfl dX6_digest_216 ?_
          refine lv_i2l (v := ((md_bytes w) (ix (((60 : Int32) * x1) + x2))).toInt64) hx hb dX6_digest_217 rfl ?_
          obtain ⟨q218, hq218⟩ := ob_s hf
          replace hf := hq218.2
          replace hq218 := hq218.1
          refine cW1 (rest := []) (ws1 := (bMd G a o q218)) (st1 := []) C0 hW hl.1 (c_X6_adds l G a o w (((md_bytes w) (ix (((60 : Int32) * x1) + x2))).toInt64) _ hq218) cb_X6_adds mm_X6_273 fst_Md 0 6 rfl rfl rfl (by decide) rfl rfl (Nat.le_of_ble_eq_true rfl) ⟨Nat.zero_le _, Nat.zero_le _⟩ dX6_digest_218 rfl (fun H locs hW => ?_)
          refine lv_iinc (v := (x2 + (1 : Int32))) (lv' := [(2, .int (x2 + (1 : Int32))), (0, .ref (a o)), (1, .int x1)]) hx hb dX6_digest_221 hl (k := 2) rfl rfl (by decide) rfl (fun ls hl => ?_)
          refine lv_goto (tgt := 195) hx hb dX6_digest_224 (by decide) ?_
          have e1 := Option.some.inj hf
          subst e1
          exact (elim_l hF) _ _ _ hW (lv_sub hl [1, 2, 0] rfl)
      exact lp_sound (fun sg r hb hz => B195 sg.1 sg.2 r hb hz)
    have B177 : ∀ (x1 : Int32) (w : Md) (r : (Int32 × Md) ⊕ (Int64 × Md)), f_X6_digest_B177 x1 w = some r → (Sum.elim (fun (sg : Int32 × Md) => ∀ (H : Heap) (locs : List Loc) (ls : Array Slot), Wd G A s.heap H (bMd G a o sg.2) locs → lv_has ls 3 [(0, .ref (a o)), (1, .int sg.1)] → WW p l e 4 s m [.ref (a o)] below meth c G A (some (.long out.1)) ((bMd G a o out.2)) H locs 177 ls []) (fun (r : Int64 × Md) => r = out)) r → ∀ (H : Heap) (locs : List Loc) (ls : Array Slot), Wd G A s.heap H (bMd G a o w) locs → lv_has ls 3 [(0, .ref (a o)), (1, .int x1)] → WW p l e 4 s m [.ref (a o)] below meth c G A (some (.long out.1)) ((bMd G a o out.2)) H locs 177 ls [] := by
      intro x1 w r hf hF H locs ls hW hl
      unfold f_X6_digest_B177 at hf
      refine lv_iload_n hx hb dX6_digest_177 rfl (lv_at hl 1 rfl) ?_
      refine lv_iconst (v := 4) hx hb dX6_digest_178 (by decide) ?_
      refine lv_icmp_ge (tgt := 233) hx hb dX6_digest_179 (by decide) (fun c179_6 => ?_) (fun c179_6 => ?_)
      · replace hf := if_t c179_6 hf
        obtain ⟨r2, e2⟩ := om_s hf
        replace hf := e2.1
        replace e2 := e2.2
        subst e2
        replace hF := elim_r hF
        exact J233 _ _ hf hF _ _ _ hW (lv_sub hl [0] rfl)
      · replace hf := if_f c179_6 hf
        refine lv_aload_n hx hb dX6_digest_182 rfl (lv_at hl 0 rfl) ?_
        refine lv_aload_n hx hb dX6_digest_183 rfl (lv_at hl 0 rfl) ?_
        refine k_get C0 hW 6 8 0 (v := .ref (a (o + 5))) rfl (by decide) inX6 mf_X6_26 rfl rfl dX6_digest_184 ?_
        refine lv_iload_n hx hb dX6_digest_187 rfl (lv_at hl 1 rfl) ?_
        have g188_7 := (gd_some hf).1; replace hf := (gd_some hf).2
        refine k_iald C0 hW 5 (ix x1) rfl (inb_in g188_7) rfl dX6_digest_188 ?_
        refine lv_i2l (v := ((md_textSizes w) (ix x1)).toInt64) hx hb dX6_digest_189 rfl ?_
        obtain ⟨q190, hq190⟩ := ob_s hf
        replace hf := hq190.2
        replace hq190 := hq190.1
        refine cW1 (rest := []) (ws1 := (bMd G a o q190)) (st1 := []) C0 hW hl.1 (c_X6_adds l G a o w (((md_textSizes w) (ix x1)).toInt64) _ hq190) cb_X6_adds mm_X6_273 fst_Md 0 6 rfl rfl rfl (by decide) rfl rfl (Nat.le_of_ble_eq_true rfl) ⟨Nat.zero_le _, Nat.zero_le _⟩ dX6_digest_190 rfl (fun H locs hW => ?_)
        refine lv_iconst (v := 0) hx hb dX6_digest_193 (by decide) ?_
        refine lv_istore_n (lv' := [(2, .int (0 : Int32)), (0, .ref (a o)), (1, .int x1)]) hx hb dX6_digest_194 rfl hl (by decide) rfl (fun ls hl => ?_)
        exact L195 _ fuel ((0 : Int32), q190) _ hf hF _ _ _ hW (lv_sub hl [1, 2, 0] rfl)
    exact lp_sound (fun sg r hb hz => B177 sg.1 sg.2 r hb hz)
  have J175 : ∀ (w : Md) (r : Int64 × Md), f_X6_digest_J175 w = some r → (fun (r : Int64 × Md) => r = out) r → ∀ (H : Heap) (locs : List Loc) (ls : Array Slot), Wd G A s.heap H (bMd G a o w) locs → lv_has ls 3 [(0, .ref (a o))] → WW p l e 4 s m [.ref (a o)] below meth c G A (some (.long out.1)) ((bMd G a o out.2)) H locs 175 ls [] := by
    intro w r hf hF H locs ls hW hl
    unfold f_X6_digest_J175 at hf
    refine lv_iconst (v := 0) hx hb dX6_digest_175 (by decide) ?_
    refine lv_istore_n (lv' := [(1, .int (0 : Int32)), (0, .ref (a o))]) hx hb dX6_digest_176 rfl hl (by decide) rfl (fun ls hl => ?_)
    exact L177  fuel ((0 : Int32), w) _ hf hF _ _ _ hW (lv_sub hl [1, 0] rfl)
  have L123 : ∀ (k8 : Nat) (sg : Int32 × Md) (o9 : Int64 × Md), lp (f_X6_digest_L123) k8 sg = some o9 → (fun (r : Int64 × Md) => r = out) o9 → (fun (sg : Int32 × Md) => ∀ (H : Heap) (locs : List Loc) (ls : Array Slot), Wd G A s.heap H (bMd G a o sg.2) locs → lv_has ls 3 [(0, .ref (a o)), (1, .int sg.1)] → WW p l e 4 s m [.ref (a o)] below meth c G A (some (.long out.1)) ((bMd G a o out.2)) H locs 123 ls []) sg := by
    have J169 : ∀ (x1 : Int32) (w : Md) (r : (Int32 × Md) ⊕ (Int64 × Md)), f_X6_digest_J169 w x1 = some r → (Sum.elim (fun (sg : Int32 × Md) => ∀ (H : Heap) (locs : List Loc) (ls : Array Slot), Wd G A s.heap H (bMd G a o sg.2) locs → lv_has ls 3 [(0, .ref (a o)), (1, .int sg.1)] → WW p l e 4 s m [.ref (a o)] below meth c G A (some (.long out.1)) ((bMd G a o out.2)) H locs 123 ls []) (fun (r : Int64 × Md) => r = out)) r → ∀ (H : Heap) (locs : List Loc) (ls : Array Slot), Wd G A s.heap H (bMd G a o w) locs → lv_has ls 3 [(0, .ref (a o)), (1, .int x1)] → WW p l e 4 s m [.ref (a o)] below meth c G A (some (.long out.1)) ((bMd G a o out.2)) H locs 169 ls [] := by
      intro x1 w r hf hF H locs ls hW hl
      unfold f_X6_digest_J169 at hf
      refine lv_iinc (v := (x1 + (1 : Int32))) (lv' := [(1, .int (x1 + (1 : Int32))), (0, .ref (a o))]) hx hb dX6_digest_169 hl (k := 1) rfl rfl (by decide) rfl (fun ls hl => ?_)
      refine lv_goto (tgt := 123) hx hb dX6_digest_172 (by decide) ?_
      have e1 := Option.some.inj hf
      subst e1
      exact (elim_l hF) _ _ _ hW (lv_sub hl [1, 0] rfl)
    have L142 : ∀ (x1 : Int32) (k8 : Nat) (sg : Int32 × Md) (o9 : (Int32 × Md) ⊕ (Int64 × Md)), lp (f_X6_digest_L142 x1) k8 sg = some o9 → (Sum.elim (fun (sg : Int32 × Md) => ∀ (H : Heap) (locs : List Loc) (ls : Array Slot), Wd G A s.heap H (bMd G a o sg.2) locs → lv_has ls 3 [(0, .ref (a o)), (1, .int sg.1)] → WW p l e 4 s m [.ref (a o)] below meth c G A (some (.long out.1)) ((bMd G a o out.2)) H locs 123 ls []) (fun (r : Int64 × Md) => r = out)) o9 → (fun (sg : Int32 × Md) => ∀ (H : Heap) (locs : List Loc) (ls : Array Slot), Wd G A s.heap H (bMd G a o sg.2) locs → lv_has ls 3 [(0, .ref (a o)), (1, .int x1), (2, .int sg.1)] → WW p l e 4 s m [.ref (a o)] below meth c G A (some (.long out.1)) ((bMd G a o out.2)) H locs 142 ls []) sg := by
      intro x1
      have B142 : ∀ (x2 : Int32) (w : Md) (r : (Int32 × Md) ⊕ ((Int32 × Md) ⊕ (Int64 × Md))), f_X6_digest_B142 x1 x2 w = some r → (Sum.elim (fun (sg : Int32 × Md) => ∀ (H : Heap) (locs : List Loc) (ls : Array Slot), Wd G A s.heap H (bMd G a o sg.2) locs → lv_has ls 3 [(0, .ref (a o)), (1, .int x1), (2, .int sg.1)] → WW p l e 4 s m [.ref (a o)] below meth c G A (some (.long out.1)) ((bMd G a o out.2)) H locs 142 ls []) (Sum.elim (fun (sg : Int32 × Md) => ∀ (H : Heap) (locs : List Loc) (ls : Array Slot), Wd G A s.heap H (bMd G a o sg.2) locs → lv_has ls 3 [(0, .ref (a o)), (1, .int sg.1)] → WW p l e 4 s m [.ref (a o)] below meth c G A (some (.long out.1)) ((bMd G a o out.2)) H locs 123 ls []) (fun (r : Int64 × Md) => r = out))) r → ∀ (H : Heap) (locs : List Loc) (ls : Array Slot), Wd G A s.heap H (bMd G a o w) locs → lv_has ls 3 [(0, .ref (a o)), (1, .int x1), (2, .int x2)] → WW p l e 4 s m [.ref (a o)] below meth c G A (some (.long out.1)) ((bMd G a o out.2)) H locs 142 ls [] := by
        intro x2 w r hf hF H locs ls hW hl
        unfold f_X6_digest_B142 at hf
        refine lv_iload_n hx hb dX6_digest_142 rfl (lv_at hl 2 rfl) ?_
        refine lv_aload_n hx hb dX6_digest_143 rfl (lv_at hl 0 rfl) ?_
        refine k_get C0 hW 6 5 0 (v := .ref (a (o + 2))) rfl (by decide) inX6 mf_X6_17 rfl rfl dX6_digest_144 ?_
        refine lv_iload_n hx hb dX6_digest_147 rfl (lv_at hl 1 rfl) ?_
        have g148_12 := (gd_some hf).1; replace hf := (gd_some hf).2
        refine k_iald C0 hW 2 (ix x1) rfl (inb_in g148_12) rfl dX6_digest_148 ?_
        refine lv_icmp_ge (tgt := 169) hx hb dX6_digest_149 (by decide) (fun c149_13 => ?_) (fun c149_13 => ?_)
        · replace hf := if_t c149_13 hf
          obtain ⟨r2, e2⟩ := om_s hf
          replace hf := e2.1
          replace e2 := e2.2
          subst e2
          replace hF := elim_r hF
          exact J169 _ _ _ hf hF _ _ _ hW (lv_sub hl [0, 1] rfl)
        · replace hf := if_f c149_13 hf
          refine lv_aload_n hx hb dX6_digest_152 rfl (lv_at hl 0 rfl) ?_
          refine lv_aload_n hx hb dX6_digest_153 rfl (lv_at hl 0 rfl) ?_
          refine lv_iload_n hx hb dX6_digest_154 rfl (lv_at hl 1 rfl) ?_
          refine lv_iload_n hx hb dX6_digest_155 rfl (lv_at hl 2 rfl) ?_
          obtain ⟨q156, hq156⟩ := ob_s hf
          replace hf := hq156.2
          replace hq156 := hq156.1
          refine cW1 (rest := [.ref (a o)]) (ws1 := (bMd G a o w)) (st1 := [.int q156, .ref (a o)]) C0 hW hl.1 (c_X6_rowAt l G a o w x1 x2 _ hq156) cb_X6_rowAt mm_X6_101 fst_Md 0 6 rfl rfl rfl (by decide) rfl rfl (Nat.le_of_ble_eq_true rfl) ⟨Nat.zero_le _, Nat.zero_le _⟩ dX6_digest_156 rfl (fun H locs hW => ?_)
          refine lv_i2l (v := q156.toInt64) hx hb dX6_digest_159 rfl ?_
          obtain ⟨q160, hq160⟩ := ob_s hf
          replace hf := hq160.2
          replace hq160 := hq160.1
          refine cW1 (rest := []) (ws1 := (bMd G a o q160)) (st1 := []) C0 hW hl.1 (c_X6_adds l G a o w (q156.toInt64) _ hq160) cb_X6_adds mm_X6_273 fst_Md 0 6 rfl rfl rfl (by decide) rfl rfl (Nat.le_of_ble_eq_true rfl) ⟨Nat.zero_le _, Nat.zero_le _⟩ dX6_digest_160 rfl (fun H locs hW => ?_)
          refine lv_iinc (v := (x2 + (1 : Int32))) (lv' := [(2, .int (x2 + (1 : Int32))), (0, .ref (a o)), (1, .int x1)]) hx hb dX6_digest_163 hl (k := 2) rfl rfl (by decide) rfl (fun ls hl => ?_)
          refine lv_goto (tgt := 142) hx hb dX6_digest_166 (by decide) ?_
          have e1 := Option.some.inj hf
          subst e1
          exact (elim_l hF) _ _ _ hW (lv_sub hl [1, 2, 0] rfl)
      exact lp_sound (fun sg r hb hz => B142 sg.1 sg.2 r hb hz)
    have B123 : ∀ (x1 : Int32) (w : Md) (r : (Int32 × Md) ⊕ (Int64 × Md)), f_X6_digest_B123 x1 w = some r → (Sum.elim (fun (sg : Int32 × Md) => ∀ (H : Heap) (locs : List Loc) (ls : Array Slot), Wd G A s.heap H (bMd G a o sg.2) locs → lv_has ls 3 [(0, .ref (a o)), (1, .int sg.1)] → WW p l e 4 s m [.ref (a o)] below meth c G A (some (.long out.1)) ((bMd G a o out.2)) H locs 123 ls []) (fun (r : Int64 × Md) => r = out)) r → ∀ (H : Heap) (locs : List Loc) (ls : Array Slot), Wd G A s.heap H (bMd G a o w) locs → lv_has ls 3 [(0, .ref (a o)), (1, .int x1)] → WW p l e 4 s m [.ref (a o)] below meth c G A (some (.long out.1)) ((bMd G a o out.2)) H locs 123 ls [] := by
      intro x1 w r hf hF H locs ls hW hl
      unfold f_X6_digest_B123 at hf
      refine lv_iload_n hx hb dX6_digest_123 rfl (lv_at hl 1 rfl) ?_
      refine lv_bipush (v := 6) hx hb dX6_digest_124 (by decide) ?_
      refine lv_icmp_ge (tgt := 175) hx hb dX6_digest_126 (by decide) (fun c126_5 => ?_) (fun c126_5 => ?_)
      · replace hf := if_t c126_5 hf
        obtain ⟨r2, e2⟩ := om_s hf
        replace hf := e2.1
        replace e2 := e2.2
        subst e2
        replace hF := elim_r hF
        exact J175 _ _ hf hF _ _ _ hW (lv_sub hl [0] rfl)
      · replace hf := if_f c126_5 hf
        refine lv_aload_n hx hb dX6_digest_129 rfl (lv_at hl 0 rfl) ?_
        refine lv_aload_n hx hb dX6_digest_130 rfl (lv_at hl 0 rfl) ?_
        refine k_get C0 hW 6 5 0 (v := .ref (a (o + 2))) rfl (by decide) inX6 mf_X6_17 rfl rfl dX6_digest_131 ?_
        refine lv_iload_n hx hb dX6_digest_134 rfl (lv_at hl 1 rfl) ?_
        have g135_11 := (gd_some hf).1; replace hf := (gd_some hf).2
        refine k_iald C0 hW 2 (ix x1) rfl (inb_in g135_11) rfl dX6_digest_135 ?_
        refine lv_i2l (v := ((md_sizes w) (ix x1)).toInt64) hx hb dX6_digest_136 rfl ?_
        obtain ⟨q137, hq137⟩ := ob_s hf
        replace hf := hq137.2
        replace hq137 := hq137.1
        refine cW1 (rest := []) (ws1 := (bMd G a o q137)) (st1 := []) C0 hW hl.1 (c_X6_adds l G a o w (((md_sizes w) (ix x1)).toInt64) _ hq137) cb_X6_adds mm_X6_273 fst_Md 0 6 rfl rfl rfl (by decide) rfl rfl (Nat.le_of_ble_eq_true rfl) ⟨Nat.zero_le _, Nat.zero_le _⟩ dX6_digest_137 rfl (fun H locs hW => ?_)
        refine lv_iconst (v := 0) hx hb dX6_digest_140 (by decide) ?_
        refine lv_istore_n (lv' := [(2, .int (0 : Int32)), (0, .ref (a o)), (1, .int x1)]) hx hb dX6_digest_141 rfl hl (by decide) rfl (fun ls hl => ?_)
        exact L142 _ fuel ((0 : Int32), q137) _ hf hF _ _ _ hW (lv_sub hl [1, 2, 0] rfl)
    exact lp_sound (fun sg r hb hz => B123 sg.1 sg.2 r hb hz)
  have J121 : ∀ (w : Md) (r : Int64 × Md), f_X6_digest_J121 w = some r → (fun (r : Int64 × Md) => r = out) r → ∀ (H : Heap) (locs : List Loc) (ls : Array Slot), Wd G A s.heap H (bMd G a o w) locs → lv_has ls 3 [(0, .ref (a o))] → WW p l e 4 s m [.ref (a o)] below meth c G A (some (.long out.1)) ((bMd G a o out.2)) H locs 121 ls [] := by
    intro w r hf hF H locs ls hW hl
    unfold f_X6_digest_J121 at hf
    refine lv_iconst (v := 0) hx hb dX6_digest_121 (by decide) ?_
    refine lv_istore_n (lv' := [(1, .int (0 : Int32)), (0, .ref (a o))]) hx hb dX6_digest_122 rfl hl (by decide) rfl (fun ls hl => ?_)
    exact L123  fuel ((0 : Int32), w) _ hf hF _ _ _ hW (lv_sub hl [1, 0] rfl)
  have L99 : ∀ (k8 : Nat) (sg : Int32 × Md) (o9 : Int64 × Md), lp (f_X6_digest_L99) k8 sg = some o9 → (fun (r : Int64 × Md) => r = out) o9 → (fun (sg : Int32 × Md) => ∀ (H : Heap) (locs : List Loc) (ls : Array Slot), Wd G A s.heap H (bMd G a o sg.2) locs → lv_has ls 3 [(0, .ref (a o)), (1, .int sg.1)] → WW p l e 4 s m [.ref (a o)] below meth c G A (some (.long out.1)) ((bMd G a o out.2)) H locs 99 ls []) sg := by
    have B99 : ∀ (x1 : Int32) (w : Md) (r : (Int32 × Md) ⊕ (Int64 × Md)), f_X6_digest_B99 x1 w = some r → (Sum.elim (fun (sg : Int32 × Md) => ∀ (H : Heap) (locs : List Loc) (ls : Array Slot), Wd G A s.heap H (bMd G a o sg.2) locs → lv_has ls 3 [(0, .ref (a o)), (1, .int sg.1)] → WW p l e 4 s m [.ref (a o)] below meth c G A (some (.long out.1)) ((bMd G a o out.2)) H locs 99 ls []) (fun (r : Int64 × Md) => r = out)) r → ∀ (H : Heap) (locs : List Loc) (ls : Array Slot), Wd G A s.heap H (bMd G a o w) locs → lv_has ls 3 [(0, .ref (a o)), (1, .int x1)] → WW p l e 4 s m [.ref (a o)] below meth c G A (some (.long out.1)) ((bMd G a o out.2)) H locs 99 ls [] := by
      intro x1 w r hf hF H locs ls hW hl
      unfold f_X6_digest_B99 at hf
      refine lv_iload_n hx hb dX6_digest_99 rfl (lv_at hl 1 rfl) ?_
      refine lv_iconst (v := 3) hx hb dX6_digest_100 (by decide) ?_
      refine lv_icmp_ge (tgt := 121) hx hb dX6_digest_101 (by decide) (fun c101_4 => ?_) (fun c101_4 => ?_)
      · replace hf := if_t c101_4 hf
        obtain ⟨r2, e2⟩ := om_s hf
        replace hf := e2.1
        replace e2 := e2.2
        subst e2
        replace hF := elim_r hF
        exact J121 _ _ hf hF _ _ _ hW (lv_sub hl [0] rfl)
      · replace hf := if_f c101_4 hf
        refine lv_aload_n hx hb dX6_digest_104 rfl (lv_at hl 0 rfl) ?_
        refine lv_aload_n hx hb dX6_digest_105 rfl (lv_at hl 0 rfl) ?_
        refine k_get C0 hW 6 28 0 (v := .ref (a (o + 18))) rfl (by decide) inX6 mf_X6_66 rfl rfl dX6_digest_106 ?_
        refine lv_iload_n hx hb dX6_digest_109 rfl (lv_at hl 1 rfl) ?_
        have g110_14 := (gd_some hf).1; replace hf := (gd_some hf).2
        refine k_iald C0 hW 18 (ix x1) rfl (inb_in g110_14) rfl dX6_digest_110 ?_
        refine lv_i2l (v := ((md_keptMany w) (ix x1)).toInt64) hx hb dX6_digest_111 rfl ?_
        obtain ⟨q112, hq112⟩ := ob_s hf
        replace hf := hq112.2
        replace hq112 := hq112.1
        refine cW1 (rest := []) (ws1 := (bMd G a o q112)) (st1 := []) C0 hW hl.1 (c_X6_adds l G a o w (((md_keptMany w) (ix x1)).toInt64) _ hq112) cb_X6_adds mm_X6_273 fst_Md 0 6 rfl rfl rfl (by decide) rfl rfl (Nat.le_of_ble_eq_true rfl) ⟨Nat.zero_le _, Nat.zero_le _⟩ dX6_digest_112 rfl (fun H locs hW => ?_)
        refine lv_iinc (v := (x1 + (1 : Int32))) (lv' := [(1, .int (x1 + (1 : Int32))), (0, .ref (a o))]) hx hb dX6_digest_115 hl (k := 1) rfl rfl (by decide) rfl (fun ls hl => ?_)
        refine lv_goto (tgt := 99) hx hb dX6_digest_118 (by decide) ?_
        have e1 := Option.some.inj hf
        subst e1
        exact (elim_l hF) _ _ _ hW (lv_sub hl [1, 0] rfl)
    exact lp_sound (fun sg r hb hz => B99 sg.1 sg.2 r hb hz)
  have J97 : ∀ (w : Md) (r : Int64 × Md), f_X6_digest_J97 w = some r → (fun (r : Int64 × Md) => r = out) r → ∀ (H : Heap) (locs : List Loc) (ls : Array Slot), Wd G A s.heap H (bMd G a o w) locs → lv_has ls 3 [(0, .ref (a o))] → WW p l e 4 s m [.ref (a o)] below meth c G A (some (.long out.1)) ((bMd G a o out.2)) H locs 97 ls [] := by
    intro w r hf hF H locs ls hW hl
    unfold f_X6_digest_J97 at hf
    refine lv_iconst (v := 0) hx hb dX6_digest_97 (by decide) ?_
    refine lv_istore_n (lv' := [(1, .int (0 : Int32)), (0, .ref (a o))]) hx hb dX6_digest_98 rfl hl (by decide) rfl (fun ls hl => ?_)
    exact L99  fuel ((0 : Int32), w) _ hf hF _ _ _ hW (lv_sub hl [1, 0] rfl)
  have L58 : ∀ (k8 : Nat) (sg : Int32 × Md) (o9 : Int64 × Md), lp (f_X6_digest_L58) k8 sg = some o9 → (fun (r : Int64 × Md) => r = out) o9 → (fun (sg : Int32 × Md) => ∀ (H : Heap) (locs : List Loc) (ls : Array Slot), Wd G A s.heap H (bMd G a o sg.2) locs → lv_has ls 3 [(0, .ref (a o)), (1, .int sg.1)] → WW p l e 4 s m [.ref (a o)] below meth c G A (some (.long out.1)) ((bMd G a o out.2)) H locs 58 ls []) sg := by
    have J91 : ∀ (x1 : Int32) (w : Md) (r : (Int32 × Md) ⊕ (Int64 × Md)), f_X6_digest_J91 w x1 = some r → (Sum.elim (fun (sg : Int32 × Md) => ∀ (H : Heap) (locs : List Loc) (ls : Array Slot), Wd G A s.heap H (bMd G a o sg.2) locs → lv_has ls 3 [(0, .ref (a o)), (1, .int sg.1)] → WW p l e 4 s m [.ref (a o)] below meth c G A (some (.long out.1)) ((bMd G a o out.2)) H locs 58 ls []) (fun (r : Int64 × Md) => r = out)) r → ∀ (H : Heap) (locs : List Loc) (ls : Array Slot), Wd G A s.heap H (bMd G a o w) locs → lv_has ls 3 [(0, .ref (a o)), (1, .int x1)] → WW p l e 4 s m [.ref (a o)] below meth c G A (some (.long out.1)) ((bMd G a o out.2)) H locs 91 ls [] := by
      intro x1 w r hf hF H locs ls hW hl
      unfold f_X6_digest_J91 at hf
      refine lv_iinc (v := (x1 + (1 : Int32))) (lv' := [(1, .int (x1 + (1 : Int32))), (0, .ref (a o))]) hx hb dX6_digest_91 hl (k := 1) rfl rfl (by decide) rfl (fun ls hl => ?_)
      refine lv_goto (tgt := 58) hx hb dX6_digest_94 (by decide) ?_
      have e1 := Option.some.inj hf
      subst e1
      exact (elim_l hF) _ _ _ hW (lv_sub hl [1, 0] rfl)
    have L68 : ∀ (x1 : Int32) (k8 : Nat) (sg : Int32 × Md) (o9 : (Int32 × Md) ⊕ (Int64 × Md)), lp (f_X6_digest_L68 x1) k8 sg = some o9 → (Sum.elim (fun (sg : Int32 × Md) => ∀ (H : Heap) (locs : List Loc) (ls : Array Slot), Wd G A s.heap H (bMd G a o sg.2) locs → lv_has ls 3 [(0, .ref (a o)), (1, .int sg.1)] → WW p l e 4 s m [.ref (a o)] below meth c G A (some (.long out.1)) ((bMd G a o out.2)) H locs 58 ls []) (fun (r : Int64 × Md) => r = out)) o9 → (fun (sg : Int32 × Md) => ∀ (H : Heap) (locs : List Loc) (ls : Array Slot), Wd G A s.heap H (bMd G a o sg.2) locs → lv_has ls 3 [(0, .ref (a o)), (1, .int x1), (2, .int sg.1)] → WW p l e 4 s m [.ref (a o)] below meth c G A (some (.long out.1)) ((bMd G a o out.2)) H locs 68 ls []) sg := by
      intro x1
      have B68 : ∀ (x2 : Int32) (w : Md) (r : (Int32 × Md) ⊕ ((Int32 × Md) ⊕ (Int64 × Md))), f_X6_digest_B68 x1 x2 w = some r → (Sum.elim (fun (sg : Int32 × Md) => ∀ (H : Heap) (locs : List Loc) (ls : Array Slot), Wd G A s.heap H (bMd G a o sg.2) locs → lv_has ls 3 [(0, .ref (a o)), (1, .int x1), (2, .int sg.1)] → WW p l e 4 s m [.ref (a o)] below meth c G A (some (.long out.1)) ((bMd G a o out.2)) H locs 68 ls []) (Sum.elim (fun (sg : Int32 × Md) => ∀ (H : Heap) (locs : List Loc) (ls : Array Slot), Wd G A s.heap H (bMd G a o sg.2) locs → lv_has ls 3 [(0, .ref (a o)), (1, .int sg.1)] → WW p l e 4 s m [.ref (a o)] below meth c G A (some (.long out.1)) ((bMd G a o out.2)) H locs 58 ls []) (fun (r : Int64 × Md) => r = out))) r → ∀ (H : Heap) (locs : List Loc) (ls : Array Slot), Wd G A s.heap H (bMd G a o w) locs → lv_has ls 3 [(0, .ref (a o)), (1, .int x1), (2, .int x2)] → WW p l e 4 s m [.ref (a o)] below meth c G A (some (.long out.1)) ((bMd G a o out.2)) H locs 68 ls [] := by
        intro x2 w r hf hF H locs ls hW hl
        unfold f_X6_digest_B68 at hf
        refine lv_iload_n hx hb dX6_digest_68 rfl (lv_at hl 2 rfl) ?_
        refine lv_bipush (v := 6) hx hb dX6_digest_69 (by decide) ?_
        refine lv_icmp_ge (tgt := 91) hx hb dX6_digest_71 (by decide) (fun c71_15 => ?_) (fun c71_15 => ?_)
        · replace hf := if_t c71_15 hf
          obtain ⟨r2, e2⟩ := om_s hf
          replace hf := e2.1
          replace e2 := e2.2
          subst e2
          replace hF := elim_r hF
          exact J91 _ _ _ hf hF _ _ _ hW (lv_sub hl [0, 1] rfl)
        · replace hf := if_f c71_15 hf
          refine lv_aload_n hx hb dX6_digest_74 rfl (lv_at hl 0 rfl) ?_
          refine lv_aload_n hx hb dX6_digest_75 rfl (lv_at hl 0 rfl) ?_
          refine lv_iload_n hx hb dX6_digest_76 rfl (lv_at hl 1 rfl) ?_
          refine lv_iload_n hx hb dX6_digest_77 rfl (lv_at hl 2 rfl) ?_
          obtain ⟨q78, hq78⟩ := ob_s hf
          replace hf := hq78.2
          replace hq78 := hq78.1
          refine cW1 (rest := [.ref (a o)]) (ws1 := (bMd G a o w)) (st1 := [.int q78, .ref (a o)]) C0 hW hl.1 (c_X6_spokeTells l G a o w x1 x2 _ hq78) cb_X6_spokeTells mm_X6_172 fst_Md 0 6 rfl rfl rfl (by decide) rfl rfl (Nat.le_of_ble_eq_true rfl) ⟨Nat.zero_le _, Nat.zero_le _⟩ dX6_digest_78 rfl (fun H locs hW => ?_)
          refine lv_i2l (v := q78.toInt64) hx hb dX6_digest_81 rfl ?_
          obtain ⟨q82, hq82⟩ := ob_s hf
          replace hf := hq82.2
          replace hq82 := hq82.1
          refine cW1 (rest := []) (ws1 := (bMd G a o q82)) (st1 := []) C0 hW hl.1 (c_X6_adds l G a o w (q78.toInt64) _ hq82) cb_X6_adds mm_X6_273 fst_Md 0 6 rfl rfl rfl (by decide) rfl rfl (Nat.le_of_ble_eq_true rfl) ⟨Nat.zero_le _, Nat.zero_le _⟩ dX6_digest_82 rfl (fun H locs hW => ?_)
          refine lv_iinc (v := (x2 + (1 : Int32))) (lv' := [(2, .int (x2 + (1 : Int32))), (0, .ref (a o)), (1, .int x1)]) hx hb dX6_digest_85 hl (k := 2) rfl rfl (by decide) rfl (fun ls hl => ?_)
          refine lv_goto (tgt := 68) hx hb dX6_digest_88 (by decide) ?_
          have e1 := Option.some.inj hf
          subst e1
          exact (elim_l hF) _ _ _ hW (lv_sub hl [1, 2, 0] rfl)
      exact lp_sound (fun sg r hb hz => B68 sg.1 sg.2 r hb hz)
    have B58 : ∀ (x1 : Int32) (w : Md) (r : (Int32 × Md) ⊕ (Int64 × Md)), f_X6_digest_B58 x1 w = some r → (Sum.elim (fun (sg : Int32 × Md) => ∀ (H : Heap) (locs : List Loc) (ls : Array Slot), Wd G A s.heap H (bMd G a o sg.2) locs → lv_has ls 3 [(0, .ref (a o)), (1, .int sg.1)] → WW p l e 4 s m [.ref (a o)] below meth c G A (some (.long out.1)) ((bMd G a o out.2)) H locs 58 ls []) (fun (r : Int64 × Md) => r = out)) r → ∀ (H : Heap) (locs : List Loc) (ls : Array Slot), Wd G A s.heap H (bMd G a o w) locs → lv_has ls 3 [(0, .ref (a o)), (1, .int x1)] → WW p l e 4 s m [.ref (a o)] below meth c G A (some (.long out.1)) ((bMd G a o out.2)) H locs 58 ls [] := by
      intro x1 w r hf hF H locs ls hW hl
      unfold f_X6_digest_B58 at hf
      refine lv_iload_n hx hb dX6_digest_58 rfl (lv_at hl 1 rfl) ?_
      refine lv_aload_n hx hb dX6_digest_59 rfl (lv_at hl 0 rfl) ?_
      refine k_get C0 hW 6 18 0 (v := .int (md_n w)) rfl (by decide) inX6 mf_X6_142 rfl rfl dX6_digest_60 ?_
      refine lv_icmp_ge (tgt := 97) hx hb dX6_digest_63 (by decide) (fun c63_3 => ?_) (fun c63_3 => ?_)
      · replace hf := if_t c63_3 hf
        obtain ⟨r2, e2⟩ := om_s hf
        replace hf := e2.1
        replace e2 := e2.2
        subst e2
        replace hF := elim_r hF
        exact J97 _ _ hf hF _ _ _ hW (lv_sub hl [0] rfl)
      · replace hf := if_f c63_3 hf
        refine lv_iconst (v := 0) hx hb dX6_digest_66 (by decide) ?_
        refine lv_istore_n (lv' := [(2, .int (0 : Int32)), (0, .ref (a o)), (1, .int x1)]) hx hb dX6_digest_67 rfl hl (by decide) rfl (fun ls hl => ?_)
        exact L68 _ fuel ((0 : Int32), w) _ hf hF _ _ _ hW (lv_sub hl [1, 2, 0] rfl)
    exact lp_sound (fun sg r hb hz => B58 sg.1 sg.2 r hb hz)
  have J56 : ∀ (w : Md) (r : Int64 × Md), f_X6_digest_J56 w = some r → (fun (r : Int64 × Md) => r = out) r → ∀ (H : Heap) (locs : List Loc) (ls : Array Slot), Wd G A s.heap H (bMd G a o w) locs → lv_has ls 3 [(0, .ref (a o))] → WW p l e 4 s m [.ref (a o)] below meth c G A (some (.long out.1)) ((bMd G a o out.2)) H locs 56 ls [] := by
    intro w r hf hF H locs ls hW hl
    unfold f_X6_digest_J56 at hf
    refine lv_iconst (v := 0) hx hb dX6_digest_56 (by decide) ?_
    refine lv_istore_n (lv' := [(1, .int (0 : Int32)), (0, .ref (a o))]) hx hb dX6_digest_57 rfl hl (by decide) rfl (fun ls hl => ?_)
    exact L58  fuel ((0 : Int32), w) _ hf hF _ _ _ hW (lv_sub hl [1, 0] rfl)
  have L33 : ∀ (k8 : Nat) (sg : Int32 × Md) (o9 : Int64 × Md), lp (f_X6_digest_L33) k8 sg = some o9 → (fun (r : Int64 × Md) => r = out) o9 → (fun (sg : Int32 × Md) => ∀ (H : Heap) (locs : List Loc) (ls : Array Slot), Wd G A s.heap H (bMd G a o sg.2) locs → lv_has ls 3 [(0, .ref (a o)), (1, .int sg.1)] → WW p l e 4 s m [.ref (a o)] below meth c G A (some (.long out.1)) ((bMd G a o out.2)) H locs 33 ls []) sg := by
    have B33 : ∀ (x1 : Int32) (w : Md) (r : (Int32 × Md) ⊕ (Int64 × Md)), f_X6_digest_B33 x1 w = some r → (Sum.elim (fun (sg : Int32 × Md) => ∀ (H : Heap) (locs : List Loc) (ls : Array Slot), Wd G A s.heap H (bMd G a o sg.2) locs → lv_has ls 3 [(0, .ref (a o)), (1, .int sg.1)] → WW p l e 4 s m [.ref (a o)] below meth c G A (some (.long out.1)) ((bMd G a o out.2)) H locs 33 ls []) (fun (r : Int64 × Md) => r = out)) r → ∀ (H : Heap) (locs : List Loc) (ls : Array Slot), Wd G A s.heap H (bMd G a o w) locs → lv_has ls 3 [(0, .ref (a o)), (1, .int x1)] → WW p l e 4 s m [.ref (a o)] below meth c G A (some (.long out.1)) ((bMd G a o out.2)) H locs 33 ls [] := by
      intro x1 w r hf hF H locs ls hW hl
      unfold f_X6_digest_B33 at hf
      refine lv_iload_n hx hb dX6_digest_33 rfl (lv_at hl 1 rfl) ?_
      refine lv_bipush (v := 8) hx hb dX6_digest_34 (by decide) ?_
      refine lv_icmp_ge (tgt := 56) hx hb dX6_digest_36 (by decide) (fun c36_2 => ?_) (fun c36_2 => ?_)
      · replace hf := if_t c36_2 hf
        obtain ⟨r2, e2⟩ := om_s hf
        replace hf := e2.1
        replace e2 := e2.2
        subst e2
        replace hF := elim_r hF
        exact J56 _ _ hf hF _ _ _ hW (lv_sub hl [0] rfl)
      · replace hf := if_f c36_2 hf
        refine lv_aload_n hx hb dX6_digest_39 rfl (lv_at hl 0 rfl) ?_
        refine lv_aload_n hx hb dX6_digest_40 rfl (lv_at hl 0 rfl) ?_
        refine k_get C0 hW 6 20 0 (v := .ref (a (o + 11))) rfl (by decide) inX6 mf_X6_45 rfl rfl dX6_digest_41 ?_
        refine lv_iload_n hx hb dX6_digest_44 rfl (lv_at hl 1 rfl) ?_
        have g45_16 := (gd_some hf).1; replace hf := (gd_some hf).2
        refine k_iald C0 hW 11 (ix x1) rfl (inb_in g45_16) rfl dX6_digest_45 ?_
        refine lv_i2l (v := ((md_ruts w) (ix x1)).toInt64) hx hb dX6_digest_46 rfl ?_
        obtain ⟨q47, hq47⟩ := ob_s hf
        replace hf := hq47.2
        replace hq47 := hq47.1
        refine cW1 (rest := []) (ws1 := (bMd G a o q47)) (st1 := []) C0 hW hl.1 (c_X6_adds l G a o w (((md_ruts w) (ix x1)).toInt64) _ hq47) cb_X6_adds mm_X6_273 fst_Md 0 6 rfl rfl rfl (by decide) rfl rfl (Nat.le_of_ble_eq_true rfl) ⟨Nat.zero_le _, Nat.zero_le _⟩ dX6_digest_47 rfl (fun H locs hW => ?_)
        refine lv_iinc (v := (x1 + (1 : Int32))) (lv' := [(1, .int (x1 + (1 : Int32))), (0, .ref (a o))]) hx hb dX6_digest_50 hl (k := 1) rfl rfl (by decide) rfl (fun ls hl => ?_)
        refine lv_goto (tgt := 33) hx hb dX6_digest_53 (by decide) ?_
        have e1 := Option.some.inj hf
        subst e1
        exact (elim_l hF) _ _ _ hW (lv_sub hl [1, 0] rfl)
    exact lp_sound (fun sg r hb hz => B33 sg.1 sg.2 r hb hz)
  have J31 : ∀ (w : Md) (r : Int64 × Md), f_X6_digest_J31 w = some r → (fun (r : Int64 × Md) => r = out) r → ∀ (H : Heap) (locs : List Loc) (ls : Array Slot), Wd G A s.heap H (bMd G a o w) locs → lv_has ls 3 [(0, .ref (a o))] → WW p l e 4 s m [.ref (a o)] below meth c G A (some (.long out.1)) ((bMd G a o out.2)) H locs 31 ls [] := by
    intro w r hf hF H locs ls hW hl
    unfold f_X6_digest_J31 at hf
    refine lv_iconst (v := 0) hx hb dX6_digest_31 (by decide) ?_
    refine lv_istore_n (lv' := [(1, .int (0 : Int32)), (0, .ref (a o))]) hx hb dX6_digest_32 rfl hl (by decide) rfl (fun ls hl => ?_)
    exact L33  fuel ((0 : Int32), w) _ hf hF _ _ _ hW (lv_sub hl [1, 0] rfl)
  have L9 : ∀ (k8 : Nat) (sg : Int32 × Md) (o9 : Int64 × Md), lp (f_X6_digest_L9) k8 sg = some o9 → (fun (r : Int64 × Md) => r = out) o9 → (fun (sg : Int32 × Md) => ∀ (H : Heap) (locs : List Loc) (ls : Array Slot), Wd G A s.heap H (bMd G a o sg.2) locs → lv_has ls 3 [(0, .ref (a o)), (1, .int sg.1)] → WW p l e 4 s m [.ref (a o)] below meth c G A (some (.long out.1)) ((bMd G a o out.2)) H locs 9 ls []) sg := by
    have B9 : ∀ (x1 : Int32) (w : Md) (r : (Int32 × Md) ⊕ (Int64 × Md)), f_X6_digest_B9 x1 w = some r → (Sum.elim (fun (sg : Int32 × Md) => ∀ (H : Heap) (locs : List Loc) (ls : Array Slot), Wd G A s.heap H (bMd G a o sg.2) locs → lv_has ls 3 [(0, .ref (a o)), (1, .int sg.1)] → WW p l e 4 s m [.ref (a o)] below meth c G A (some (.long out.1)) ((bMd G a o out.2)) H locs 9 ls []) (fun (r : Int64 × Md) => r = out)) r → ∀ (H : Heap) (locs : List Loc) (ls : Array Slot), Wd G A s.heap H (bMd G a o w) locs → lv_has ls 3 [(0, .ref (a o)), (1, .int x1)] → WW p l e 4 s m [.ref (a o)] below meth c G A (some (.long out.1)) ((bMd G a o out.2)) H locs 9 ls [] := by
      intro x1 w r hf hF H locs ls hW hl
      unfold f_X6_digest_B9 at hf
      refine lv_iload_n hx hb dX6_digest_9 rfl (lv_at hl 1 rfl) ?_
      refine lv_bipush (v := 12) hx hb dX6_digest_10 (by decide) ?_
      refine lv_icmp_gt (tgt := 31) hx hb dX6_digest_12 (by decide) (fun c12_1 => ?_) (fun c12_1 => ?_)
      · replace hf := if_t c12_1 hf
        obtain ⟨r2, e2⟩ := om_s hf
        replace hf := e2.1
        replace e2 := e2.2
        subst e2
        replace hF := elim_r hF
        exact J31 _ _ hf hF _ _ _ hW (lv_sub hl [0] rfl)
      · replace hf := if_f c12_1 hf
        refine lv_aload_n hx hb dX6_digest_15 rfl (lv_at hl 0 rfl) ?_
        refine lv_aload_n hx hb dX6_digest_16 rfl (lv_at hl 0 rfl) ?_
        refine lv_iload_n hx hb dX6_digest_17 rfl (lv_at hl 1 rfl) ?_
        obtain ⟨q18, hq18⟩ := ob_s hf
        replace hf := hq18.2
        replace hq18 := hq18.1
        refine cW1 (rest := [.ref (a o)]) (ws1 := (bMd G a o w)) (st1 := [.int q18, .ref (a o)]) C0 hW hl.1 (c_X6_counted l G a o w x1 _ hq18) cb_X6_counted mm_X6_263 fst_Md 0 6 rfl rfl rfl (by decide) rfl rfl (Nat.le_of_ble_eq_true rfl) ⟨Nat.zero_le _, Nat.zero_le _⟩ dX6_digest_18 rfl (fun H locs hW => ?_)
        refine lv_i2l (v := q18.toInt64) hx hb dX6_digest_21 rfl ?_
        obtain ⟨q22, hq22⟩ := ob_s hf
        replace hf := hq22.2
        replace hq22 := hq22.1
        refine cW1 (rest := []) (ws1 := (bMd G a o q22)) (st1 := []) C0 hW hl.1 (c_X6_adds l G a o w (q18.toInt64) _ hq22) cb_X6_adds mm_X6_273 fst_Md 0 6 rfl rfl rfl (by decide) rfl rfl (Nat.le_of_ble_eq_true rfl) ⟨Nat.zero_le _, Nat.zero_le _⟩ dX6_digest_22 rfl (fun H locs hW => ?_)
        refine lv_iinc (v := (x1 + (1 : Int32))) (lv' := [(1, .int (x1 + (1 : Int32))), (0, .ref (a o))]) hx hb dX6_digest_25 hl (k := 1) rfl rfl (by decide) rfl (fun ls hl => ?_)
        refine lv_goto (tgt := 9) hx hb dX6_digest_28 (by decide) ?_
        have e1 := Option.some.inj hf
        subst e1
        exact (elim_l hF) _ _ _ hW (lv_sub hl [1, 0] rfl)
    exact lp_sound (fun sg r hb hz => B9 sg.1 sg.2 r hb hz)
  obtain ⟨r, hr⟩ : ∃ r, f_X6_digest w = some r ∧ r = out := ⟨out, hf, rfl⟩
  replace hf := hr.1
  have hF := hr.2
  clear hr
  unfold f_X6_digest at hf
  refine lv_aload_n hx hb dX6_digest_0 rfl (lv_at hl 0 rfl) ?_
  refine lv_ldc2 hx hb C0.2.2.2.2.2.1 (C0.2.2.2.2.2.2.1 _ mk_X6_271) dX6_digest_1 ?_
  refine k_put C0 hW 6 33 0 rfl (by decide) inX6 tyX6_ok nmX6 mf_X6_268 rfl rfl rfl rfl (Nat.le_of_ble_eq_true rfl) dX6_digest_4 (fun H locs hW => ?_)
  have hW : Wd G A s.heap H (bMd G a o (md_set_h w (17 : Int64))) locs := hW
  refine lv_iconst (v := 0) hx hb dX6_digest_7 (by decide) ?_
  refine lv_istore_n (lv' := [(1, .int (0 : Int32)), (0, .ref (a o))]) hx hb dX6_digest_8 rfl hl (by decide) rfl (fun ls hl => ?_)
  exact L9  fuel ((0 : Int32), (md_set_h w (17 : Int64))) _ hf hF _ _ _ hW (lv_sub hl [1, 0] rfl)

def f_X6_puts (k : Nat) (f : Ar) (x1 : Int32) : Option (Ar) :=
  gd (inb (3 : Int32) k) (gd (inb (3 : Int32) k) (gd (inb ((4 : Int32) + x1) k) (some (upd (upd f (ix (3 : Int32)) ((f (ix (3 : Int32))) ||| (jshl (1 : Int32) x1))) (ix ((4 : Int32) + x1)) (0 : Int32)))))
set_option maxRecDepth 100000 in
set_option maxHeartbeats 1000000 in
theorem c_X6_puts (l : Launch) (G : GG) (aa : Nat) (k : Nat) (f : Ar) (x1 : Int32) (out : Ar) (hf : f_X6_puts k f x1 = some out) : Cn l G 0 yX6_puts cX6_puts 2 (none) [.ref (aa), .int x1] ([(aa, eI G k f)]) (none) ([(aa, eI G k out)]) := by
  refine cn_start (by decide) (Nat.le_of_ble_eq_true rfl) ?_
  intro p e s m below meth c A ls C0 hW hl
  have hx := C0.1
  have hb := C0.2.1
  have hl : lv_has ls 2 [(0, .ref (aa)), (1, .int x1)] := hl
  obtain ⟨r, hr⟩ : ∃ r, f_X6_puts k f x1 = some r ∧ r = out := ⟨out, hf, rfl⟩
  replace hf := hr.1
  have hF := hr.2
  clear hr
  unfold f_X6_puts at hf
  refine lv_aload_n hx hb dX6_puts_0 rfl (lv_at hl 0 rfl) ?_
  refine lv_iconst (v := 3) hx hb dX6_puts_1 (by decide) ?_
  refine lv_dup2_11 hx hb dX6_puts_2 rfl rfl ?_
  have g3_1 := (gd_some hf).1; replace hf := (gd_some hf).2
  refine k_iald C0 hW 0 (ix (3 : Int32)) rfl (inb_in g3_1) rfl dX6_puts_3 ?_
  refine lv_iconst (v := 1) hx hb dX6_puts_4 (by decide) ?_
  refine lv_iload_n hx hb dX6_puts_5 rfl (lv_at hl 1 rfl) ?_
  refine lv_ishl hx hb dX6_puts_6 ?_
  refine lv_ior hx hb dX6_puts_7 ?_
  have g8_2 := (gd_some hf).1; replace hf := (gd_some hf).2
  refine k_iast C0 hW 0 (ix (3 : Int32)) rfl (inb_in g8_2) rfl dX6_puts_8 (fun H locs hW => ?_)
  have hW : Wd G A s.heap H ([(aa, eI G k (upd f (ix (3 : Int32)) ((f (ix (3 : Int32))) ||| (jshl (1 : Int32) x1))))]) locs := hW
  refine lv_aload_n hx hb dX6_puts_9 rfl (lv_at hl 0 rfl) ?_
  refine lv_iconst (v := 4) hx hb dX6_puts_10 (by decide) ?_
  refine lv_iload_n hx hb dX6_puts_11 rfl (lv_at hl 1 rfl) ?_
  refine lv_iadd hx hb dX6_puts_12 ?_
  refine lv_iconst (v := 0) hx hb dX6_puts_13 (by decide) ?_
  have g14_3 := (gd_some hf).1; replace hf := (gd_some hf).2
  refine k_iast C0 hW 0 (ix ((4 : Int32) + x1)) rfl (inb_in g14_3) rfl dX6_puts_14 (fun H locs hW => ?_)
  have hW : Wd G A s.heap H ([(aa, eI G k (upd (upd f (ix (3 : Int32)) ((f (ix (3 : Int32))) ||| (jshl (1 : Int32) x1))) (ix ((4 : Int32) + x1)) (0 : Int32)))]) locs := hW
  have e1 := Option.some.inj hf
  subst e1
  have hF : ((upd (upd f (ix (3 : Int32)) ((f (ix (3 : Int32))) ||| (jshl (1 : Int32) x1))) (ix ((4 : Int32) + x1)) (0 : Int32)) : Ar) = out := hF
  subst hF
  exact k_vret C0 hW dX6_puts_15

def f_X6_isMoved_J184 (w : Md) (x1 : Int32) (x2 : Int32) (x3 : Int32) (x4 : Int32) (x5 : Int32) : Option ((Int32 × Int32 × Int32 × Md) ⊕ (Int32 × Md)) :=
  some (Sum.inl (x3, x4, (x5 + (1 : Int32)), w))
def f_X6_isMoved_J161 (w : Md) (x1 : Int32) (x2 : Int32) (x3 : Int32) (x4 : Int32) (x5 : Int32) (x6 : Int32) : Option ((Int32 × Int32 × Int32 × Md) ⊕ (Int32 × Md)) :=
  if x4 = 0 then (f_X6_isMoved_J184 w x1 x2 x3 x4 x5) else (if (md_n w) ≤ x6 then (f_X6_isMoved_J184 w x1 x2 x3 x4 x5) else (Option.bind (f_X6_puts 12 (md_tried w) x6) (fun q181 => f_X6_isMoved_J184 (md_set_tried w q181) x1 x2 x3 x4 x5)))
def f_X6_isMoved_J120 (w : Md) (x1 : Int32) (x2 : Int32) (x3 : Int32) (x5 : Int32) (x6 : Int32) (t0 : Int32) : Option ((Int32 × Int32 × Int32 × Md) ⊕ (Int32 × Md)) :=
  if t0 = 0 then (f_X6_isMoved_J161 w x1 x2 x3 t0 x5 x6) else (if (md_n w) ≤ x6 then (f_X6_isMoved_J161 w x1 x2 x3 t0 x5 x6) else (if (jrem x5 (2 : Int32)) = 0 then (f_X6_isMoved_J184 (md_set_tried w (upd (md_tried w) 3 (((md_tried w) 3) &&& ((jshl (1 : Int32) x6) ^^^ (-1 : Int32))))) x1 x2 x3 t0 x5) else (f_X6_isMoved_J161 w x1 x2 x3 t0 x5 x6)))
def f_X6_isMoved_J119 (w : Md) (x1 : Int32) (x2 : Int32) (x3 : Int32) (x5 : Int32) (x6 : Int32) : Option ((Int32 × Int32 × Int32 × Md) ⊕ (Int32 × Md)) :=
  f_X6_isMoved_J120 w x1 x2 x3 x5 x6 (0 : Int32)
def f_X6_isMoved_J115 (w : Md) (x1 : Int32) (x2 : Int32) (x3 : Int32) (x5 : Int32) (x6 : Int32) : Option ((Int32 × Int32 × Int32 × Md) ⊕ (Int32 × Md)) :=
  f_X6_isMoved_J120 w x1 x2 x3 x5 x6 (1 : Int32)
def f_X6_isMoved_J112 (w : Md) (x1 : Int32) (x2 : Int32) (x3 : Int32) (x5 : Int32) (x6 : Int32) (t0 : Int32) (t1 : Int32) : Option ((Int32 × Int32 × Int32 × Md) ⊕ (Int32 × Md)) :=
  if t0 = t1 then (f_X6_isMoved_J115 w x1 x2 x3 x5 x6) else (f_X6_isMoved_J119 w x1 x2 x3 x5 x6)
def f_X6_isMoved_J75 (w : Md) (x1 : Int32) (x2 : Int32) (x3 : Int32) (x4 : Int32) (x5 : Int32) (x6 : Int32) (t0 : Int32) : Option ((Int32 × Int32 × Int32 × Md) ⊕ (Int32 × Md)) :=
  if x4 = 0 then (f_X6_isMoved_J119 w x1 x2 x3 x5 x6) else (if x6 = (8 : Int32) then (f_X6_isMoved_J115 w x1 x2 x3 x5 x6) else (if (md_n w) ≤ x6 then (f_X6_isMoved_J119 w x1 x2 x3 x5 x6) else (if (jrem x5 (2 : Int32)) = 0 then (f_X6_isMoved_J112 w x1 x2 x3 x5 x6 t0 (1 : Int32)) else (f_X6_isMoved_J112 w x1 x2 x3 x5 x6 t0 (0 : Int32)))))
def f_X6_isMoved_J74 (w : Md) (x1 : Int32) (x2 : Int32) (x3 : Int32) (x4 : Int32) (x5 : Int32) (x6 : Int32) : Option ((Int32 × Int32 × Int32 × Md) ⊕ (Int32 × Md)) :=
  f_X6_isMoved_J75 w x1 x2 x3 x4 x5 x6 (0 : Int32)
def f_X6_isMoved_B28 (x1 : Int32) (x2 : Int32) (x3 : Int32) (x4 : Int32) (x5 : Int32) (w : Md) : Option ((Int32 × Int32 × Int32 × Md) ⊕ (Int32 × Md)) :=
  if x2 ≤ x5 then (Option.map Sum.inr (gd (isB x4) (some (x4, w)))) else (gd (decide (¬ x3 = 0)) (nm (jrem (x1 / x3) (9 : Int32)) (fun v40 => if (md_n w) ≤ v40 then (f_X6_isMoved_J74 w x1 x2 (x3 / (9 : Int32)) x4 x5 v40) else (Option.bind (f_X6_has ((md_tried w) 3) v40) (fun q64 => if q64 = 0 then (f_X6_isMoved_J74 w x1 x2 (x3 / (9 : Int32)) x4 x5 v40) else (f_X6_isMoved_J75 w x1 x2 (x3 / (9 : Int32)) x4 x5 v40 (1 : Int32)))))))
def f_X6_isMoved_L28 (x1 : Int32) (x2 : Int32) (sg : Int32 × Int32 × Int32 × Md) : Option ((Int32 × Int32 × Int32 × Md) ⊕ (Int32 × Md)) := f_X6_isMoved_B28 x1 x2 sg.1 sg.2.1 sg.2.2.1 sg.2.2.2
def f_X6_isMoved_J22 (w : Md) (x1 : Int32) (x2 : Int32) (x3 : Int32) : Option (Int32 × Md) :=
  lp (f_X6_isMoved_L28 x1 x2) fuel (x3, (1 : Int32), (0 : Int32), w)
def f_X6_isMoved_B5 (w : Md) (x1 : Int32) (x2 : Int32) (x3 : Int32) (x4 : Int32) : Option ((Int32 × Int32) ⊕ (Int32 × Md)) :=
  if x2 ≤ x4 then (Option.map Sum.inr (f_X6_isMoved_J22 w x1 x2 x3)) else (some (Sum.inl ((x3 * (9 : Int32)), (x4 + (1 : Int32)))))
def f_X6_isMoved_L5 (w : Md) (x1 : Int32) (x2 : Int32) (sg : Int32 × Int32) : Option ((Int32 × Int32) ⊕ (Int32 × Md)) := f_X6_isMoved_B5 w x1 x2 sg.1 sg.2
def f_X6_isMoved (w : Md) (x1 : Int32) (x2 : Int32) : Option (Int32 × Md) :=
  lp (f_X6_isMoved_L5 w x1 x2) fuel ((1 : Int32), (1 : Int32))
set_option maxRecDepth 100000 in
set_option maxHeartbeats 1000000 in
theorem c_X6_isMoved (l : Launch) (G : GG) (a : Nat → Nat) (o : Nat) (w : Md) (x1 : Int32) (x2 : Int32) (out : Int32 × Md) (hf : f_X6_isMoved w x1 x2 = some out) : Cn l G 1 yX6_isMoved cX6_isMoved 8 (some .boolean) [.ref (a o), .int x1, .int x2] (bMd G a o w) (some (.int out.1)) (bMd G a o out.2) := by
  refine cn_start (by decide) (Nat.le_of_ble_eq_true rfl) ?_
  intro p e s m below meth c A ls C0 hW hl
  have hx := C0.1
  have hb := C0.2.1
  have hl : lv_has ls 8 [(0, .ref (a o)), (1, .int x1), (2, .int x2)] := hl
  have L28 : ∀ (k8 : Nat) (sg : Int32 × Int32 × Int32 × Md) (o9 : Int32 × Md), lp (f_X6_isMoved_L28 x1 x2) k8 sg = some o9 → (fun (r : Int32 × Md) => r = out) o9 → (fun (sg : Int32 × Int32 × Int32 × Md) => ∀ (H : Heap) (locs : List Loc) (ls : Array Slot), Wd G A s.heap H (bMd G a o sg.2.2.2) locs → lv_has ls 8 [(0, .ref (a o)), (1, .int x1), (2, .int x2), (3, .int sg.1), (4, .int sg.2.1), (5, .int sg.2.2.1)] → WW p l e 1 s m [.ref (a o), .int x1, .int x2] below meth c G A (some (.int out.1)) ((bMd G a o out.2)) H locs 28 ls []) sg := by
    have J184 : ∀ (x3 : Int32) (x4 : Int32) (x5 : Int32) (w : Md) (r : (Int32 × Int32 × Int32 × Md) ⊕ (Int32 × Md)), f_X6_isMoved_J184 w x1 x2 x3 x4 x5 = some r → (Sum.elim (fun (sg : Int32 × Int32 × Int32 × Md) => ∀ (H : Heap) (locs : List Loc) (ls : Array Slot), Wd G A s.heap H (bMd G a o sg.2.2.2) locs → lv_has ls 8 [(0, .ref (a o)), (1, .int x1), (2, .int x2), (3, .int sg.1), (4, .int sg.2.1), (5, .int sg.2.2.1)] → WW p l e 1 s m [.ref (a o), .int x1, .int x2] below meth c G A (some (.int out.1)) ((bMd G a o out.2)) H locs 28 ls []) (fun (r : Int32 × Md) => r = out)) r → ∀ (H : Heap) (locs : List Loc) (ls : Array Slot), Wd G A s.heap H (bMd G a o w) locs → lv_has ls 8 [(0, .ref (a o)), (1, .int x1), (2, .int x2), (3, .int x3), (4, .int x4), (5, .int x5)] → WW p l e 1 s m [.ref (a o), .int x1, .int x2] below meth c G A (some (.int out.1)) ((bMd G a o out.2)) H locs 184 ls [] := by
      intro x3 x4 x5 w r hf hF H locs ls hW hl
      unfold f_X6_isMoved_J184 at hf
      refine lv_iinc (v := (x5 + (1 : Int32))) (lv' := [(5, .int (x5 + (1 : Int32))), (0, .ref (a o)), (1, .int x1), (2, .int x2), (3, .int x3), (4, .int x4)]) hx hb dX6_isMoved_184 hl (k := 5) rfl rfl (by decide) rfl (fun ls hl => ?_)
      refine lv_goto (tgt := 28) hx hb dX6_isMoved_187 (by decide) ?_
      have e1 := Option.some.inj hf
      subst e1
      exact (elim_l hF) _ _ _ hW (lv_sub hl [1, 2, 3, 4, 5, 0] rfl)
    have J161 : ∀ (x3 : Int32) (x4 : Int32) (x5 : Int32) (x6 : Int32) (w : Md) (r : (Int32 × Int32 × Int32 × Md) ⊕ (Int32 × Md)), f_X6_isMoved_J161 w x1 x2 x3 x4 x5 x6 = some r → (Sum.elim (fun (sg : Int32 × Int32 × Int32 × Md) => ∀ (H : Heap) (locs : List Loc) (ls : Array Slot), Wd G A s.heap H (bMd G a o sg.2.2.2) locs → lv_has ls 8 [(0, .ref (a o)), (1, .int x1), (2, .int x2), (3, .int sg.1), (4, .int sg.2.1), (5, .int sg.2.2.1)] → WW p l e 1 s m [.ref (a o), .int x1, .int x2] below meth c G A (some (.int out.1)) ((bMd G a o out.2)) H locs 28 ls []) (fun (r : Int32 × Md) => r = out)) r → ∀ (H : Heap) (locs : List Loc) (ls : Array Slot), Wd G A s.heap H (bMd G a o w) locs → lv_has ls 8 [(0, .ref (a o)), (1, .int x1), (2, .int x2), (3, .int x3), (4, .int x4), (5, .int x5), (6, .int x6)] → WW p l e 1 s m [.ref (a o), .int x1, .int x2] below meth c G A (some (.int out.1)) ((bMd G a o out.2)) H locs 161 ls [] := by
      intro x3 x4 x5 x6 w r hf hF H locs ls hW hl
      unfold f_X6_isMoved_J161 at hf
      refine lv_iload hx hb dX6_isMoved_161 (lv_at hl 4 rfl) ?_
      refine lv_if_eq (tgt := 184) hx hb dX6_isMoved_163 (by decide) (fun c163_9 => ?_) (fun c163_9 => ?_)
      · replace hf := if_t c163_9 hf
        exact J184 _ _ _ _ _ hf hF _ _ _ hW (lv_sub hl [0, 1, 2, 3, 4, 5] rfl)
      · replace hf := if_f c163_9 hf
        refine lv_iload hx hb dX6_isMoved_166 (lv_at hl 6 rfl) ?_
        refine lv_aload_n hx hb dX6_isMoved_168 rfl (lv_at hl 0 rfl) ?_
        refine k_get C0 hW 6 18 0 (v := .int (md_n w)) rfl (by decide) inX6 mf_X6_142 rfl rfl dX6_isMoved_169 ?_
        refine lv_icmp_ge (tgt := 184) hx hb dX6_isMoved_172 (by decide) (fun c172_10 => ?_) (fun c172_10 => ?_)
        · replace hf := if_t c172_10 hf
          exact J184 _ _ _ _ _ hf hF _ _ _ hW (lv_sub hl [0, 1, 2, 3, 4, 5] rfl)
        · replace hf := if_f c172_10 hf
          refine lv_aload_n hx hb dX6_isMoved_175 rfl (lv_at hl 0 rfl) ?_
          refine k_get C0 hW 6 25 0 (v := .ref (a (o + 16))) rfl (by decide) inX6 mf_X6_60 rfl rfl dX6_isMoved_176 ?_
          refine lv_iload hx hb dX6_isMoved_179 (lv_at hl 6 rfl) ?_
          obtain ⟨q181, hq181⟩ := ob_s hf
          replace hf := hq181.2
          replace hq181 := hq181.1
          refine cS1 (rest := []) (ws1 := (bMd G a o (md_set_tried w q181))) (st1 := []) C0 hW hl.1 (c_X6_puts l G (a (o + 16)) 12 (md_tried w) x6 _ hq181) cb_X6_puts mm_X6_199 [16] rfl rfl rfl (by decide) rfl rfl (Nat.le_of_ble_eq_true rfl) ⟨Nat.zero_le _, Nat.zero_le _⟩ dX6_isMoved_181 rfl rfl (fun H locs hW => ?_)
          exact J184 _ _ _ _ _ hf hF _ _ _ hW (lv_sub hl [0, 1, 2, 3, 4, 5] rfl)
    have J120 : ∀ (x3 : Int32) (x5 : Int32) (x6 : Int32) (t0 : Int32) (w : Md) (r : (Int32 × Int32 × Int32 × Md) ⊕ (Int32 × Md)), f_X6_isMoved_J120 w x1 x2 x3 x5 x6 t0 = some r → (Sum.elim (fun (sg : Int32 × Int32 × Int32 × Md) => ∀ (H : Heap) (locs : List Loc) (ls : Array Slot), Wd G A s.heap H (bMd G a o sg.2.2.2) locs → lv_has ls 8 [(0, .ref (a o)), (1, .int x1), (2, .int x2), (3, .int sg.1), (4, .int sg.2.1), (5, .int sg.2.2.1)] → WW p l e 1 s m [.ref (a o), .int x1, .int x2] below meth c G A (some (.int out.1)) ((bMd G a o out.2)) H locs 28 ls []) (fun (r : Int32 × Md) => r = out)) r → ∀ (H : Heap) (locs : List Loc) (ls : Array Slot), Wd G A s.heap H (bMd G a o w) locs → lv_has ls 8 [(0, .ref (a o)), (1, .int x1), (2, .int x2), (3, .int x3), (5, .int x5), (6, .int x6)] → WW p l e 1 s m [.ref (a o), .int x1, .int x2] below meth c G A (some (.int out.1)) ((bMd G a o out.2)) H locs 120 ls [.int t0] := by
      intro x3 x5 x6 t0 w r hf hF H locs ls hW hl
      unfold f_X6_isMoved_J120 at hf
      refine lv_istore (lv' := [(4, .int t0), (0, .ref (a o)), (1, .int x1), (2, .int x2), (3, .int x3), (5, .int x5), (6, .int x6)]) hx hb dX6_isMoved_120 hl (by decide) rfl (fun ls hl => ?_)
      refine lv_iload hx hb dX6_isMoved_122 (lv_at hl 0 rfl) ?_
      refine lv_if_eq (tgt := 161) hx hb dX6_isMoved_124 (by decide) (fun c124_8 => ?_) (fun c124_8 => ?_)
      · replace hf := if_t c124_8 hf
        exact J161 _ _ _ _ _ _ hf hF _ _ _ hW (lv_sub hl [1, 2, 3, 4, 0, 5, 6] rfl)
      · replace hf := if_f c124_8 hf
        refine lv_iload hx hb dX6_isMoved_127 (lv_at hl 6 rfl) ?_
        refine lv_aload_n hx hb dX6_isMoved_129 rfl (lv_at hl 1 rfl) ?_
        refine k_get C0 hW 6 18 0 (v := .int (md_n w)) rfl (by decide) inX6 mf_X6_142 rfl rfl dX6_isMoved_130 ?_
        refine lv_icmp_ge (tgt := 161) hx hb dX6_isMoved_133 (by decide) (fun c133_11 => ?_) (fun c133_11 => ?_)
        · replace hf := if_t c133_11 hf
          exact J161 _ _ _ _ _ _ hf hF _ _ _ hW (lv_sub hl [1, 2, 3, 4, 0, 5, 6] rfl)
        · replace hf := if_f c133_11 hf
          refine lv_iload hx hb dX6_isMoved_136 (lv_at hl 5 rfl) ?_
          refine lv_iconst (v := 2) hx hb dX6_isMoved_138 (by decide) ?_
          refine lv_irem hx hb dX6_isMoved_139 (by decide) ?_
          refine lv_if_ne (tgt := 161) hx hb dX6_isMoved_140 (by decide) (fun c140_12 => ?_) (fun c140_12 => ?_)
          · replace hf := if_f c140_12 hf
            exact J161 _ _ _ _ _ _ hf hF _ _ _ hW (lv_sub hl [1, 2, 3, 4, 0, 5, 6] rfl)
          · replace hf := if_t c140_12 hf
            refine lv_aload_n hx hb dX6_isMoved_143 rfl (lv_at hl 1 rfl) ?_
            refine k_get C0 hW 6 25 0 (v := .ref (a (o + 16))) rfl (by decide) inX6 mf_X6_60 rfl rfl dX6_isMoved_144 ?_
            refine lv_iconst (v := 3) hx hb dX6_isMoved_147 (by decide) ?_
            refine lv_dup2_11 hx hb dX6_isMoved_148 rfl rfl ?_
            refine k_iald C0 hW 16 3 rfl (inb_in rfl) rfl dX6_isMoved_149 ?_
            refine lv_iconst (v := 1) hx hb dX6_isMoved_150 (by decide) ?_
            refine lv_iload hx hb dX6_isMoved_151 (lv_at hl 6 rfl) ?_
            refine lv_ishl hx hb dX6_isMoved_153 ?_
            refine lv_iconst (v := -1) hx hb dX6_isMoved_154 (by decide) ?_
            refine lv_ixor hx hb dX6_isMoved_155 ?_
            refine lv_iand hx hb dX6_isMoved_156 ?_
            refine k_iast C0 hW 16 3 rfl (inb_in rfl) rfl dX6_isMoved_157 (fun H locs hW => ?_)
            have hW : Wd G A s.heap H (bMd G a o (md_set_tried w (upd (md_tried w) 3 (((md_tried w) 3) &&& ((jshl (1 : Int32) x6) ^^^ (-1 : Int32)))))) locs := hW
            refine lv_goto (tgt := 184) hx hb dX6_isMoved_158 (by decide) ?_
            exact J184 _ _ _ _ _ hf hF _ _ _ hW (lv_sub hl [1, 2, 3, 4, 0, 5] rfl)
    have J119 : ∀ (x3 : Int32) (x5 : Int32) (x6 : Int32) (w : Md) (r : (Int32 × Int32 × Int32 × Md) ⊕ (Int32 × Md)), f_X6_isMoved_J119 w x1 x2 x3 x5 x6 = some r → (Sum.elim (fun (sg : Int32 × Int32 × Int32 × Md) => ∀ (H : Heap) (locs : List Loc) (ls : Array Slot), Wd G A s.heap H (bMd G a o sg.2.2.2) locs → lv_has ls 8 [(0, .ref (a o)), (1, .int x1), (2, .int x2), (3, .int sg.1), (4, .int sg.2.1), (5, .int sg.2.2.1)] → WW p l e 1 s m [.ref (a o), .int x1, .int x2] below meth c G A (some (.int out.1)) ((bMd G a o out.2)) H locs 28 ls []) (fun (r : Int32 × Md) => r = out)) r → ∀ (H : Heap) (locs : List Loc) (ls : Array Slot), Wd G A s.heap H (bMd G a o w) locs → lv_has ls 8 [(0, .ref (a o)), (1, .int x1), (2, .int x2), (3, .int x3), (5, .int x5), (6, .int x6)] → WW p l e 1 s m [.ref (a o), .int x1, .int x2] below meth c G A (some (.int out.1)) ((bMd G a o out.2)) H locs 119 ls [] := by
      intro x3 x5 x6 w r hf hF H locs ls hW hl
      unfold f_X6_isMoved_J119 at hf
      refine lv_iconst (v := 0) hx hb dX6_isMoved_119 (by decide) ?_
      exact J120 _ _ _ _ _ _ hf hF _ _ _ hW (lv_sub hl [0, 1, 2, 3, 4, 5] rfl)
    have J115 : ∀ (x3 : Int32) (x5 : Int32) (x6 : Int32) (w : Md) (r : (Int32 × Int32 × Int32 × Md) ⊕ (Int32 × Md)), f_X6_isMoved_J115 w x1 x2 x3 x5 x6 = some r → (Sum.elim (fun (sg : Int32 × Int32 × Int32 × Md) => ∀ (H : Heap) (locs : List Loc) (ls : Array Slot), Wd G A s.heap H (bMd G a o sg.2.2.2) locs → lv_has ls 8 [(0, .ref (a o)), (1, .int x1), (2, .int x2), (3, .int sg.1), (4, .int sg.2.1), (5, .int sg.2.2.1)] → WW p l e 1 s m [.ref (a o), .int x1, .int x2] below meth c G A (some (.int out.1)) ((bMd G a o out.2)) H locs 28 ls []) (fun (r : Int32 × Md) => r = out)) r → ∀ (H : Heap) (locs : List Loc) (ls : Array Slot), Wd G A s.heap H (bMd G a o w) locs → lv_has ls 8 [(0, .ref (a o)), (1, .int x1), (2, .int x2), (3, .int x3), (5, .int x5), (6, .int x6)] → WW p l e 1 s m [.ref (a o), .int x1, .int x2] below meth c G A (some (.int out.1)) ((bMd G a o out.2)) H locs 115 ls [] := by
      intro x3 x5 x6 w r hf hF H locs ls hW hl
      unfold f_X6_isMoved_J115 at hf
      refine lv_iconst (v := 1) hx hb dX6_isMoved_115 (by decide) ?_
      refine lv_goto (tgt := 120) hx hb dX6_isMoved_116 (by decide) ?_
      exact J120 _ _ _ _ _ _ hf hF _ _ _ hW (lv_sub hl [0, 1, 2, 3, 4, 5] rfl)
    have J112 : ∀ (x3 : Int32) (x5 : Int32) (x6 : Int32) (t0 : Int32) (t1 : Int32) (w : Md) (r : (Int32 × Int32 × Int32 × Md) ⊕ (Int32 × Md)), f_X6_isMoved_J112 w x1 x2 x3 x5 x6 t0 t1 = some r → (Sum.elim (fun (sg : Int32 × Int32 × Int32 × Md) => ∀ (H : Heap) (locs : List Loc) (ls : Array Slot), Wd G A s.heap H (bMd G a o sg.2.2.2) locs → lv_has ls 8 [(0, .ref (a o)), (1, .int x1), (2, .int x2), (3, .int sg.1), (4, .int sg.2.1), (5, .int sg.2.2.1)] → WW p l e 1 s m [.ref (a o), .int x1, .int x2] below meth c G A (some (.int out.1)) ((bMd G a o out.2)) H locs 28 ls []) (fun (r : Int32 × Md) => r = out)) r → ∀ (H : Heap) (locs : List Loc) (ls : Array Slot), Wd G A s.heap H (bMd G a o w) locs → lv_has ls 8 [(0, .ref (a o)), (1, .int x1), (2, .int x2), (3, .int x3), (5, .int x5), (6, .int x6)] → WW p l e 1 s m [.ref (a o), .int x1, .int x2] below meth c G A (some (.int out.1)) ((bMd G a o out.2)) H locs 112 ls [.int t1, .int t0] := by
      intro x3 x5 x6 t0 t1 w r hf hF H locs ls hW hl
      unfold f_X6_isMoved_J112 at hf
      refine lv_icmp_ne (tgt := 119) hx hb dX6_isMoved_112 (by decide) (fun c112_16 => ?_) (fun c112_16 => ?_)
      · replace hf := if_f c112_16 hf
        exact J119 _ _ _ _ _ hf hF _ _ _ hW (lv_sub hl [0, 1, 2, 3, 4, 5] rfl)
      · replace hf := if_t c112_16 hf
        exact J115 _ _ _ _ _ hf hF _ _ _ hW (lv_sub hl [0, 1, 2, 3, 4, 5] rfl)
    have J75 : ∀ (x3 : Int32) (x4 : Int32) (x5 : Int32) (x6 : Int32) (t0 : Int32) (w : Md) (r : (Int32 × Int32 × Int32 × Md) ⊕ (Int32 × Md)), f_X6_isMoved_J75 w x1 x2 x3 x4 x5 x6 t0 = some r → (Sum.elim (fun (sg : Int32 × Int32 × Int32 × Md) => ∀ (H : Heap) (locs : List Loc) (ls : Array Slot), Wd G A s.heap H (bMd G a o sg.2.2.2) locs → lv_has ls 8 [(0, .ref (a o)), (1, .int x1), (2, .int x2), (3, .int sg.1), (4, .int sg.2.1), (5, .int sg.2.2.1)] → WW p l e 1 s m [.ref (a o), .int x1, .int x2] below meth c G A (some (.int out.1)) ((bMd G a o out.2)) H locs 28 ls []) (fun (r : Int32 × Md) => r = out)) r → ∀ (H : Heap) (locs : List Loc) (ls : Array Slot), Wd G A s.heap H (bMd G a o w) locs → lv_has ls 8 [(0, .ref (a o)), (1, .int x1), (2, .int x2), (3, .int x3), (4, .int x4), (5, .int x5), (6, .int x6)] → WW p l e 1 s m [.ref (a o), .int x1, .int x2] below meth c G A (some (.int out.1)) ((bMd G a o out.2)) H locs 75 ls [.int t0] := by
      intro x3 x4 x5 x6 t0 w r hf hF H locs ls hW hl
      unfold f_X6_isMoved_J75 at hf
      refine lv_istore (lv' := [(7, .int t0), (0, .ref (a o)), (1, .int x1), (2, .int x2), (3, .int x3), (4, .int x4), (5, .int x5), (6, .int x6)]) hx hb dX6_isMoved_75 hl (by decide) rfl (fun ls hl => ?_)
      refine lv_iload hx hb dX6_isMoved_77 (lv_at hl 5 rfl) ?_
      refine lv_if_eq (tgt := 119) hx hb dX6_isMoved_79 (by decide) (fun c79_7 => ?_) (fun c79_7 => ?_)
      · replace hf := if_t c79_7 hf
        exact J119 _ _ _ _ _ hf hF _ _ _ hW (lv_sub hl [1, 2, 3, 4, 6, 7] rfl)
      · replace hf := if_f c79_7 hf
        refine lv_iload hx hb dX6_isMoved_82 (lv_at hl 7 rfl) ?_
        refine lv_bipush (v := 8) hx hb dX6_isMoved_84 (by decide) ?_
        refine lv_icmp_eq (tgt := 115) hx hb dX6_isMoved_86 (by decide) (fun c86_13 => ?_) (fun c86_13 => ?_)
        · replace hf := if_t c86_13 hf
          exact J115 _ _ _ _ _ hf hF _ _ _ hW (lv_sub hl [1, 2, 3, 4, 6, 7] rfl)
        · replace hf := if_f c86_13 hf
          refine lv_iload hx hb dX6_isMoved_89 (lv_at hl 7 rfl) ?_
          refine lv_aload_n hx hb dX6_isMoved_91 rfl (lv_at hl 1 rfl) ?_
          refine k_get C0 hW 6 18 0 (v := .int (md_n w)) rfl (by decide) inX6 mf_X6_142 rfl rfl dX6_isMoved_92 ?_
          refine lv_icmp_ge (tgt := 119) hx hb dX6_isMoved_95 (by decide) (fun c95_14 => ?_) (fun c95_14 => ?_)
          · replace hf := if_t c95_14 hf
            exact J119 _ _ _ _ _ hf hF _ _ _ hW (lv_sub hl [1, 2, 3, 4, 6, 7] rfl)
          · replace hf := if_f c95_14 hf
            refine lv_iload hx hb dX6_isMoved_98 (lv_at hl 0 rfl) ?_
            refine lv_iload hx hb dX6_isMoved_100 (lv_at hl 6 rfl) ?_
            refine lv_iconst (v := 2) hx hb dX6_isMoved_102 (by decide) ?_
            refine lv_irem hx hb dX6_isMoved_103 (by decide) ?_
            refine lv_if_ne (tgt := 111) hx hb dX6_isMoved_104 (by decide) (fun c104_15 => ?_) (fun c104_15 => ?_)
            · replace hf := if_f c104_15 hf
              refine lv_iconst (v := 0) hx hb dX6_isMoved_111 (by decide) ?_
              exact J112 _ _ _ _ _ _ _ hf hF _ _ _ hW (lv_sub hl [1, 2, 3, 4, 6, 7] rfl)
            · replace hf := if_t c104_15 hf
              refine lv_iconst (v := 1) hx hb dX6_isMoved_107 (by decide) ?_
              refine lv_goto (tgt := 112) hx hb dX6_isMoved_108 (by decide) ?_
              exact J112 _ _ _ _ _ _ _ hf hF _ _ _ hW (lv_sub hl [1, 2, 3, 4, 6, 7] rfl)
    have J74 : ∀ (x3 : Int32) (x4 : Int32) (x5 : Int32) (x6 : Int32) (w : Md) (r : (Int32 × Int32 × Int32 × Md) ⊕ (Int32 × Md)), f_X6_isMoved_J74 w x1 x2 x3 x4 x5 x6 = some r → (Sum.elim (fun (sg : Int32 × Int32 × Int32 × Md) => ∀ (H : Heap) (locs : List Loc) (ls : Array Slot), Wd G A s.heap H (bMd G a o sg.2.2.2) locs → lv_has ls 8 [(0, .ref (a o)), (1, .int x1), (2, .int x2), (3, .int sg.1), (4, .int sg.2.1), (5, .int sg.2.2.1)] → WW p l e 1 s m [.ref (a o), .int x1, .int x2] below meth c G A (some (.int out.1)) ((bMd G a o out.2)) H locs 28 ls []) (fun (r : Int32 × Md) => r = out)) r → ∀ (H : Heap) (locs : List Loc) (ls : Array Slot), Wd G A s.heap H (bMd G a o w) locs → lv_has ls 8 [(0, .ref (a o)), (1, .int x1), (2, .int x2), (3, .int x3), (4, .int x4), (5, .int x5), (6, .int x6)] → WW p l e 1 s m [.ref (a o), .int x1, .int x2] below meth c G A (some (.int out.1)) ((bMd G a o out.2)) H locs 74 ls [] := by
      intro x3 x4 x5 x6 w r hf hF H locs ls hW hl
      unfold f_X6_isMoved_J74 at hf
      refine lv_iconst (v := 0) hx hb dX6_isMoved_74 (by decide) ?_
      exact J75 _ _ _ _ _ _ _ hf hF _ _ _ hW (lv_sub hl [0, 1, 2, 3, 4, 5, 6] rfl)
    have B28 : ∀ (x3 : Int32) (x4 : Int32) (x5 : Int32) (w : Md) (r : (Int32 × Int32 × Int32 × Md) ⊕ (Int32 × Md)), f_X6_isMoved_B28 x1 x2 x3 x4 x5 w = some r → (Sum.elim (fun (sg : Int32 × Int32 × Int32 × Md) => ∀ (H : Heap) (locs : List Loc) (ls : Array Slot), Wd G A s.heap H (bMd G a o sg.2.2.2) locs → lv_has ls 8 [(0, .ref (a o)), (1, .int x1), (2, .int x2), (3, .int sg.1), (4, .int sg.2.1), (5, .int sg.2.2.1)] → WW p l e 1 s m [.ref (a o), .int x1, .int x2] below meth c G A (some (.int out.1)) ((bMd G a o out.2)) H locs 28 ls []) (fun (r : Int32 × Md) => r = out)) r → ∀ (H : Heap) (locs : List Loc) (ls : Array Slot), Wd G A s.heap H (bMd G a o w) locs → lv_has ls 8 [(0, .ref (a o)), (1, .int x1), (2, .int x2), (3, .int x3), (4, .int x4), (5, .int x5)] → WW p l e 1 s m [.ref (a o), .int x1, .int x2] below meth c G A (some (.int out.1)) ((bMd G a o out.2)) H locs 28 ls [] := by
      intro x3 x4 x5 w r hf hF H locs ls hW hl
      unfold f_X6_isMoved_B28 at hf
      refine lv_iload hx hb dX6_isMoved_28 (lv_at hl 5 rfl) ?_
      refine lv_iload_n hx hb dX6_isMoved_30 rfl (lv_at hl 2 rfl) ?_
      refine lv_icmp_ge (tgt := 190) hx hb dX6_isMoved_31 (by decide) (fun c31_2 => ?_) (fun c31_2 => ?_)
      · replace hf := if_t c31_2 hf
        obtain ⟨r2, e2⟩ := om_s hf
        replace hf := e2.1
        replace e2 := e2.2
        subst e2
        replace hF := elim_r hF
        refine lv_iload hx hb dX6_isMoved_190 (lv_at hl 4 rfl) ?_
        have g192_3 := (gd_some hf).1; replace hf := (gd_some hf).2
        have e1 := Option.some.inj hf
        subst e1
        have hF : ((x4, w) : Int32 × Md) = out := hF
        subst hF
        exact k_zret C0 hW g192_3 dX6_isMoved_192
      · replace hf := if_f c31_2 hf
        refine lv_iload_n hx hb dX6_isMoved_34 rfl (lv_at hl 1 rfl) ?_
        refine lv_iload_n hx hb dX6_isMoved_35 rfl (lv_at hl 3 rfl) ?_
        have g36_4 := (gd_some hf).1; replace hf := (gd_some hf).2
        refine lv_idiv hx hb dX6_isMoved_36 (of_decide_eq_true g36_4) ?_
        refine lv_bipush (v := 9) hx hb dX6_isMoved_37 (by decide) ?_
        refine lv_irem hx hb dX6_isMoved_39 (by decide) ?_
        refine lv_topi (fun v40 ev40 => ?_)
        replace hf := nm_s ev40 hf
        refine lv_istore (lv' := [(6, .int v40), (0, .ref (a o)), (1, .int x1), (2, .int x2), (3, .int x3), (4, .int x4), (5, .int x5)]) hx hb dX6_isMoved_40 hl (by decide) rfl (fun ls hl => ?_)
        refine lv_iload_n hx hb dX6_isMoved_42 rfl (lv_at hl 4 rfl) ?_
        refine lv_bipush (v := 9) hx hb dX6_isMoved_43 (by decide) ?_
        refine lv_idiv hx hb dX6_isMoved_45 (by decide) ?_
        refine lv_istore_n (lv' := [(3, .int (x3 / (9 : Int32))), (6, .int v40), (0, .ref (a o)), (1, .int x1), (2, .int x2), (4, .int x4), (5, .int x5)]) hx hb dX6_isMoved_46 rfl hl (by decide) rfl (fun ls hl => ?_)
        refine lv_iload hx hb dX6_isMoved_47 (lv_at hl 1 rfl) ?_
        refine lv_aload_n hx hb dX6_isMoved_49 rfl (lv_at hl 2 rfl) ?_
        refine k_get C0 hW 6 18 0 (v := .int (md_n w)) rfl (by decide) inX6 mf_X6_142 rfl rfl dX6_isMoved_50 ?_
        refine lv_icmp_ge (tgt := 74) hx hb dX6_isMoved_53 (by decide) (fun c53_6 => ?_) (fun c53_6 => ?_)
        · replace hf := if_t c53_6 hf
          exact J74 _ _ _ _ _ _ hf hF _ _ _ hW (lv_sub hl [2, 3, 4, 0, 5, 6, 1] rfl)
        · replace hf := if_f c53_6 hf
          refine lv_aload_n hx hb dX6_isMoved_56 rfl (lv_at hl 2 rfl) ?_
          refine k_get C0 hW 6 25 0 (v := .ref (a (o + 16))) rfl (by decide) inX6 mf_X6_60 rfl rfl dX6_isMoved_57 ?_
          refine lv_iconst (v := 3) hx hb dX6_isMoved_60 (by decide) ?_
          refine k_iald C0 hW 16 3 rfl (inb_in rfl) rfl dX6_isMoved_61 ?_
          refine lv_iload hx hb dX6_isMoved_62 (lv_at hl 1 rfl) ?_
          obtain ⟨q64, hq64⟩ := ob_s hf
          replace hf := hq64.2
          replace hq64 := hq64.1
          refine cS0 (rest := []) (st1 := [.int q64]) C0 hW hl.1 (c_X6_has l G ((md_tried w) 3) v40 _ hq64) cb_X6_has mm_X6_158 [] rfl rfl (by decide) rfl rfl (Nat.le_of_ble_eq_true rfl) ⟨Nat.zero_le _, Nat.zero_le _⟩ dX6_isMoved_64 rfl (fun H locs hW => ?_)
          refine lv_if_eq (tgt := 74) hx hb dX6_isMoved_67 (by decide) (fun c67_17 => ?_) (fun c67_17 => ?_)
          · replace hf := if_t c67_17 hf
            exact J74 _ _ _ _ _ _ hf hF _ _ _ hW (lv_sub hl [2, 3, 4, 0, 5, 6, 1] rfl)
          · replace hf := if_f c67_17 hf
            refine lv_iconst (v := 1) hx hb dX6_isMoved_70 (by decide) ?_
            refine lv_goto (tgt := 75) hx hb dX6_isMoved_71 (by decide) ?_
            exact J75 _ _ _ _ _ _ _ hf hF _ _ _ hW (lv_sub hl [2, 3, 4, 0, 5, 6, 1] rfl)
    exact lp_sound (fun sg r hb hz => B28 sg.1 sg.2.1 sg.2.2.1 sg.2.2.2 r hb hz)
  have J22 : ∀ (x3 : Int32) (w : Md) (r : Int32 × Md), f_X6_isMoved_J22 w x1 x2 x3 = some r → (fun (r : Int32 × Md) => r = out) r → ∀ (H : Heap) (locs : List Loc) (ls : Array Slot), Wd G A s.heap H (bMd G a o w) locs → lv_has ls 8 [(0, .ref (a o)), (1, .int x1), (2, .int x2), (3, .int x3)] → WW p l e 1 s m [.ref (a o), .int x1, .int x2] below meth c G A (some (.int out.1)) ((bMd G a o out.2)) H locs 22 ls [] := by
    intro x3 w r hf hF H locs ls hW hl
    unfold f_X6_isMoved_J22 at hf
    refine lv_iconst (v := 1) hx hb dX6_isMoved_22 (by decide) ?_
    refine lv_istore (lv' := [(4, .int (1 : Int32)), (0, .ref (a o)), (1, .int x1), (2, .int x2), (3, .int x3)]) hx hb dX6_isMoved_23 hl (by decide) rfl (fun ls hl => ?_)
    refine lv_iconst (v := 0) hx hb dX6_isMoved_25 (by decide) ?_
    refine lv_istore (lv' := [(5, .int (0 : Int32)), (4, .int (1 : Int32)), (0, .ref (a o)), (1, .int x1), (2, .int x2), (3, .int x3)]) hx hb dX6_isMoved_26 hl (by decide) rfl (fun ls hl => ?_)
    exact L28  fuel (x3, (1 : Int32), (0 : Int32), w) _ hf hF _ _ _ hW (lv_sub hl [2, 3, 4, 5, 1, 0] rfl)
  have L5 : ∀ (w : Md) (k8 : Nat) (sg : Int32 × Int32) (o9 : Int32 × Md), lp (f_X6_isMoved_L5 w x1 x2) k8 sg = some o9 → (fun (r : Int32 × Md) => r = out) o9 → (fun (sg : Int32 × Int32) => ∀ (H : Heap) (locs : List Loc) (ls : Array Slot), Wd G A s.heap H (bMd G a o w) locs → lv_has ls 8 [(0, .ref (a o)), (1, .int x1), (2, .int x2), (3, .int sg.1), (4, .int sg.2)] → WW p l e 1 s m [.ref (a o), .int x1, .int x2] below meth c G A (some (.int out.1)) ((bMd G a o out.2)) H locs 5 ls []) sg := by
    intro w
    have B5 : ∀ (x3 : Int32) (x4 : Int32) (r : (Int32 × Int32) ⊕ (Int32 × Md)), f_X6_isMoved_B5 w x1 x2 x3 x4 = some r → (Sum.elim (fun (sg : Int32 × Int32) => ∀ (H : Heap) (locs : List Loc) (ls : Array Slot), Wd G A s.heap H (bMd G a o w) locs → lv_has ls 8 [(0, .ref (a o)), (1, .int x1), (2, .int x2), (3, .int sg.1), (4, .int sg.2)] → WW p l e 1 s m [.ref (a o), .int x1, .int x2] below meth c G A (some (.int out.1)) ((bMd G a o out.2)) H locs 5 ls []) (fun (r : Int32 × Md) => r = out)) r → ∀ (H : Heap) (locs : List Loc) (ls : Array Slot), Wd G A s.heap H (bMd G a o w) locs → lv_has ls 8 [(0, .ref (a o)), (1, .int x1), (2, .int x2), (3, .int x3), (4, .int x4)] → WW p l e 1 s m [.ref (a o), .int x1, .int x2] below meth c G A (some (.int out.1)) ((bMd G a o out.2)) H locs 5 ls [] := by
      intro x3 x4 r hf hF H locs ls hW hl
      unfold f_X6_isMoved_B5 at hf
      refine lv_iload hx hb dX6_isMoved_5 (lv_at hl 4 rfl) ?_
      refine lv_iload_n hx hb dX6_isMoved_7 rfl (lv_at hl 2 rfl) ?_
      refine lv_icmp_ge (tgt := 22) hx hb dX6_isMoved_8 (by decide) (fun c8_1 => ?_) (fun c8_1 => ?_)
      · replace hf := if_t c8_1 hf
        obtain ⟨r2, e2⟩ := om_s hf
        replace hf := e2.1
        replace e2 := e2.2
        subst e2
        replace hF := elim_r hF
        exact J22 _ _ _ hf hF _ _ _ hW (lv_sub hl [0, 1, 2, 3] rfl)
      · replace hf := if_f c8_1 hf
        refine lv_iload_n hx hb dX6_isMoved_11 rfl (lv_at hl 3 rfl) ?_
        refine lv_bipush (v := 9) hx hb dX6_isMoved_12 (by decide) ?_
        refine lv_imul hx hb dX6_isMoved_14 ?_
        refine lv_istore_n (lv' := [(3, .int (x3 * (9 : Int32))), (0, .ref (a o)), (1, .int x1), (2, .int x2), (4, .int x4)]) hx hb dX6_isMoved_15 rfl hl (by decide) rfl (fun ls hl => ?_)
        refine lv_iinc (v := (x4 + (1 : Int32))) (lv' := [(4, .int (x4 + (1 : Int32))), (3, .int (x3 * (9 : Int32))), (0, .ref (a o)), (1, .int x1), (2, .int x2)]) hx hb dX6_isMoved_16 hl (k := 4) rfl rfl (by decide) rfl (fun ls hl => ?_)
        refine lv_goto (tgt := 5) hx hb dX6_isMoved_19 (by decide) ?_
        have e1 := Option.some.inj hf
        subst e1
        exact (elim_l hF) _ _ _ hW (lv_sub hl [2, 3, 4, 1, 0] rfl)
    exact lp_sound (fun sg r hb hz => B5 sg.1 sg.2 r hb hz)
  obtain ⟨r, hr⟩ : ∃ r, f_X6_isMoved w x1 x2 = some r ∧ r = out := ⟨out, hf, rfl⟩
  replace hf := hr.1
  have hF := hr.2
  clear hr
  unfold f_X6_isMoved at hf
  refine lv_iconst (v := 1) hx hb dX6_isMoved_0 (by decide) ?_
  refine lv_istore_n (lv' := [(3, .int (1 : Int32)), (0, .ref (a o)), (1, .int x1), (2, .int x2)]) hx hb dX6_isMoved_1 rfl hl (by decide) rfl (fun ls hl => ?_)
  refine lv_iconst (v := 1) hx hb dX6_isMoved_2 (by decide) ?_
  refine lv_istore (lv' := [(4, .int (1 : Int32)), (3, .int (1 : Int32)), (0, .ref (a o)), (1, .int x1), (2, .int x2)]) hx hb dX6_isMoved_3 hl (by decide) rfl (fun ls hl => ?_)
  exact L5 _ fuel ((1 : Int32), (1 : Int32)) _ hf hF _ _ _ hW (lv_sub hl [2, 3, 4, 1, 0] rfl)

def f_X6_duel_J221 (w : Md) : Option (Int32 × Md) :=
  some (((md_outcomes w) 0), w)
def f_X6_duel_J215 (w : Md) (x2 : Int32) (x3 : Int32) : Option ((Int32 × Int32 × Md) ⊕ (Int32 × Md)) :=
  some (Sum.inl (x2, (x3 + (-1 : Int32)), w))
def f_X6_duel_J200 (w : Md) (x2 : Int32) (x3 : Int32) (x4 : Int32) (x5 : Int32) : Option ((Int32 × Md) ⊕ ((Int32 × Int32 × Md) ⊕ (Int32 × Md))) :=
  gd (inb x4 6561) (some (Sum.inl ((x4 + (1 : Int32)), (md_set_outcomes w (upd (md_outcomes w) (ix x4) x5)))))
def f_X6_duel_J192 (w : Md) (x2 : Int32) (x3 : Int32) (x4 : Int32) (x6 : Int32) (t0 : Int32) : Option ((Int32 × Int32) ⊕ ((Int32 × Md) ⊕ ((Int32 × Int32 × Md) ⊕ (Int32 × Md)))) :=
  some (Sum.inl (t0, (x6 + (1 : Int32))))
def f_X6_duel_J178 (w : Md) (x2 : Int32) (x3 : Int32) (x4 : Int32) (x5 : Int32) (x6 : Int32) (x7 : Int32) (t0 : Int32) : Option ((Int32 × Int32) ⊕ ((Int32 × Md) ⊕ ((Int32 × Int32 × Md) ⊕ (Int32 × Md)))) :=
  if t0 = 0 then (f_X6_duel_J192 w x2 x3 x4 x6 x5) else (f_X6_duel_J192 w x2 x3 x4 x6 x7)
def f_X6_duel_J177 (w : Md) (x2 : Int32) (x3 : Int32) (x4 : Int32) (x5 : Int32) (x6 : Int32) (x7 : Int32) : Option ((Int32 × Int32) ⊕ ((Int32 × Md) ⊕ ((Int32 × Int32 × Md) ⊕ (Int32 × Md)))) :=
  f_X6_duel_J178 w x2 x3 x4 x5 x6 x7 (0 : Int32)
def f_X6_duel_J173 (w : Md) (x2 : Int32) (x3 : Int32) (x4 : Int32) (x5 : Int32) (x6 : Int32) (x7 : Int32) : Option ((Int32 × Int32) ⊕ ((Int32 × Md) ⊕ ((Int32 × Int32 × Md) ⊕ (Int32 × Md)))) :=
  f_X6_duel_J178 w x2 x3 x4 x5 x6 x7 (1 : Int32)
def f_X6_duel_B114 (w : Md) (x2 : Int32) (x3 : Int32) (x4 : Int32) (x5 : Int32) (x6 : Int32) : Option ((Int32 × Int32) ⊕ ((Int32 × Md) ⊕ ((Int32 × Int32 × Md) ⊕ (Int32 × Md)))) :=
  if (9 : Int32) ≤ x6 then (Option.map Sum.inr (f_X6_duel_J200 w x2 x3 x4 x5)) else (gd (inb (((9 : Int32) * x4) + x6) 6561) (nm ((md_outcomes w) (ix (((9 : Int32) * x4) + x6))) (fun v134 => if v134 = (1000000 : Int32) then (f_X6_duel_J177 w x2 x3 x4 x5 x6 v134) else (if x5 = (1000000 : Int32) then (f_X6_duel_J173 w x2 x3 x4 x5 x6 v134) else (if (jrem x3 (2 : Int32)) = 0 then (if v134 ≤ x5 then (f_X6_duel_J177 w x2 x3 x4 x5 x6 v134) else (f_X6_duel_J173 w x2 x3 x4 x5 x6 v134)) else (if x5 ≤ v134 then (f_X6_duel_J177 w x2 x3 x4 x5 x6 v134) else (f_X6_duel_J173 w x2 x3 x4 x5 x6 v134)))))))
def f_X6_duel_L114 (w : Md) (x2 : Int32) (x3 : Int32) (x4 : Int32) (sg : Int32 × Int32) : Option ((Int32 × Int32) ⊕ ((Int32 × Md) ⊕ ((Int32 × Int32 × Md) ⊕ (Int32 × Md)))) := f_X6_duel_B114 w x2 x3 x4 sg.1 sg.2
def f_X6_duel_B101 (x2 : Int32) (x3 : Int32) (x4 : Int32) (w : Md) : Option ((Int32 × Md) ⊕ ((Int32 × Int32 × Md) ⊕ (Int32 × Md))) :=
  if x2 ≤ x4 then (Option.map Sum.inr (f_X6_duel_J215 w x2 x3)) else (lp (f_X6_duel_L114 w x2 x3 x4) fuel ((1000000 : Int32), (0 : Int32)))
def f_X6_duel_L101 (x2 : Int32) (x3 : Int32) (sg : Int32 × Md) : Option ((Int32 × Md) ⊕ ((Int32 × Int32 × Md) ⊕ (Int32 × Md))) := f_X6_duel_B101 x2 x3 sg.1 sg.2
def f_X6_duel_B89 (x2 : Int32) (x3 : Int32) (w : Md) : Option ((Int32 × Int32 × Md) ⊕ (Int32 × Md)) :=
  if x3 < 0 then (Option.map Sum.inr (f_X6_duel_J221 w)) else (lp (f_X6_duel_L101 (x2 / (9 : Int32)) x3) fuel ((0 : Int32), w))
def f_X6_duel_L89 (sg : Int32 × Int32 × Md) : Option ((Int32 × Int32 × Md) ⊕ (Int32 × Md)) := f_X6_duel_B89 sg.1 sg.2.1 sg.2.2
def f_X6_duel_J85 (w : Md) (x1 : Int32) (x2 : Int32) : Option (Int32 × Md) :=
  lp (f_X6_duel_L89) fuel (x2, (x1 - (1 : Int32)), w)
def f_X6_duel_J78 (w : Md) (x1 : Int32) (x2 : Int32) (x3 : Int32) (t1 : Int32) (t2 : Int32) : Option ((Int32 × Md) ⊕ (Int32 × Md)) :=
  gd (inb t1 6561) (some (Sum.inl ((x3 + (1 : Int32)), (md_set_outcomes w (upd (md_outcomes w) (ix t1) t2)))))
def f_X6_duel_B43 (x1 : Int32) (x2 : Int32) (x3 : Int32) (w : Md) : Option ((Int32 × Md) ⊕ (Int32 × Md)) :=
  if x2 ≤ x3 then (Option.map Sum.inr (f_X6_duel_J85 w x1 x2)) else (Option.bind (f_X6_copyNow w) (fun q49 => Option.bind (f_X6_isMoved q49 x3 x1) (fun q60 => if q60.1 = 0 then (f_X6_duel_J78 q60.2 x1 x2 x3 x3 (1000000 : Int32)) else (Option.bind (f_X6_limpsIn q60.2 (12 : Int32) (1 : Int32)) (fun q70 => f_X6_duel_J78 q70.2 x1 x2 x3 x3 q70.1)))))
def f_X6_duel_L43 (x1 : Int32) (x2 : Int32) (sg : Int32 × Md) : Option ((Int32 × Md) ⊕ (Int32 × Md)) := f_X6_duel_B43 x1 x2 sg.1 sg.2
def f_X6_duel_J41 (w : Md) (x1 : Int32) (x2 : Int32) : Option (Int32 × Md) :=
  lp (f_X6_duel_L43 x1 x2) fuel ((0 : Int32), w)
def f_X6_duel_B25 (w : Md) (x1 : Int32) (x2 : Int32) (x3 : Int32) : Option ((Int32 × Int32) ⊕ (Int32 × Md)) :=
  if x1 ≤ x3 then (Option.map Sum.inr (f_X6_duel_J41 w x1 x2)) else (some (Sum.inl ((x2 * (9 : Int32)), (x3 + (1 : Int32)))))
def f_X6_duel_L25 (w : Md) (x1 : Int32) (sg : Int32 × Int32) : Option ((Int32 × Int32) ⊕ (Int32 × Md)) := f_X6_duel_B25 w x1 sg.1 sg.2
def f_X6_duel (w : Md) (x1 : Int32) : Option (Int32 × Md) :=
  Option.bind (f_X6_in x1 (0 : Int32) (4 : Int32)) (fun q3 => if q3 = 0 then (some ((-1 : Int32), w)) else (if (md_n w) = 0 then (some ((-4 : Int32), w)) else (lp (f_X6_duel_L25 w x1) fuel ((1 : Int32), (0 : Int32)))))
set_option maxRecDepth 100000 in
set_option maxHeartbeats 1000000 in
theorem c_X6_duel (l : Launch) (G : GG) (a : Nat → Nat) (o : Nat) (w : Md) (x1 : Int32) (out : Int32 × Md) (hf : f_X6_duel w x1 = some out) : Cn l G 5 yX6_duel cX6_duel 9 (some .int) [.ref (a o), .int x1] (bMd G a o w) (some (.int out.1)) (bMd G a o out.2) := by
  refine cn_start (by decide) (Nat.le_of_ble_eq_true rfl) ?_
  intro p e s m below meth c A ls C0 hW hl
  have hx := C0.1
  have hb := C0.2.1
  have hl : lv_has ls 9 [(0, .ref (a o)), (1, .int x1)] := hl
  have J221 : ∀ (w : Md) (r : Int32 × Md), f_X6_duel_J221 w = some r → (fun (r : Int32 × Md) => r = out) r → ∀ (H : Heap) (locs : List Loc) (ls : Array Slot), Wd G A s.heap H (bMd G a o w) locs → lv_has ls 9 [(0, .ref (a o))] → WW p l e 5 s m [.ref (a o), .int x1] below meth c G A (some (.int out.1)) ((bMd G a o out.2)) H locs 221 ls [] := by
    intro w r hf hF H locs ls hW hl
    unfold f_X6_duel_J221 at hf
    refine lv_aload_n hx hb dX6_duel_221 rfl (lv_at hl 0 rfl) ?_
    refine k_get C0 hW 6 30 0 (v := .ref (a (o + 20))) rfl (by decide) inX6 mf_X6_72 rfl rfl dX6_duel_222 ?_
    refine lv_iconst (v := 0) hx hb dX6_duel_225 (by decide) ?_
    refine k_iald C0 hW 20 0 rfl (inb_in rfl) rfl dX6_duel_226 ?_
    have e1 := Option.some.inj hf
    subst e1
    have hF : ((((md_outcomes w) 0), w) : Int32 × Md) = out := hF
    subst hF
    exact k_iret C0 hW dX6_duel_227
  have L89 : ∀ (k8 : Nat) (sg : Int32 × Int32 × Md) (o9 : Int32 × Md), lp (f_X6_duel_L89) k8 sg = some o9 → (fun (r : Int32 × Md) => r = out) o9 → (fun (sg : Int32 × Int32 × Md) => ∀ (H : Heap) (locs : List Loc) (ls : Array Slot), Wd G A s.heap H (bMd G a o sg.2.2) locs → lv_has ls 9 [(0, .ref (a o)), (2, .int sg.1), (3, .int sg.2.1)] → WW p l e 5 s m [.ref (a o), .int x1] below meth c G A (some (.int out.1)) ((bMd G a o out.2)) H locs 89 ls []) sg := by
    have J215 : ∀ (x2 : Int32) (x3 : Int32) (w : Md) (r : (Int32 × Int32 × Md) ⊕ (Int32 × Md)), f_X6_duel_J215 w x2 x3 = some r → (Sum.elim (fun (sg : Int32 × Int32 × Md) => ∀ (H : Heap) (locs : List Loc) (ls : Array Slot), Wd G A s.heap H (bMd G a o sg.2.2) locs → lv_has ls 9 [(0, .ref (a o)), (2, .int sg.1), (3, .int sg.2.1)] → WW p l e 5 s m [.ref (a o), .int x1] below meth c G A (some (.int out.1)) ((bMd G a o out.2)) H locs 89 ls []) (fun (r : Int32 × Md) => r = out)) r → ∀ (H : Heap) (locs : List Loc) (ls : Array Slot), Wd G A s.heap H (bMd G a o w) locs → lv_has ls 9 [(0, .ref (a o)), (2, .int x2), (3, .int x3)] → WW p l e 5 s m [.ref (a o), .int x1] below meth c G A (some (.int out.1)) ((bMd G a o out.2)) H locs 215 ls [] := by
      intro x2 x3 w r hf hF H locs ls hW hl
      unfold f_X6_duel_J215 at hf
      refine lv_iinc (v := (x3 + (-1 : Int32))) (lv' := [(3, .int (x3 + (-1 : Int32))), (0, .ref (a o)), (2, .int x2)]) hx hb dX6_duel_215 hl (k := 2) rfl rfl (by decide) rfl (fun ls hl => ?_)
      refine lv_goto (tgt := 89) hx hb dX6_duel_218 (by decide) ?_
      have e1 := Option.some.inj hf
      subst e1
      exact (elim_l hF) _ _ _ hW (lv_sub hl [1, 2, 0] rfl)
    have L101 : ∀ (x2 : Int32) (x3 : Int32) (k8 : Nat) (sg : Int32 × Md) (o9 : (Int32 × Int32 × Md) ⊕ (Int32 × Md)), lp (f_X6_duel_L101 x2 x3) k8 sg = some o9 → (Sum.elim (fun (sg : Int32 × Int32 × Md) => ∀ (H : Heap) (locs : List Loc) (ls : Array Slot), Wd G A s.heap H (bMd G a o sg.2.2) locs → lv_has ls 9 [(0, .ref (a o)), (2, .int sg.1), (3, .int sg.2.1)] → WW p l e 5 s m [.ref (a o), .int x1] below meth c G A (some (.int out.1)) ((bMd G a o out.2)) H locs 89 ls []) (fun (r : Int32 × Md) => r = out)) o9 → (fun (sg : Int32 × Md) => ∀ (H : Heap) (locs : List Loc) (ls : Array Slot), Wd G A s.heap H (bMd G a o sg.2) locs → lv_has ls 9 [(0, .ref (a o)), (2, .int x2), (3, .int x3), (4, .int sg.1)] → WW p l e 5 s m [.ref (a o), .int x1] below meth c G A (some (.int out.1)) ((bMd G a o out.2)) H locs 101 ls []) sg := by
      intro x2 x3
      have J200 : ∀ (x4 : Int32) (x5 : Int32) (w : Md) (r : (Int32 × Md) ⊕ ((Int32 × Int32 × Md) ⊕ (Int32 × Md))), f_X6_duel_J200 w x2 x3 x4 x5 = some r → (Sum.elim (fun (sg : Int32 × Md) => ∀ (H : Heap) (locs : List Loc) (ls : Array Slot), Wd G A s.heap H (bMd G a o sg.2) locs → lv_has ls 9 [(0, .ref (a o)), (2, .int x2), (3, .int x3), (4, .int sg.1)] → WW p l e 5 s m [.ref (a o), .int x1] below meth c G A (some (.int out.1)) ((bMd G a o out.2)) H locs 101 ls []) (Sum.elim (fun (sg : Int32 × Int32 × Md) => ∀ (H : Heap) (locs : List Loc) (ls : Array Slot), Wd G A s.heap H (bMd G a o sg.2.2) locs → lv_has ls 9 [(0, .ref (a o)), (2, .int sg.1), (3, .int sg.2.1)] → WW p l e 5 s m [.ref (a o), .int x1] below meth c G A (some (.int out.1)) ((bMd G a o out.2)) H locs 89 ls []) (fun (r : Int32 × Md) => r = out))) r → ∀ (H : Heap) (locs : List Loc) (ls : Array Slot), Wd G A s.heap H (bMd G a o w) locs → lv_has ls 9 [(0, .ref (a o)), (2, .int x2), (3, .int x3), (4, .int x4), (5, .int x5)] → WW p l e 5 s m [.ref (a o), .int x1] below meth c G A (some (.int out.1)) ((bMd G a o out.2)) H locs 200 ls [] := by
        intro x4 x5 w r hf hF H locs ls hW hl
        unfold f_X6_duel_J200 at hf
        refine lv_aload_n hx hb dX6_duel_200 rfl (lv_at hl 0 rfl) ?_
        refine k_get C0 hW 6 30 0 (v := .ref (a (o + 20))) rfl (by decide) inX6 mf_X6_72 rfl rfl dX6_duel_201 ?_
        refine lv_iload hx hb dX6_duel_204 (lv_at hl 3 rfl) ?_
        refine lv_iload hx hb dX6_duel_206 (lv_at hl 4 rfl) ?_
        have g208_8 := (gd_some hf).1; replace hf := (gd_some hf).2
        refine k_iast C0 hW 20 (ix x4) rfl (inb_in g208_8) rfl dX6_duel_208 (fun H locs hW => ?_)
        have hW : Wd G A s.heap H (bMd G a o (md_set_outcomes w (upd (md_outcomes w) (ix x4) x5))) locs := hW
        refine lv_iinc (v := (x4 + (1 : Int32))) (lv' := [(4, .int (x4 + (1 : Int32))), (0, .ref (a o)), (2, .int x2), (3, .int x3), (5, .int x5)]) hx hb dX6_duel_209 hl (k := 3) rfl rfl (by decide) rfl (fun ls hl => ?_)
        refine lv_goto (tgt := 101) hx hb dX6_duel_212 (by decide) ?_
        have e1 := Option.some.inj hf
        subst e1
        exact (elim_l hF) _ _ _ hW (lv_sub hl [1, 2, 3, 0] rfl)
      have L114 : ∀ (x4 : Int32) (w : Md) (k8 : Nat) (sg : Int32 × Int32) (o9 : (Int32 × Md) ⊕ ((Int32 × Int32 × Md) ⊕ (Int32 × Md))), lp (f_X6_duel_L114 w x2 x3 x4) k8 sg = some o9 → (Sum.elim (fun (sg : Int32 × Md) => ∀ (H : Heap) (locs : List Loc) (ls : Array Slot), Wd G A s.heap H (bMd G a o sg.2) locs → lv_has ls 9 [(0, .ref (a o)), (2, .int x2), (3, .int x3), (4, .int sg.1)] → WW p l e 5 s m [.ref (a o), .int x1] below meth c G A (some (.int out.1)) ((bMd G a o out.2)) H locs 101 ls []) (Sum.elim (fun (sg : Int32 × Int32 × Md) => ∀ (H : Heap) (locs : List Loc) (ls : Array Slot), Wd G A s.heap H (bMd G a o sg.2.2) locs → lv_has ls 9 [(0, .ref (a o)), (2, .int sg.1), (3, .int sg.2.1)] → WW p l e 5 s m [.ref (a o), .int x1] below meth c G A (some (.int out.1)) ((bMd G a o out.2)) H locs 89 ls []) (fun (r : Int32 × Md) => r = out))) o9 → (fun (sg : Int32 × Int32) => ∀ (H : Heap) (locs : List Loc) (ls : Array Slot), Wd G A s.heap H (bMd G a o w) locs → lv_has ls 9 [(0, .ref (a o)), (2, .int x2), (3, .int x3), (4, .int x4), (5, .int sg.1), (6, .int sg.2)] → WW p l e 5 s m [.ref (a o), .int x1] below meth c G A (some (.int out.1)) ((bMd G a o out.2)) H locs 114 ls []) sg := by
        intro x4 w
        have J192 : ∀ (x6 : Int32) (t0 : Int32) (r : (Int32 × Int32) ⊕ ((Int32 × Md) ⊕ ((Int32 × Int32 × Md) ⊕ (Int32 × Md)))), f_X6_duel_J192 w x2 x3 x4 x6 t0 = some r → (Sum.elim (fun (sg : Int32 × Int32) => ∀ (H : Heap) (locs : List Loc) (ls : Array Slot), Wd G A s.heap H (bMd G a o w) locs → lv_has ls 9 [(0, .ref (a o)), (2, .int x2), (3, .int x3), (4, .int x4), (5, .int sg.1), (6, .int sg.2)] → WW p l e 5 s m [.ref (a o), .int x1] below meth c G A (some (.int out.1)) ((bMd G a o out.2)) H locs 114 ls []) (Sum.elim (fun (sg : Int32 × Md) => ∀ (H : Heap) (locs : List Loc) (ls : Array Slot), Wd G A s.heap H (bMd G a o sg.2) locs → lv_has ls 9 [(0, .ref (a o)), (2, .int x2), (3, .int x3), (4, .int sg.1)] → WW p l e 5 s m [.ref (a o), .int x1] below meth c G A (some (.int out.1)) ((bMd G a o out.2)) H locs 101 ls []) (Sum.elim (fun (sg : Int32 × Int32 × Md) => ∀ (H : Heap) (locs : List Loc) (ls : Array Slot), Wd G A s.heap H (bMd G a o sg.2.2) locs → lv_has ls 9 [(0, .ref (a o)), (2, .int sg.1), (3, .int sg.2.1)] → WW p l e 5 s m [.ref (a o), .int x1] below meth c G A (some (.int out.1)) ((bMd G a o out.2)) H locs 89 ls []) (fun (r : Int32 × Md) => r = out)))) r → ∀ (H : Heap) (locs : List Loc) (ls : Array Slot), Wd G A s.heap H (bMd G a o w) locs → lv_has ls 9 [(0, .ref (a o)), (2, .int x2), (3, .int x3), (4, .int x4), (6, .int x6)] → WW p l e 5 s m [.ref (a o), .int x1] below meth c G A (some (.int out.1)) ((bMd G a o out.2)) H locs 192 ls [.int t0] := by
          intro x6 t0 r hf hF H locs ls hW hl
          unfold f_X6_duel_J192 at hf
          refine lv_istore (lv' := [(5, .int t0), (0, .ref (a o)), (2, .int x2), (3, .int x3), (4, .int x4), (6, .int x6)]) hx hb dX6_duel_192 hl (by decide) rfl (fun ls hl => ?_)
          refine lv_iinc (v := (x6 + (1 : Int32))) (lv' := [(6, .int (x6 + (1 : Int32))), (5, .int t0), (0, .ref (a o)), (2, .int x2), (3, .int x3), (4, .int x4)]) hx hb dX6_duel_194 hl (k := 5) rfl rfl (by decide) rfl (fun ls hl => ?_)
          refine lv_goto (tgt := 114) hx hb dX6_duel_197 (by decide) ?_
          have e1 := Option.some.inj hf
          subst e1
          exact (elim_l hF) _ _ _ hW (lv_sub hl [2, 3, 4, 5, 1, 0] rfl)
        have J178 : ∀ (x5 : Int32) (x6 : Int32) (x7 : Int32) (t0 : Int32) (r : (Int32 × Int32) ⊕ ((Int32 × Md) ⊕ ((Int32 × Int32 × Md) ⊕ (Int32 × Md)))), f_X6_duel_J178 w x2 x3 x4 x5 x6 x7 t0 = some r → (Sum.elim (fun (sg : Int32 × Int32) => ∀ (H : Heap) (locs : List Loc) (ls : Array Slot), Wd G A s.heap H (bMd G a o w) locs → lv_has ls 9 [(0, .ref (a o)), (2, .int x2), (3, .int x3), (4, .int x4), (5, .int sg.1), (6, .int sg.2)] → WW p l e 5 s m [.ref (a o), .int x1] below meth c G A (some (.int out.1)) ((bMd G a o out.2)) H locs 114 ls []) (Sum.elim (fun (sg : Int32 × Md) => ∀ (H : Heap) (locs : List Loc) (ls : Array Slot), Wd G A s.heap H (bMd G a o sg.2) locs → lv_has ls 9 [(0, .ref (a o)), (2, .int x2), (3, .int x3), (4, .int sg.1)] → WW p l e 5 s m [.ref (a o), .int x1] below meth c G A (some (.int out.1)) ((bMd G a o out.2)) H locs 101 ls []) (Sum.elim (fun (sg : Int32 × Int32 × Md) => ∀ (H : Heap) (locs : List Loc) (ls : Array Slot), Wd G A s.heap H (bMd G a o sg.2.2) locs → lv_has ls 9 [(0, .ref (a o)), (2, .int sg.1), (3, .int sg.2.1)] → WW p l e 5 s m [.ref (a o), .int x1] below meth c G A (some (.int out.1)) ((bMd G a o out.2)) H locs 89 ls []) (fun (r : Int32 × Md) => r = out)))) r → ∀ (H : Heap) (locs : List Loc) (ls : Array Slot), Wd G A s.heap H (bMd G a o w) locs → lv_has ls 9 [(0, .ref (a o)), (2, .int x2), (3, .int x3), (4, .int x4), (5, .int x5), (6, .int x6), (7, .int x7)] → WW p l e 5 s m [.ref (a o), .int x1] below meth c G A (some (.int out.1)) ((bMd G a o out.2)) H locs 178 ls [.int t0] := by
          intro x5 x6 x7 t0 r hf hF H locs ls hW hl
          unfold f_X6_duel_J178 at hf
          refine lv_istore (lv' := [(8, .int t0), (0, .ref (a o)), (2, .int x2), (3, .int x3), (4, .int x4), (5, .int x5), (6, .int x6), (7, .int x7)]) hx hb dX6_duel_178 hl (by decide) rfl (fun ls hl => ?_)
          refine lv_iload hx hb dX6_duel_180 (lv_at hl 0 rfl) ?_
          refine lv_if_eq (tgt := 190) hx hb dX6_duel_182 (by decide) (fun c182_12 => ?_) (fun c182_12 => ?_)
          · replace hf := if_t c182_12 hf
            refine lv_iload hx hb dX6_duel_190 (lv_at hl 5 rfl) ?_
            exact J192 _ _ _ hf hF _ _ _ hW (lv_sub hl [1, 2, 3, 4, 6] rfl)
          · replace hf := if_f c182_12 hf
            refine lv_iload hx hb dX6_duel_185 (lv_at hl 7 rfl) ?_
            refine lv_goto (tgt := 192) hx hb dX6_duel_187 (by decide) ?_
            exact J192 _ _ _ hf hF _ _ _ hW (lv_sub hl [1, 2, 3, 4, 6] rfl)
        have J177 : ∀ (x5 : Int32) (x6 : Int32) (x7 : Int32) (r : (Int32 × Int32) ⊕ ((Int32 × Md) ⊕ ((Int32 × Int32 × Md) ⊕ (Int32 × Md)))), f_X6_duel_J177 w x2 x3 x4 x5 x6 x7 = some r → (Sum.elim (fun (sg : Int32 × Int32) => ∀ (H : Heap) (locs : List Loc) (ls : Array Slot), Wd G A s.heap H (bMd G a o w) locs → lv_has ls 9 [(0, .ref (a o)), (2, .int x2), (3, .int x3), (4, .int x4), (5, .int sg.1), (6, .int sg.2)] → WW p l e 5 s m [.ref (a o), .int x1] below meth c G A (some (.int out.1)) ((bMd G a o out.2)) H locs 114 ls []) (Sum.elim (fun (sg : Int32 × Md) => ∀ (H : Heap) (locs : List Loc) (ls : Array Slot), Wd G A s.heap H (bMd G a o sg.2) locs → lv_has ls 9 [(0, .ref (a o)), (2, .int x2), (3, .int x3), (4, .int sg.1)] → WW p l e 5 s m [.ref (a o), .int x1] below meth c G A (some (.int out.1)) ((bMd G a o out.2)) H locs 101 ls []) (Sum.elim (fun (sg : Int32 × Int32 × Md) => ∀ (H : Heap) (locs : List Loc) (ls : Array Slot), Wd G A s.heap H (bMd G a o sg.2.2) locs → lv_has ls 9 [(0, .ref (a o)), (2, .int sg.1), (3, .int sg.2.1)] → WW p l e 5 s m [.ref (a o), .int x1] below meth c G A (some (.int out.1)) ((bMd G a o out.2)) H locs 89 ls []) (fun (r : Int32 × Md) => r = out)))) r → ∀ (H : Heap) (locs : List Loc) (ls : Array Slot), Wd G A s.heap H (bMd G a o w) locs → lv_has ls 9 [(0, .ref (a o)), (2, .int x2), (3, .int x3), (4, .int x4), (5, .int x5), (6, .int x6), (7, .int x7)] → WW p l e 5 s m [.ref (a o), .int x1] below meth c G A (some (.int out.1)) ((bMd G a o out.2)) H locs 177 ls [] := by
          intro x5 x6 x7 r hf hF H locs ls hW hl
          unfold f_X6_duel_J177 at hf
          refine lv_iconst (v := 0) hx hb dX6_duel_177 (by decide) ?_
          exact J178 _ _ _ _ _ hf hF _ _ _ hW (lv_sub hl [0, 1, 2, 3, 4, 5, 6] rfl)
        have J173 : ∀ (x5 : Int32) (x6 : Int32) (x7 : Int32) (r : (Int32 × Int32) ⊕ ((Int32 × Md) ⊕ ((Int32 × Int32 × Md) ⊕ (Int32 × Md)))), f_X6_duel_J173 w x2 x3 x4 x5 x6 x7 = some r → (Sum.elim (fun (sg : Int32 × Int32) => ∀ (H : Heap) (locs : List Loc) (ls : Array Slot), Wd G A s.heap H (bMd G a o w) locs → lv_has ls 9 [(0, .ref (a o)), (2, .int x2), (3, .int x3), (4, .int x4), (5, .int sg.1), (6, .int sg.2)] → WW p l e 5 s m [.ref (a o), .int x1] below meth c G A (some (.int out.1)) ((bMd G a o out.2)) H locs 114 ls []) (Sum.elim (fun (sg : Int32 × Md) => ∀ (H : Heap) (locs : List Loc) (ls : Array Slot), Wd G A s.heap H (bMd G a o sg.2) locs → lv_has ls 9 [(0, .ref (a o)), (2, .int x2), (3, .int x3), (4, .int sg.1)] → WW p l e 5 s m [.ref (a o), .int x1] below meth c G A (some (.int out.1)) ((bMd G a o out.2)) H locs 101 ls []) (Sum.elim (fun (sg : Int32 × Int32 × Md) => ∀ (H : Heap) (locs : List Loc) (ls : Array Slot), Wd G A s.heap H (bMd G a o sg.2.2) locs → lv_has ls 9 [(0, .ref (a o)), (2, .int sg.1), (3, .int sg.2.1)] → WW p l e 5 s m [.ref (a o), .int x1] below meth c G A (some (.int out.1)) ((bMd G a o out.2)) H locs 89 ls []) (fun (r : Int32 × Md) => r = out)))) r → ∀ (H : Heap) (locs : List Loc) (ls : Array Slot), Wd G A s.heap H (bMd G a o w) locs → lv_has ls 9 [(0, .ref (a o)), (2, .int x2), (3, .int x3), (4, .int x4), (5, .int x5), (6, .int x6), (7, .int x7)] → WW p l e 5 s m [.ref (a o), .int x1] below meth c G A (some (.int out.1)) ((bMd G a o out.2)) H locs 173 ls [] := by
          intro x5 x6 x7 r hf hF H locs ls hW hl
          unfold f_X6_duel_J173 at hf
          refine lv_iconst (v := 1) hx hb dX6_duel_173 (by decide) ?_
          refine lv_goto (tgt := 178) hx hb dX6_duel_174 (by decide) ?_
          exact J178 _ _ _ _ _ hf hF _ _ _ hW (lv_sub hl [0, 1, 2, 3, 4, 5, 6] rfl)
        have B114 : ∀ (x5 : Int32) (x6 : Int32) (r : (Int32 × Int32) ⊕ ((Int32 × Md) ⊕ ((Int32 × Int32 × Md) ⊕ (Int32 × Md)))), f_X6_duel_B114 w x2 x3 x4 x5 x6 = some r → (Sum.elim (fun (sg : Int32 × Int32) => ∀ (H : Heap) (locs : List Loc) (ls : Array Slot), Wd G A s.heap H (bMd G a o w) locs → lv_has ls 9 [(0, .ref (a o)), (2, .int x2), (3, .int x3), (4, .int x4), (5, .int sg.1), (6, .int sg.2)] → WW p l e 5 s m [.ref (a o), .int x1] below meth c G A (some (.int out.1)) ((bMd G a o out.2)) H locs 114 ls []) (Sum.elim (fun (sg : Int32 × Md) => ∀ (H : Heap) (locs : List Loc) (ls : Array Slot), Wd G A s.heap H (bMd G a o sg.2) locs → lv_has ls 9 [(0, .ref (a o)), (2, .int x2), (3, .int x3), (4, .int sg.1)] → WW p l e 5 s m [.ref (a o), .int x1] below meth c G A (some (.int out.1)) ((bMd G a o out.2)) H locs 101 ls []) (Sum.elim (fun (sg : Int32 × Int32 × Md) => ∀ (H : Heap) (locs : List Loc) (ls : Array Slot), Wd G A s.heap H (bMd G a o sg.2.2) locs → lv_has ls 9 [(0, .ref (a o)), (2, .int sg.1), (3, .int sg.2.1)] → WW p l e 5 s m [.ref (a o), .int x1] below meth c G A (some (.int out.1)) ((bMd G a o out.2)) H locs 89 ls []) (fun (r : Int32 × Md) => r = out)))) r → ∀ (H : Heap) (locs : List Loc) (ls : Array Slot), Wd G A s.heap H (bMd G a o w) locs → lv_has ls 9 [(0, .ref (a o)), (2, .int x2), (3, .int x3), (4, .int x4), (5, .int x5), (6, .int x6)] → WW p l e 5 s m [.ref (a o), .int x1] below meth c G A (some (.int out.1)) ((bMd G a o out.2)) H locs 114 ls [] := by
          intro x5 x6 r hf hF H locs ls hW hl
          unfold f_X6_duel_B114 at hf
          refine lv_iload hx hb dX6_duel_114 (lv_at hl 5 rfl) ?_
          refine lv_bipush (v := 9) hx hb dX6_duel_116 (by decide) ?_
          refine lv_icmp_ge (tgt := 200) hx hb dX6_duel_118 (by decide) (fun c118_7 => ?_) (fun c118_7 => ?_)
          · replace hf := if_t c118_7 hf
            obtain ⟨r2, e2⟩ := om_s hf
            replace hf := e2.1
            replace e2 := e2.2
            subst e2
            replace hF := elim_r hF
            exact J200 _ _ _ _ hf hF _ _ _ hW (lv_sub hl [0, 1, 2, 3, 4] rfl)
          · replace hf := if_f c118_7 hf
            refine lv_aload_n hx hb dX6_duel_121 rfl (lv_at hl 0 rfl) ?_
            refine k_get C0 hW 6 30 0 (v := .ref (a (o + 20))) rfl (by decide) inX6 mf_X6_72 rfl rfl dX6_duel_122 ?_
            refine lv_bipush (v := 9) hx hb dX6_duel_125 (by decide) ?_
            refine lv_iload hx hb dX6_duel_127 (lv_at hl 3 rfl) ?_
            refine lv_imul hx hb dX6_duel_129 ?_
            refine lv_iload hx hb dX6_duel_130 (lv_at hl 5 rfl) ?_
            refine lv_iadd hx hb dX6_duel_132 ?_
            have g133_9 := (gd_some hf).1; replace hf := (gd_some hf).2
            refine k_iald C0 hW 20 (ix (((9 : Int32) * x4) + x6)) rfl (inb_in g133_9) rfl dX6_duel_133 ?_
            refine lv_topi (fun v134 ev134 => ?_)
            replace hf := nm_s ev134 hf
            refine lv_istore (lv' := [(7, .int v134), (0, .ref (a o)), (2, .int x2), (3, .int x3), (4, .int x4), (5, .int x5), (6, .int x6)]) hx hb dX6_duel_134 hl (by decide) rfl (fun ls hl => ?_)
            refine lv_iload hx hb dX6_duel_136 (lv_at hl 0 rfl) ?_
            refine lv_ldc hx hb C0.2.2.2.2.2.1 (C0.2.2.2.2.2.2.1 _ mk_X6_223) dX6_duel_138 ?_
            refine lv_icmp_eq (tgt := 177) hx hb dX6_duel_140 (by decide) (fun c140_11 => ?_) (fun c140_11 => ?_)
            · replace hf := if_t c140_11 hf
              exact J177 _ _ _ _ hf hF _ _ _ hW (lv_sub hl [1, 2, 3, 4, 5, 6, 0] rfl)
            · replace hf := if_f c140_11 hf
              refine lv_iload hx hb dX6_duel_143 (lv_at hl 5 rfl) ?_
              refine lv_ldc hx hb C0.2.2.2.2.2.1 (C0.2.2.2.2.2.2.1 _ mk_X6_223) dX6_duel_145 ?_
              refine lv_icmp_eq (tgt := 173) hx hb dX6_duel_147 (by decide) (fun c147_13 => ?_) (fun c147_13 => ?_)
              · replace hf := if_t c147_13 hf
                exact J173 _ _ _ _ hf hF _ _ _ hW (lv_sub hl [1, 2, 3, 4, 5, 6, 0] rfl)
              · replace hf := if_f c147_13 hf
                refine lv_iload_n hx hb dX6_duel_150 rfl (lv_at hl 3 rfl) ?_
                refine lv_iconst (v := 2) hx hb dX6_duel_151 (by decide) ?_
                refine lv_irem hx hb dX6_duel_152 (by decide) ?_
                refine lv_if_ne (tgt := 166) hx hb dX6_duel_153 (by decide) (fun c153_14 => ?_) (fun c153_14 => ?_)
                · replace hf := if_f c153_14 hf
                  refine lv_iload hx hb dX6_duel_166 (lv_at hl 0 rfl) ?_
                  refine lv_iload hx hb dX6_duel_168 (lv_at hl 5 rfl) ?_
                  refine lv_icmp_ge (tgt := 177) hx hb dX6_duel_170 (by decide) (fun c170_15 => ?_) (fun c170_15 => ?_)
                  · replace hf := if_t c170_15 hf
                    exact J177 _ _ _ _ hf hF _ _ _ hW (lv_sub hl [1, 2, 3, 4, 5, 6, 0] rfl)
                  · replace hf := if_f c170_15 hf
                    exact J173 _ _ _ _ hf hF _ _ _ hW (lv_sub hl [1, 2, 3, 4, 5, 6, 0] rfl)
                · replace hf := if_t c153_14 hf
                  refine lv_iload hx hb dX6_duel_156 (lv_at hl 0 rfl) ?_
                  refine lv_iload hx hb dX6_duel_158 (lv_at hl 5 rfl) ?_
                  refine lv_icmp_le (tgt := 177) hx hb dX6_duel_160 (by decide) (fun c160_16 => ?_) (fun c160_16 => ?_)
                  · replace hf := if_t c160_16 hf
                    exact J177 _ _ _ _ hf hF _ _ _ hW (lv_sub hl [1, 2, 3, 4, 5, 6, 0] rfl)
                  · replace hf := if_f c160_16 hf
                    refine lv_goto (tgt := 173) hx hb dX6_duel_163 (by decide) ?_
                    exact J173 _ _ _ _ hf hF _ _ _ hW (lv_sub hl [1, 2, 3, 4, 5, 6, 0] rfl)
        exact lp_sound (fun sg r hb hz => B114 sg.1 sg.2 r hb hz)
      have B101 : ∀ (x4 : Int32) (w : Md) (r : (Int32 × Md) ⊕ ((Int32 × Int32 × Md) ⊕ (Int32 × Md))), f_X6_duel_B101 x2 x3 x4 w = some r → (Sum.elim (fun (sg : Int32 × Md) => ∀ (H : Heap) (locs : List Loc) (ls : Array Slot), Wd G A s.heap H (bMd G a o sg.2) locs → lv_has ls 9 [(0, .ref (a o)), (2, .int x2), (3, .int x3), (4, .int sg.1)] → WW p l e 5 s m [.ref (a o), .int x1] below meth c G A (some (.int out.1)) ((bMd G a o out.2)) H locs 101 ls []) (Sum.elim (fun (sg : Int32 × Int32 × Md) => ∀ (H : Heap) (locs : List Loc) (ls : Array Slot), Wd G A s.heap H (bMd G a o sg.2.2) locs → lv_has ls 9 [(0, .ref (a o)), (2, .int sg.1), (3, .int sg.2.1)] → WW p l e 5 s m [.ref (a o), .int x1] below meth c G A (some (.int out.1)) ((bMd G a o out.2)) H locs 89 ls []) (fun (r : Int32 × Md) => r = out))) r → ∀ (H : Heap) (locs : List Loc) (ls : Array Slot), Wd G A s.heap H (bMd G a o w) locs → lv_has ls 9 [(0, .ref (a o)), (2, .int x2), (3, .int x3), (4, .int x4)] → WW p l e 5 s m [.ref (a o), .int x1] below meth c G A (some (.int out.1)) ((bMd G a o out.2)) H locs 101 ls [] := by
        intro x4 w r hf hF H locs ls hW hl
        unfold f_X6_duel_B101 at hf
        refine lv_iload hx hb dX6_duel_101 (lv_at hl 3 rfl) ?_
        refine lv_iload_n hx hb dX6_duel_103 rfl (lv_at hl 1 rfl) ?_
        refine lv_icmp_ge (tgt := 215) hx hb dX6_duel_104 (by decide) (fun c104_6 => ?_) (fun c104_6 => ?_)
        · replace hf := if_t c104_6 hf
          obtain ⟨r2, e2⟩ := om_s hf
          replace hf := e2.1
          replace e2 := e2.2
          subst e2
          replace hF := elim_r hF
          exact J215 _ _ _ _ hf hF _ _ _ hW (lv_sub hl [0, 1, 2] rfl)
        · replace hf := if_f c104_6 hf
          refine lv_ldc hx hb C0.2.2.2.2.2.1 (C0.2.2.2.2.2.2.1 _ mk_X6_223) dX6_duel_107 ?_
          refine lv_istore (lv' := [(5, .int (1000000 : Int32)), (0, .ref (a o)), (2, .int x2), (3, .int x3), (4, .int x4)]) hx hb dX6_duel_109 hl (by decide) rfl (fun ls hl => ?_)
          refine lv_iconst (v := 0) hx hb dX6_duel_111 (by decide) ?_
          refine lv_istore (lv' := [(6, .int (0 : Int32)), (5, .int (1000000 : Int32)), (0, .ref (a o)), (2, .int x2), (3, .int x3), (4, .int x4)]) hx hb dX6_duel_112 hl (by decide) rfl (fun ls hl => ?_)
          exact L114 _ _ fuel ((1000000 : Int32), (0 : Int32)) _ hf hF _ _ _ hW (lv_sub hl [2, 3, 4, 5, 1, 0] rfl)
      exact lp_sound (fun sg r hb hz => B101 sg.1 sg.2 r hb hz)
    have B89 : ∀ (x2 : Int32) (x3 : Int32) (w : Md) (r : (Int32 × Int32 × Md) ⊕ (Int32 × Md)), f_X6_duel_B89 x2 x3 w = some r → (Sum.elim (fun (sg : Int32 × Int32 × Md) => ∀ (H : Heap) (locs : List Loc) (ls : Array Slot), Wd G A s.heap H (bMd G a o sg.2.2) locs → lv_has ls 9 [(0, .ref (a o)), (2, .int sg.1), (3, .int sg.2.1)] → WW p l e 5 s m [.ref (a o), .int x1] below meth c G A (some (.int out.1)) ((bMd G a o out.2)) H locs 89 ls []) (fun (r : Int32 × Md) => r = out)) r → ∀ (H : Heap) (locs : List Loc) (ls : Array Slot), Wd G A s.heap H (bMd G a o w) locs → lv_has ls 9 [(0, .ref (a o)), (2, .int x2), (3, .int x3)] → WW p l e 5 s m [.ref (a o), .int x1] below meth c G A (some (.int out.1)) ((bMd G a o out.2)) H locs 89 ls [] := by
      intro x2 x3 w r hf hF H locs ls hW hl
      unfold f_X6_duel_B89 at hf
      refine lv_iload_n hx hb dX6_duel_89 rfl (lv_at hl 2 rfl) ?_
      refine lv_if_lt (tgt := 221) hx hb dX6_duel_90 (by decide) (fun c90_5 => ?_) (fun c90_5 => ?_)
      · replace hf := if_t c90_5 hf
        obtain ⟨r2, e2⟩ := om_s hf
        replace hf := e2.1
        replace e2 := e2.2
        subst e2
        replace hF := elim_r hF
        exact J221 _ _ hf hF _ _ _ hW (lv_sub hl [0] rfl)
      · replace hf := if_f c90_5 hf
        refine lv_iload_n hx hb dX6_duel_93 rfl (lv_at hl 1 rfl) ?_
        refine lv_bipush (v := 9) hx hb dX6_duel_94 (by decide) ?_
        refine lv_idiv hx hb dX6_duel_96 (by decide) ?_
        refine lv_istore_n (lv' := [(2, .int (x2 / (9 : Int32))), (0, .ref (a o)), (3, .int x3)]) hx hb dX6_duel_97 rfl hl (by decide) rfl (fun ls hl => ?_)
        refine lv_iconst (v := 0) hx hb dX6_duel_98 (by decide) ?_
        refine lv_istore (lv' := [(4, .int (0 : Int32)), (2, .int (x2 / (9 : Int32))), (0, .ref (a o)), (3, .int x3)]) hx hb dX6_duel_99 hl (by decide) rfl (fun ls hl => ?_)
        exact L101 _ _ fuel ((0 : Int32), w) _ hf hF _ _ _ hW (lv_sub hl [2, 1, 3, 0] rfl)
    exact lp_sound (fun sg r hb hz => B89 sg.1 sg.2.1 sg.2.2 r hb hz)
  have J85 : ∀ (x2 : Int32) (w : Md) (r : Int32 × Md), f_X6_duel_J85 w x1 x2 = some r → (fun (r : Int32 × Md) => r = out) r → ∀ (H : Heap) (locs : List Loc) (ls : Array Slot), Wd G A s.heap H (bMd G a o w) locs → lv_has ls 9 [(0, .ref (a o)), (1, .int x1), (2, .int x2)] → WW p l e 5 s m [.ref (a o), .int x1] below meth c G A (some (.int out.1)) ((bMd G a o out.2)) H locs 85 ls [] := by
    intro x2 w r hf hF H locs ls hW hl
    unfold f_X6_duel_J85 at hf
    refine lv_iload_n hx hb dX6_duel_85 rfl (lv_at hl 1 rfl) ?_
    refine lv_iconst (v := 1) hx hb dX6_duel_86 (by decide) ?_
    refine lv_isub hx hb dX6_duel_87 ?_
    refine lv_istore_n (lv' := [(3, .int (x1 - (1 : Int32))), (0, .ref (a o)), (1, .int x1), (2, .int x2)]) hx hb dX6_duel_88 rfl hl (by decide) rfl (fun ls hl => ?_)
    exact L89  fuel (x2, (x1 - (1 : Int32)), w) _ hf hF _ _ _ hW (lv_sub hl [1, 3, 0] rfl)
  have L43 : ∀ (x2 : Int32) (k8 : Nat) (sg : Int32 × Md) (o9 : Int32 × Md), lp (f_X6_duel_L43 x1 x2) k8 sg = some o9 → (fun (r : Int32 × Md) => r = out) o9 → (fun (sg : Int32 × Md) => ∀ (H : Heap) (locs : List Loc) (ls : Array Slot), Wd G A s.heap H (bMd G a o sg.2) locs → lv_has ls 9 [(0, .ref (a o)), (1, .int x1), (2, .int x2), (3, .int sg.1)] → WW p l e 5 s m [.ref (a o), .int x1] below meth c G A (some (.int out.1)) ((bMd G a o out.2)) H locs 43 ls []) sg := by
    intro x2
    have J78 : ∀ (x3 : Int32) (t1 : Int32) (t2 : Int32) (w : Md) (r : (Int32 × Md) ⊕ (Int32 × Md)), f_X6_duel_J78 w x1 x2 x3 t1 t2 = some r → (Sum.elim (fun (sg : Int32 × Md) => ∀ (H : Heap) (locs : List Loc) (ls : Array Slot), Wd G A s.heap H (bMd G a o sg.2) locs → lv_has ls 9 [(0, .ref (a o)), (1, .int x1), (2, .int x2), (3, .int sg.1)] → WW p l e 5 s m [.ref (a o), .int x1] below meth c G A (some (.int out.1)) ((bMd G a o out.2)) H locs 43 ls []) (fun (r : Int32 × Md) => r = out)) r → ∀ (H : Heap) (locs : List Loc) (ls : Array Slot), Wd G A s.heap H (bMd G a o w) locs → lv_has ls 9 [(0, .ref (a o)), (1, .int x1), (2, .int x2), (3, .int x3)] → WW p l e 5 s m [.ref (a o), .int x1] below meth c G A (some (.int out.1)) ((bMd G a o out.2)) H locs 78 ls [.int t2, .int t1, .ref (a (o + 20))] := by
      intro x3 t1 t2 w r hf hF H locs ls hW hl
      unfold f_X6_duel_J78 at hf
      have g78_18 := (gd_some hf).1; replace hf := (gd_some hf).2
      refine k_iast C0 hW 20 (ix t1) rfl (inb_in g78_18) rfl dX6_duel_78 (fun H locs hW => ?_)
      have hW : Wd G A s.heap H (bMd G a o (md_set_outcomes w (upd (md_outcomes w) (ix t1) t2))) locs := hW
      refine lv_iinc (v := (x3 + (1 : Int32))) (lv' := [(3, .int (x3 + (1 : Int32))), (0, .ref (a o)), (1, .int x1), (2, .int x2)]) hx hb dX6_duel_79 hl (k := 3) rfl rfl (by decide) rfl (fun ls hl => ?_)
      refine lv_goto (tgt := 43) hx hb dX6_duel_82 (by decide) ?_
      have e1 := Option.some.inj hf
      subst e1
      exact (elim_l hF) _ _ _ hW (lv_sub hl [1, 2, 3, 0] rfl)
    have B43 : ∀ (x3 : Int32) (w : Md) (r : (Int32 × Md) ⊕ (Int32 × Md)), f_X6_duel_B43 x1 x2 x3 w = some r → (Sum.elim (fun (sg : Int32 × Md) => ∀ (H : Heap) (locs : List Loc) (ls : Array Slot), Wd G A s.heap H (bMd G a o sg.2) locs → lv_has ls 9 [(0, .ref (a o)), (1, .int x1), (2, .int x2), (3, .int sg.1)] → WW p l e 5 s m [.ref (a o), .int x1] below meth c G A (some (.int out.1)) ((bMd G a o out.2)) H locs 43 ls []) (fun (r : Int32 × Md) => r = out)) r → ∀ (H : Heap) (locs : List Loc) (ls : Array Slot), Wd G A s.heap H (bMd G a o w) locs → lv_has ls 9 [(0, .ref (a o)), (1, .int x1), (2, .int x2), (3, .int x3)] → WW p l e 5 s m [.ref (a o), .int x1] below meth c G A (some (.int out.1)) ((bMd G a o out.2)) H locs 43 ls [] := by
      intro x3 w r hf hF H locs ls hW hl
      unfold f_X6_duel_B43 at hf
      refine lv_iload_n hx hb dX6_duel_43 rfl (lv_at hl 3 rfl) ?_
      refine lv_iload_n hx hb dX6_duel_44 rfl (lv_at hl 2 rfl) ?_
      refine lv_icmp_ge (tgt := 85) hx hb dX6_duel_45 (by decide) (fun c45_4 => ?_) (fun c45_4 => ?_)
      · replace hf := if_t c45_4 hf
        obtain ⟨r2, e2⟩ := om_s hf
        replace hf := e2.1
        replace e2 := e2.2
        subst e2
        replace hF := elim_r hF
        exact J85 _ _ _ hf hF _ _ _ hW (lv_sub hl [0, 1, 2] rfl)
      · replace hf := if_f c45_4 hf
        refine lv_aload_n hx hb dX6_duel_48 rfl (lv_at hl 0 rfl) ?_
        obtain ⟨q49, hq49⟩ := ob_s hf
        replace hf := hq49.2
        replace hq49 := hq49.1
        refine cW1 (rest := []) (ws1 := (bMd G a o q49)) (st1 := []) C0 hW hl.1 (c_X6_copyNow l G a o w _ hq49) cb_X6_copyNow mm_X6_203 fst_Md 0 6 rfl rfl rfl (by decide) rfl rfl (Nat.le_of_ble_eq_true rfl) ⟨Nat.zero_le _, Nat.zero_le _⟩ dX6_duel_49 rfl (fun H locs hW => ?_)
        refine lv_aload_n hx hb dX6_duel_52 rfl (lv_at hl 0 rfl) ?_
        refine k_get C0 hW 6 30 0 (v := .ref (a (o + 20))) rfl (by decide) inX6 mf_X6_72 rfl rfl dX6_duel_53 ?_
        refine lv_iload_n hx hb dX6_duel_56 rfl (lv_at hl 3 rfl) ?_
        refine lv_aload_n hx hb dX6_duel_57 rfl (lv_at hl 0 rfl) ?_
        refine lv_iload_n hx hb dX6_duel_58 rfl (lv_at hl 3 rfl) ?_
        refine lv_iload_n hx hb dX6_duel_59 rfl (lv_at hl 1 rfl) ?_
        obtain ⟨q60, hq60⟩ := ob_s hf
        replace hf := hq60.2
        replace hq60 := hq60.1
        refine cW1 (rest := [.int x3, .ref (a (o + 20))]) (ws1 := (bMd G a o q60.2)) (st1 := [.int q60.1, .int x3, .ref (a (o + 20))]) C0 hW hl.1 (c_X6_isMoved l G a o q49 x3 x1 _ hq60) cb_X6_isMoved mm_X6_238 fst_Md 0 6 rfl rfl rfl (by decide) rfl rfl (Nat.le_of_ble_eq_true rfl) ⟨Nat.zero_le _, Nat.zero_le _⟩ dX6_duel_60 rfl (fun H locs hW => ?_)
        refine lv_if_eq (tgt := 76) hx hb dX6_duel_63 (by decide) (fun c63_17 => ?_) (fun c63_17 => ?_)
        · replace hf := if_t c63_17 hf
          refine lv_ldc hx hb C0.2.2.2.2.2.1 (C0.2.2.2.2.2.2.1 _ mk_X6_223) dX6_duel_76 ?_
          exact J78 _ _ _ _ _ hf hF _ _ _ hW (lv_sub hl [0, 1, 2, 3] rfl)
        · replace hf := if_f c63_17 hf
          refine lv_aload_n hx hb dX6_duel_66 rfl (lv_at hl 0 rfl) ?_
          refine lv_bipush (v := 12) hx hb dX6_duel_67 (by decide) ?_
          refine lv_iconst (v := 1) hx hb dX6_duel_69 (by decide) ?_
          obtain ⟨q70, hq70⟩ := ob_s hf
          replace hf := hq70.2
          replace hq70 := hq70.1
          refine cW1 (rest := [.int x3, .ref (a (o + 20))]) (ws1 := (bMd G a o q70.2)) (st1 := [.int q70.1, .int x3, .ref (a (o + 20))]) C0 hW hl.1 (c_X6_limpsIn l G a o q60.2 (12 : Int32) (1 : Int32) _ hq70) cb_X6_limpsIn mm_X6_206 fst_Md 0 6 rfl rfl rfl (by decide) rfl rfl (Nat.le_of_ble_eq_true rfl) ⟨Nat.zero_le _, Nat.zero_le _⟩ dX6_duel_70 rfl (fun H locs hW => ?_)
          refine lv_goto (tgt := 78) hx hb dX6_duel_73 (by decide) ?_
          exact J78 _ _ _ _ _ hf hF _ _ _ hW (lv_sub hl [0, 1, 2, 3] rfl)
    exact lp_sound (fun sg r hb hz => B43 sg.1 sg.2 r hb hz)
  have J41 : ∀ (x2 : Int32) (w : Md) (r : Int32 × Md), f_X6_duel_J41 w x1 x2 = some r → (fun (r : Int32 × Md) => r = out) r → ∀ (H : Heap) (locs : List Loc) (ls : Array Slot), Wd G A s.heap H (bMd G a o w) locs → lv_has ls 9 [(0, .ref (a o)), (1, .int x1), (2, .int x2)] → WW p l e 5 s m [.ref (a o), .int x1] below meth c G A (some (.int out.1)) ((bMd G a o out.2)) H locs 41 ls [] := by
    intro x2 w r hf hF H locs ls hW hl
    unfold f_X6_duel_J41 at hf
    refine lv_iconst (v := 0) hx hb dX6_duel_41 (by decide) ?_
    refine lv_istore_n (lv' := [(3, .int (0 : Int32)), (0, .ref (a o)), (1, .int x1), (2, .int x2)]) hx hb dX6_duel_42 rfl hl (by decide) rfl (fun ls hl => ?_)
    exact L43 _ fuel ((0 : Int32), w) _ hf hF _ _ _ hW (lv_sub hl [1, 2, 3, 0] rfl)
  have L25 : ∀ (w : Md) (k8 : Nat) (sg : Int32 × Int32) (o9 : Int32 × Md), lp (f_X6_duel_L25 w x1) k8 sg = some o9 → (fun (r : Int32 × Md) => r = out) o9 → (fun (sg : Int32 × Int32) => ∀ (H : Heap) (locs : List Loc) (ls : Array Slot), Wd G A s.heap H (bMd G a o w) locs → lv_has ls 9 [(0, .ref (a o)), (1, .int x1), (2, .int sg.1), (3, .int sg.2)] → WW p l e 5 s m [.ref (a o), .int x1] below meth c G A (some (.int out.1)) ((bMd G a o out.2)) H locs 25 ls []) sg := by
    intro w
    have B25 : ∀ (x2 : Int32) (x3 : Int32) (r : (Int32 × Int32) ⊕ (Int32 × Md)), f_X6_duel_B25 w x1 x2 x3 = some r → (Sum.elim (fun (sg : Int32 × Int32) => ∀ (H : Heap) (locs : List Loc) (ls : Array Slot), Wd G A s.heap H (bMd G a o w) locs → lv_has ls 9 [(0, .ref (a o)), (1, .int x1), (2, .int sg.1), (3, .int sg.2)] → WW p l e 5 s m [.ref (a o), .int x1] below meth c G A (some (.int out.1)) ((bMd G a o out.2)) H locs 25 ls []) (fun (r : Int32 × Md) => r = out)) r → ∀ (H : Heap) (locs : List Loc) (ls : Array Slot), Wd G A s.heap H (bMd G a o w) locs → lv_has ls 9 [(0, .ref (a o)), (1, .int x1), (2, .int x2), (3, .int x3)] → WW p l e 5 s m [.ref (a o), .int x1] below meth c G A (some (.int out.1)) ((bMd G a o out.2)) H locs 25 ls [] := by
      intro x2 x3 r hf hF H locs ls hW hl
      unfold f_X6_duel_B25 at hf
      refine lv_iload_n hx hb dX6_duel_25 rfl (lv_at hl 3 rfl) ?_
      refine lv_iload_n hx hb dX6_duel_26 rfl (lv_at hl 1 rfl) ?_
      refine lv_icmp_ge (tgt := 41) hx hb dX6_duel_27 (by decide) (fun c27_3 => ?_) (fun c27_3 => ?_)
      · replace hf := if_t c27_3 hf
        obtain ⟨r2, e2⟩ := om_s hf
        replace hf := e2.1
        replace e2 := e2.2
        subst e2
        replace hF := elim_r hF
        exact J41 _ _ _ hf hF _ _ _ hW (lv_sub hl [0, 1, 2] rfl)
      · replace hf := if_f c27_3 hf
        refine lv_iload_n hx hb dX6_duel_30 rfl (lv_at hl 2 rfl) ?_
        refine lv_bipush (v := 9) hx hb dX6_duel_31 (by decide) ?_
        refine lv_imul hx hb dX6_duel_33 ?_
        refine lv_istore_n (lv' := [(2, .int (x2 * (9 : Int32))), (0, .ref (a o)), (1, .int x1), (3, .int x3)]) hx hb dX6_duel_34 rfl hl (by decide) rfl (fun ls hl => ?_)
        refine lv_iinc (v := (x3 + (1 : Int32))) (lv' := [(3, .int (x3 + (1 : Int32))), (2, .int (x2 * (9 : Int32))), (0, .ref (a o)), (1, .int x1)]) hx hb dX6_duel_35 hl (k := 3) rfl rfl (by decide) rfl (fun ls hl => ?_)
        refine lv_goto (tgt := 25) hx hb dX6_duel_38 (by decide) ?_
        have e1 := Option.some.inj hf
        subst e1
        exact (elim_l hF) _ _ _ hW (lv_sub hl [2, 3, 1, 0] rfl)
    exact lp_sound (fun sg r hb hz => B25 sg.1 sg.2 r hb hz)
  obtain ⟨r, hr⟩ : ∃ r, f_X6_duel w x1 = some r ∧ r = out := ⟨out, hf, rfl⟩
  replace hf := hr.1
  have hF := hr.2
  clear hr
  unfold f_X6_duel at hf
  refine lv_iload_n hx hb dX6_duel_0 rfl (lv_at hl 1 rfl) ?_
  refine lv_iconst (v := 0) hx hb dX6_duel_1 (by decide) ?_
  refine lv_iconst (v := 4) hx hb dX6_duel_2 (by decide) ?_
  obtain ⟨q3, hq3⟩ := ob_s hf
  replace hf := hq3.2
  replace hq3 := hq3.1
  refine cS0 (rest := []) (st1 := [.int q3]) C0 hW hl.1 (c_X6_in l G x1 (0 : Int32) (4 : Int32) _ hq3) cb_X6_in mm_X6_89 [] rfl rfl (by decide) rfl rfl (Nat.le_of_ble_eq_true rfl) ⟨Nat.zero_le _, Nat.zero_le _⟩ dX6_duel_3 rfl (fun H locs hW => ?_)
  refine lv_if_ne (tgt := 11) hx hb dX6_duel_6 (by decide) (fun c6_1 => ?_) (fun c6_1 => ?_)
  · replace hf := if_f c6_1 hf
    refine lv_aload_n hx hb dX6_duel_11 rfl (lv_at hl 0 rfl) ?_
    refine k_get C0 hW 6 18 0 (v := .int (md_n w)) rfl (by decide) inX6 mf_X6_142 rfl rfl dX6_duel_12 ?_
    refine lv_if_ne (tgt := 21) hx hb dX6_duel_15 (by decide) (fun c15_2 => ?_) (fun c15_2 => ?_)
    · replace hf := if_f c15_2 hf
      refine lv_iconst (v := 1) hx hb dX6_duel_21 (by decide) ?_
      refine lv_istore_n (lv' := [(2, .int (1 : Int32)), (0, .ref (a o)), (1, .int x1)]) hx hb dX6_duel_22 rfl hl (by decide) rfl (fun ls hl => ?_)
      refine lv_iconst (v := 0) hx hb dX6_duel_23 (by decide) ?_
      refine lv_istore_n (lv' := [(3, .int (0 : Int32)), (2, .int (1 : Int32)), (0, .ref (a o)), (1, .int x1)]) hx hb dX6_duel_24 rfl hl (by decide) rfl (fun ls hl => ?_)
      exact L25 _ fuel ((1 : Int32), (0 : Int32)) _ hf hF _ _ _ hW (lv_sub hl [2, 3, 1, 0] rfl)
    · replace hf := if_t c15_2 hf
      refine lv_bipush (v := -4) hx hb dX6_duel_18 (by decide) ?_
      have e1 := Option.some.inj hf
      subst e1
      have hF : (((-4 : Int32), w) : Int32 × Md) = out := hF
      subst hF
      exact k_iret C0 hW dX6_duel_20
  · replace hf := if_t c6_1 hf
    refine lv_iconst (v := -1) hx hb dX6_duel_9 (by decide) ?_
    have e1 := Option.some.inj hf
    subst e1
    have hF : (((-1 : Int32), w) : Int32 × Md) = out := hF
    subst hF
    exact k_iret C0 hW dX6_duel_10

def f_X6_isText (x0 : Int32) : Option (Int32) :=
  Option.bind (f_X6_in x0 (0 : Int32) (3 : Int32)) (fun q3 => gd (isB q3) (some q3))
set_option maxRecDepth 100000 in
set_option maxHeartbeats 1000000 in
theorem c_X6_isText (l : Launch) (G : GG) (x0 : Int32) (out : Int32) (hf : f_X6_isText x0 = some out) : Cn l G 1 yX6_isText cX6_isText 1 (some .boolean) [.int x0] ([] : va_W) (some (.int out)) ([] : va_W) := by
  refine cn_start (by decide) (Nat.le_of_ble_eq_true rfl) ?_
  intro p e s m below meth c A ls C0 hW hl
  have hx := C0.1
  have hb := C0.2.1
  have hl : lv_has ls 1 [(0, .int x0)] := hl
  obtain ⟨r, hr⟩ : ∃ r, f_X6_isText x0 = some r ∧ r = out := ⟨out, hf, rfl⟩
  replace hf := hr.1
  have hF := hr.2
  clear hr
  unfold f_X6_isText at hf
  refine lv_iload_n hx hb dX6_isText_0 rfl (lv_at hl 0 rfl) ?_
  refine lv_iconst (v := 0) hx hb dX6_isText_1 (by decide) ?_
  refine lv_iconst (v := 3) hx hb dX6_isText_2 (by decide) ?_
  obtain ⟨q3, hq3⟩ := ob_s hf
  replace hf := hq3.2
  replace hq3 := hq3.1
  refine cS0 (rest := []) (st1 := [.int q3]) C0 hW hl.1 (c_X6_in l G x0 (0 : Int32) (3 : Int32) _ hq3) cb_X6_in mm_X6_89 [] rfl rfl (by decide) rfl rfl (Nat.le_of_ble_eq_true rfl) ⟨Nat.zero_le _, Nat.zero_le _⟩ dX6_isText_3 rfl (fun H locs hW => ?_)
  have g6_1 := (gd_some hf).1; replace hf := (gd_some hf).2
  have e1 := Option.some.inj hf
  subst e1
  have hF : (q3 : Int32) = out := hF
  subst hF
  exact k_zret C0 hW g6_1 dX6_isText_6

def f_X6_letterAt (w : Md) (x1 : Int32) (x2 : Int32) : Option (Int32) :=
  gd (inb x1 4) (if ((md_textSizes w) (ix x1)) ≤ x2 then (some (0 : Int32)) else (gd (inb (((60 : Int32) * x1) + x2) 480) (some ((md_bytes w) (ix (((60 : Int32) * x1) + x2))))))
set_option maxRecDepth 100000 in
set_option maxHeartbeats 1000000 in
theorem c_X6_letterAt (l : Launch) (G : GG) (a : Nat → Nat) (o : Nat) (w : Md) (x1 : Int32) (x2 : Int32) (out : Int32) (hf : f_X6_letterAt w x1 x2 = some out) : Cn l G 0 yX6_letterAt cX6_letterAt 3 (some .int) [.ref (a o), .int x1, .int x2] (bMd G a o w) (some (.int out)) (bMd G a o w) := by
  refine cn_start (by decide) (Nat.le_of_ble_eq_true rfl) ?_
  intro p e s m below meth c A ls C0 hW hl
  have hx := C0.1
  have hb := C0.2.1
  have hl : lv_has ls 3 [(0, .ref (a o)), (1, .int x1), (2, .int x2)] := hl
  obtain ⟨r, hr⟩ : ∃ r, f_X6_letterAt w x1 x2 = some r ∧ r = out := ⟨out, hf, rfl⟩
  replace hf := hr.1
  have hF := hr.2
  clear hr
  unfold f_X6_letterAt at hf
  refine lv_iload_n hx hb dX6_letterAt_0 rfl (lv_at hl 2 rfl) ?_
  refine lv_aload_n hx hb dX6_letterAt_1 rfl (lv_at hl 0 rfl) ?_
  refine k_get C0 hW 6 8 0 (v := .ref (a (o + 5))) rfl (by decide) inX6 mf_X6_26 rfl rfl dX6_letterAt_2 ?_
  refine lv_iload_n hx hb dX6_letterAt_5 rfl (lv_at hl 1 rfl) ?_
  have g6_1 := (gd_some hf).1; replace hf := (gd_some hf).2
  refine k_iald C0 hW 5 (ix x1) rfl (inb_in g6_1) rfl dX6_letterAt_6 ?_
  refine lv_icmp_ge (tgt := 24) hx hb dX6_letterAt_7 (by decide) (fun c7_2 => ?_) (fun c7_2 => ?_)
  · replace hf := if_t c7_2 hf
    refine lv_iconst (v := 0) hx hb dX6_letterAt_24 (by decide) ?_
    have e1 := Option.some.inj hf
    subst e1
    have hF : ((0 : Int32) : Int32) = out := hF
    subst hF
    exact k_iret C0 hW dX6_letterAt_25
  · replace hf := if_f c7_2 hf
    refine lv_aload_n hx hb dX6_letterAt_10 rfl (lv_at hl 0 rfl) ?_
    refine k_get C0 hW 6 9 0 (v := .ref (a (o + 6))) rfl (by decide) inX6 mf_X6_29 rfl rfl dX6_letterAt_11 ?_
    refine lv_bipush (v := 60) hx hb dX6_letterAt_14 (by decide) ?_
    refine lv_iload_n hx hb dX6_letterAt_16 rfl (lv_at hl 1 rfl) ?_
    refine lv_imul hx hb dX6_letterAt_17 ?_
    refine lv_iload_n hx hb dX6_letterAt_18 rfl (lv_at hl 2 rfl) ?_
    refine lv_iadd hx hb dX6_letterAt_19 ?_
    have g20_3 := (gd_some hf).1; replace hf := (gd_some hf).2
    refine k_bald C0 hW 6 (ix (((60 : Int32) * x1) + x2)) rfl (inb_in g20_3) rfl dX6_letterAt_20 ?_
    refine lv_goto (tgt := 25) hx hb dX6_letterAt_21 (by decide) ?_
    have e1 := Option.some.inj hf
    subst e1
    have hF : (((md_bytes w) (ix (((60 : Int32) * x1) + x2))) : Int32) = out := hF
    subst hF
    exact k_iret C0 hW dX6_letterAt_25

def f_X6_reads (w : Md) (x1 : Int32) (x2 : Int32) : Option (Int32 × Md) :=
  Option.bind (f_X6_letterAt w x1 (md_readAt w)) (fun q6 => Option.bind (f_X6_in (q6 - (48 : Int32)) x2 (9 : Int32)) (fun q17 => if q17 = 0 then (some ((-9 : Int32), w)) else (some ((q6 - (48 : Int32)), (md_set_readAt w ((md_readAt w) + (1 : Int32)))))))
set_option maxRecDepth 100000 in
set_option maxHeartbeats 1000000 in
theorem c_X6_reads (l : Launch) (G : GG) (a : Nat → Nat) (o : Nat) (w : Md) (x1 : Int32) (x2 : Int32) (out : Int32 × Md) (hf : f_X6_reads w x1 x2 = some out) : Cn l G 1 yX6_reads cX6_reads 4 (some .int) [.ref (a o), .int x1, .int x2] (bMd G a o w) (some (.int out.1)) (bMd G a o out.2) := by
  refine cn_start (by decide) (Nat.le_of_ble_eq_true rfl) ?_
  intro p e s m below meth c A ls C0 hW hl
  have hx := C0.1
  have hb := C0.2.1
  have hl : lv_has ls 4 [(0, .ref (a o)), (1, .int x1), (2, .int x2)] := hl
  obtain ⟨r, hr⟩ : ∃ r, f_X6_reads w x1 x2 = some r ∧ r = out := ⟨out, hf, rfl⟩
  replace hf := hr.1
  have hF := hr.2
  clear hr
  unfold f_X6_reads at hf
  refine lv_aload_n hx hb dX6_reads_0 rfl (lv_at hl 0 rfl) ?_
  refine lv_iload_n hx hb dX6_reads_1 rfl (lv_at hl 1 rfl) ?_
  refine lv_aload_n hx hb dX6_reads_2 rfl (lv_at hl 0 rfl) ?_
  refine k_get C0 hW 6 10 0 (v := .int (md_readAt w)) rfl (by decide) inX6 mf_X6_111 rfl rfl dX6_reads_3 ?_
  obtain ⟨q6, hq6⟩ := ob_s hf
  replace hf := hq6.2
  replace hq6 := hq6.1
  refine cW1 (rest := []) (ws1 := (bMd G a o w)) (st1 := [.int q6]) C0 hW hl.1 (c_X6_letterAt l G a o w x1 (md_readAt w) _ hq6) cb_X6_letterAt mm_X6_114 fst_Md 0 6 rfl rfl rfl (by decide) rfl rfl (Nat.le_of_ble_eq_true rfl) ⟨Nat.zero_le _, Nat.zero_le _⟩ dX6_reads_6 rfl (fun H locs hW => ?_)
  refine lv_bipush (v := 48) hx hb dX6_reads_9 (by decide) ?_
  refine lv_isub hx hb dX6_reads_11 ?_
  refine lv_istore_n (lv' := [(3, .int (q6 - (48 : Int32))), (0, .ref (a o)), (1, .int x1), (2, .int x2)]) hx hb dX6_reads_12 rfl hl (by decide) rfl (fun ls hl => ?_)
  refine lv_iload_n hx hb dX6_reads_13 rfl (lv_at hl 0 rfl) ?_
  refine lv_iload_n hx hb dX6_reads_14 rfl (lv_at hl 3 rfl) ?_
  refine lv_bipush (v := 9) hx hb dX6_reads_15 (by decide) ?_
  obtain ⟨q17, hq17⟩ := ob_s hf
  replace hf := hq17.2
  replace hq17 := hq17.1
  refine cS0 (rest := []) (st1 := [.int q17]) C0 hW hl.1 (c_X6_in l G (q6 - (48 : Int32)) x2 (9 : Int32) _ hq17) cb_X6_in mm_X6_89 [] rfl rfl (by decide) rfl rfl (Nat.le_of_ble_eq_true rfl) ⟨Nat.zero_le _, Nat.zero_le _⟩ dX6_reads_17 rfl (fun H locs hW => ?_)
  refine lv_if_ne (tgt := 26) hx hb dX6_reads_20 (by decide) (fun c20_1 => ?_) (fun c20_1 => ?_)
  · replace hf := if_f c20_1 hf
    refine lv_aload_n hx hb dX6_reads_26 rfl (lv_at hl 1 rfl) ?_
    refine lv_dup hx hb dX6_reads_27 rfl ?_
    refine k_get C0 hW 6 10 0 (v := .int (md_readAt w)) rfl (by decide) inX6 mf_X6_111 rfl rfl dX6_reads_28 ?_
    refine lv_iconst (v := 1) hx hb dX6_reads_31 (by decide) ?_
    refine lv_iadd hx hb dX6_reads_32 ?_
    refine k_put C0 hW 6 10 0 rfl (by decide) inX6 tyX6_ok nmX6 mf_X6_111 rfl rfl rfl rfl (Nat.le_of_ble_eq_true rfl) dX6_reads_33 (fun H locs hW => ?_)
    have hW : Wd G A s.heap H (bMd G a o (md_set_readAt w ((md_readAt w) + (1 : Int32)))) locs := hW
    refine lv_iload_n hx hb dX6_reads_36 rfl (lv_at hl 0 rfl) ?_
    have e1 := Option.some.inj hf
    subst e1
    have hF : (((q6 - (48 : Int32)), (md_set_readAt w ((md_readAt w) + (1 : Int32)))) : Int32 × Md) = out := hF
    subst hF
    exact k_iret C0 hW dX6_reads_37
  · replace hf := if_t c20_1 hf
    refine lv_bipush (v := -9) hx hb dX6_reads_23 (by decide) ?_
    have e1 := Option.some.inj hf
    subst e1
    have hF : (((-9 : Int32), w) : Int32 × Md) = out := hF
    subst hF
    exact k_iret C0 hW dX6_reads_25

def f_X6_readsRoad_J134 (w : Md) (t1 : Int32) : Option (Int32 × Md) :=
  if (60 : Int32) < (md_readGate w) then (some ((0 : Int32), (md_set_isBegun (md_set_readAt w t1) (1 : Int32)))) else (some ((1 : Int32), (md_set_isBegun (md_set_readAt w t1) (1 : Int32))))
def f_X6_readsRoad_J94 (w : Md) (x2 : Int32) (x3 : Int32) (t0 : Int32) : Option (Int32 × Md) :=
  if t0 = (-9 : Int32) then (some ((0 : Int32), w)) else (if (((10 : Int32) * x3) + t0) ≤ (60 : Int32) then (f_X6_readsRoad_J134 (md_set_readGate w (((10 : Int32) * x3) + t0)) (md_readAt w)) else (f_X6_readsRoad_J134 (md_set_readGate w (((10 : Int32) * x3) + t0)) x2))
def f_X6_readsRoad_J65 (w : Md) (x1 : Int32) : Option (Int32 × Md) :=
  Option.bind (f_X6_reads w x1 (0 : Int32)) (fun q73 => if q73.1 = (-9 : Int32) then (f_X6_readsRoad_J94 q73.2 (md_readAt w) q73.1 (-9 : Int32)) else (Option.bind (f_X6_reads q73.2 x1 (0 : Int32)) (fun q91 => f_X6_readsRoad_J94 q91.2 (md_readAt w) q73.1 q91.1)))
def f_X6_readsRoad_B28 (x1 : Int32) (x2 : Int32) (w : Md) : Option ((Int32 × Md) ⊕ (Int32 × Md)) :=
  if (8 : Int32) ≤ x2 then (Option.map Sum.inr (f_X6_readsRoad_J65 w x1)) else (Option.bind (f_X6_reads w x1 (0 : Int32)) (fun q42 => gd (inb x2 8) (gd (inb x2 8) (if ((upd (md_readRut q42.2) (ix x2) q42.1) (ix x2)) = (-9 : Int32) then (some (Sum.inr ((0 : Int32), (md_set_readRut q42.2 (upd (md_readRut q42.2) (ix x2) q42.1))))) else (some (Sum.inl ((x2 + (1 : Int32)), (md_set_readRut q42.2 (upd (md_readRut q42.2) (ix x2) q42.1)))))))))
def f_X6_readsRoad_L28 (x1 : Int32) (sg : Int32 × Md) : Option ((Int32 × Md) ⊕ (Int32 × Md)) := f_X6_readsRoad_B28 x1 sg.1 sg.2
def f_X6_readsRoad (w : Md) (x1 : Int32) : Option (Int32 × Md) :=
  Option.bind (f_X6_letterAt w x1 (md_readAt w)) (fun q6 => if q6 = (114 : Int32) then (lp (f_X6_readsRoad_L28 x1) fuel ((0 : Int32), (md_set_readAt w ((md_readAt w) + (1 : Int32))))) else (some ((0 : Int32), w)))
set_option maxRecDepth 100000 in
set_option maxHeartbeats 1000000 in
theorem c_X6_readsRoad (l : Launch) (G : GG) (a : Nat → Nat) (o : Nat) (w : Md) (x1 : Int32) (out : Int32 × Md) (hf : f_X6_readsRoad w x1 = some out) : Cn l G 2 yX6_readsRoad cX6_readsRoad 5 (some .boolean) [.ref (a o), .int x1] (bMd G a o w) (some (.int out.1)) (bMd G a o out.2) := by
  refine cn_start (by decide) (Nat.le_of_ble_eq_true rfl) ?_
  intro p e s m below meth c A ls C0 hW hl
  have hx := C0.1
  have hb := C0.2.1
  have hl : lv_has ls 5 [(0, .ref (a o)), (1, .int x1)] := hl
  have J134 : ∀ (t1 : Int32) (w : Md) (r : Int32 × Md), f_X6_readsRoad_J134 w t1 = some r → (fun (r : Int32 × Md) => r = out) r → ∀ (H : Heap) (locs : List Loc) (ls : Array Slot), Wd G A s.heap H (bMd G a o w) locs → lv_has ls 5 [(0, .ref (a o))] → WW p l e 2 s m [.ref (a o), .int x1] below meth c G A (some (.int out.1)) ((bMd G a o out.2)) H locs 134 ls [.int t1, .ref (a o)] := by
    intro t1 w r hf hF H locs ls hW hl
    unfold f_X6_readsRoad_J134 at hf
    refine k_put C0 hW 6 10 0 rfl (by decide) inX6 tyX6_ok nmX6 mf_X6_111 rfl rfl rfl rfl (Nat.le_of_ble_eq_true rfl) dX6_readsRoad_134 (fun H locs hW => ?_)
    have hW : Wd G A s.heap H (bMd G a o (md_set_readAt w t1)) locs := hW
    refine lv_aload_n hx hb dX6_readsRoad_137 rfl (lv_at hl 0 rfl) ?_
    refine lv_iconst (v := 1) hx hb dX6_readsRoad_138 (by decide) ?_
    refine k_put C0 hW 6 13 0 rfl (by decide) inX6 tyX6_ok nmX6 mf_X6_123 rfl rfl (isB_nar (show isB (1 : Int32) = true from rfl)) (isB_fits (show isB (1 : Int32) = true from rfl)) (Nat.le_of_ble_eq_true rfl) dX6_readsRoad_139 (fun H locs hW => ?_)
    have hW : Wd G A s.heap H (bMd G a o (md_set_isBegun (md_set_readAt w t1) (1 : Int32))) locs := hW
    refine lv_aload_n hx hb dX6_readsRoad_142 rfl (lv_at hl 0 rfl) ?_
    refine k_get C0 hW 6 12 0 (v := .int (md_readGate w)) rfl (by decide) inX6 mf_X6_120 rfl rfl dX6_readsRoad_143 ?_
    refine lv_bipush (v := 60) hx hb dX6_readsRoad_146 (by decide) ?_
    refine lv_icmp_gt (tgt := 155) hx hb dX6_readsRoad_148 (by decide) (fun c148_6 => ?_) (fun c148_6 => ?_)
    · replace hf := if_t c148_6 hf
      refine lv_iconst (v := 0) hx hb dX6_readsRoad_155 (by decide) ?_
      have e1 := Option.some.inj hf
      subst e1
      have hF : (((0 : Int32), (md_set_isBegun (md_set_readAt w t1) (1 : Int32))) : Int32 × Md) = out := hF
      subst hF
      exact k_zret C0 hW rfl dX6_readsRoad_156
    · replace hf := if_f c148_6 hf
      refine lv_iconst (v := 1) hx hb dX6_readsRoad_151 (by decide) ?_
      refine lv_goto (tgt := 156) hx hb dX6_readsRoad_152 (by decide) ?_
      have e1 := Option.some.inj hf
      subst e1
      have hF : (((1 : Int32), (md_set_isBegun (md_set_readAt w t1) (1 : Int32))) : Int32 × Md) = out := hF
      subst hF
      exact k_zret C0 hW rfl dX6_readsRoad_156
  have J94 : ∀ (x2 : Int32) (x3 : Int32) (t0 : Int32) (w : Md) (r : Int32 × Md), f_X6_readsRoad_J94 w x2 x3 t0 = some r → (fun (r : Int32 × Md) => r = out) r → ∀ (H : Heap) (locs : List Loc) (ls : Array Slot), Wd G A s.heap H (bMd G a o w) locs → lv_has ls 5 [(0, .ref (a o)), (2, .int x2), (3, .int x3)] → WW p l e 2 s m [.ref (a o), .int x1] below meth c G A (some (.int out.1)) ((bMd G a o out.2)) H locs 94 ls [.int t0] := by
    intro x2 x3 t0 w r hf hF H locs ls hW hl
    unfold f_X6_readsRoad_J94 at hf
    refine lv_istore (lv' := [(4, .int t0), (0, .ref (a o)), (2, .int x2), (3, .int x3)]) hx hb dX6_readsRoad_94 hl (by decide) rfl (fun ls hl => ?_)
    refine lv_iload hx hb dX6_readsRoad_96 (lv_at hl 0 rfl) ?_
    refine lv_bipush (v := -9) hx hb dX6_readsRoad_98 (by decide) ?_
    refine lv_icmp_ne (tgt := 105) hx hb dX6_readsRoad_100 (by decide) (fun c100_4 => ?_) (fun c100_4 => ?_)
    · replace hf := if_f c100_4 hf
      refine lv_aload_n hx hb dX6_readsRoad_105 rfl (lv_at hl 1 rfl) ?_
      refine lv_bipush (v := 10) hx hb dX6_readsRoad_106 (by decide) ?_
      refine lv_iload_n hx hb dX6_readsRoad_108 rfl (lv_at hl 3 rfl) ?_
      refine lv_imul hx hb dX6_readsRoad_109 ?_
      refine lv_iload hx hb dX6_readsRoad_110 (lv_at hl 0 rfl) ?_
      refine lv_iadd hx hb dX6_readsRoad_112 ?_
      refine k_put C0 hW 6 12 0 rfl (by decide) inX6 tyX6_ok nmX6 mf_X6_120 rfl rfl rfl rfl (Nat.le_of_ble_eq_true rfl) dX6_readsRoad_113 (fun H locs hW => ?_)
      have hW : Wd G A s.heap H (bMd G a o (md_set_readGate w (((10 : Int32) * x3) + t0))) locs := hW
      refine lv_aload_n hx hb dX6_readsRoad_116 rfl (lv_at hl 1 rfl) ?_
      refine lv_aload_n hx hb dX6_readsRoad_117 rfl (lv_at hl 1 rfl) ?_
      refine k_get C0 hW 6 12 0 (v := .int (((10 : Int32) * x3) + t0)) rfl (by decide) inX6 mf_X6_120 rfl rfl dX6_readsRoad_118 ?_
      refine lv_bipush (v := 60) hx hb dX6_readsRoad_121 (by decide) ?_
      refine lv_icmp_le (tgt := 130) hx hb dX6_readsRoad_123 (by decide) (fun c123_5 => ?_) (fun c123_5 => ?_)
      · replace hf := if_t c123_5 hf
        refine lv_aload_n hx hb dX6_readsRoad_130 rfl (lv_at hl 1 rfl) ?_
        refine k_get C0 hW 6 10 0 (v := .int (md_readAt w)) rfl (by decide) inX6 mf_X6_111 rfl rfl dX6_readsRoad_131 ?_
        exact J134 _ _ _ hf hF _ _ _ hW (lv_sub hl [1] rfl)
      · replace hf := if_f c123_5 hf
        refine lv_iload_n hx hb dX6_readsRoad_126 rfl (lv_at hl 2 rfl) ?_
        refine lv_goto (tgt := 134) hx hb dX6_readsRoad_127 (by decide) ?_
        exact J134 _ _ _ hf hF _ _ _ hW (lv_sub hl [1] rfl)
    · replace hf := if_t c100_4 hf
      refine lv_iconst (v := 0) hx hb dX6_readsRoad_103 (by decide) ?_
      have e1 := Option.some.inj hf
      subst e1
      have hF : (((0 : Int32), w) : Int32 × Md) = out := hF
      subst hF
      exact k_zret C0 hW rfl dX6_readsRoad_104
  have J65 : ∀ (w : Md) (r : Int32 × Md), f_X6_readsRoad_J65 w x1 = some r → (fun (r : Int32 × Md) => r = out) r → ∀ (H : Heap) (locs : List Loc) (ls : Array Slot), Wd G A s.heap H (bMd G a o w) locs → lv_has ls 5 [(0, .ref (a o)), (1, .int x1)] → WW p l e 2 s m [.ref (a o), .int x1] below meth c G A (some (.int out.1)) ((bMd G a o out.2)) H locs 65 ls [] := by
    intro w r hf hF H locs ls hW hl
    unfold f_X6_readsRoad_J65 at hf
    refine lv_aload_n hx hb dX6_readsRoad_65 rfl (lv_at hl 0 rfl) ?_
    refine k_get C0 hW 6 10 0 (v := .int (md_readAt w)) rfl (by decide) inX6 mf_X6_111 rfl rfl dX6_readsRoad_66 ?_
    refine lv_istore_n (lv' := [(2, .int (md_readAt w)), (0, .ref (a o)), (1, .int x1)]) hx hb dX6_readsRoad_69 rfl hl (by decide) rfl (fun ls hl => ?_)
    refine lv_aload_n hx hb dX6_readsRoad_70 rfl (lv_at hl 1 rfl) ?_
    refine lv_iload_n hx hb dX6_readsRoad_71 rfl (lv_at hl 2 rfl) ?_
    refine lv_iconst (v := 0) hx hb dX6_readsRoad_72 (by decide) ?_
    obtain ⟨q73, hq73⟩ := ob_s hf
    replace hf := hq73.2
    replace hq73 := hq73.1
    refine cW1 (rest := []) (ws1 := (bMd G a o q73.2)) (st1 := [.int q73.1]) C0 hW hl.1 (c_X6_reads l G a o w x1 (0 : Int32) _ hq73) cb_X6_reads mm_X6_117 fst_Md 0 6 rfl rfl rfl (by decide) rfl rfl (Nat.le_of_ble_eq_true rfl) ⟨Nat.zero_le _, Nat.zero_le _⟩ dX6_readsRoad_73 rfl (fun H locs hW => ?_)
    refine lv_istore_n (lv' := [(3, .int q73.1), (2, .int (md_readAt w)), (0, .ref (a o)), (1, .int x1)]) hx hb dX6_readsRoad_76 rfl hl (by decide) rfl (fun ls hl => ?_)
    refine lv_iload_n hx hb dX6_readsRoad_77 rfl (lv_at hl 0 rfl) ?_
    refine lv_bipush (v := -9) hx hb dX6_readsRoad_78 (by decide) ?_
    refine lv_icmp_ne (tgt := 88) hx hb dX6_readsRoad_80 (by decide) (fun c80_3 => ?_) (fun c80_3 => ?_)
    · replace hf := if_f c80_3 hf
      refine lv_aload_n hx hb dX6_readsRoad_88 rfl (lv_at hl 2 rfl) ?_
      refine lv_iload_n hx hb dX6_readsRoad_89 rfl (lv_at hl 3 rfl) ?_
      refine lv_iconst (v := 0) hx hb dX6_readsRoad_90 (by decide) ?_
      obtain ⟨q91, hq91⟩ := ob_s hf
      replace hf := hq91.2
      replace hq91 := hq91.1
      refine cW1 (rest := []) (ws1 := (bMd G a o q91.2)) (st1 := [.int q91.1]) C0 hW hl.1 (c_X6_reads l G a o q73.2 x1 (0 : Int32) _ hq91) cb_X6_reads mm_X6_117 fst_Md 0 6 rfl rfl rfl (by decide) rfl rfl (Nat.le_of_ble_eq_true rfl) ⟨Nat.zero_le _, Nat.zero_le _⟩ dX6_readsRoad_91 rfl (fun H locs hW => ?_)
      exact J94 _ _ _ _ _ hf hF _ _ _ hW (lv_sub hl [2, 1, 0] rfl)
    · replace hf := if_t c80_3 hf
      refine lv_bipush (v := -9) hx hb dX6_readsRoad_83 (by decide) ?_
      refine lv_goto (tgt := 94) hx hb dX6_readsRoad_85 (by decide) ?_
      exact J94 _ _ _ _ _ hf hF _ _ _ hW (lv_sub hl [2, 1, 0] rfl)
  have L28 : ∀ (k8 : Nat) (sg : Int32 × Md) (o9 : Int32 × Md), lp (f_X6_readsRoad_L28 x1) k8 sg = some o9 → (fun (r : Int32 × Md) => r = out) o9 → (fun (sg : Int32 × Md) => ∀ (H : Heap) (locs : List Loc) (ls : Array Slot), Wd G A s.heap H (bMd G a o sg.2) locs → lv_has ls 5 [(0, .ref (a o)), (1, .int x1), (2, .int sg.1)] → WW p l e 2 s m [.ref (a o), .int x1] below meth c G A (some (.int out.1)) ((bMd G a o out.2)) H locs 28 ls []) sg := by
    have B28 : ∀ (x2 : Int32) (w : Md) (r : (Int32 × Md) ⊕ (Int32 × Md)), f_X6_readsRoad_B28 x1 x2 w = some r → (Sum.elim (fun (sg : Int32 × Md) => ∀ (H : Heap) (locs : List Loc) (ls : Array Slot), Wd G A s.heap H (bMd G a o sg.2) locs → lv_has ls 5 [(0, .ref (a o)), (1, .int x1), (2, .int sg.1)] → WW p l e 2 s m [.ref (a o), .int x1] below meth c G A (some (.int out.1)) ((bMd G a o out.2)) H locs 28 ls []) (fun (r : Int32 × Md) => r = out)) r → ∀ (H : Heap) (locs : List Loc) (ls : Array Slot), Wd G A s.heap H (bMd G a o w) locs → lv_has ls 5 [(0, .ref (a o)), (1, .int x1), (2, .int x2)] → WW p l e 2 s m [.ref (a o), .int x1] below meth c G A (some (.int out.1)) ((bMd G a o out.2)) H locs 28 ls [] := by
      intro x2 w r hf hF H locs ls hW hl
      unfold f_X6_readsRoad_B28 at hf
      refine lv_iload_n hx hb dX6_readsRoad_28 rfl (lv_at hl 2 rfl) ?_
      refine lv_bipush (v := 8) hx hb dX6_readsRoad_29 (by decide) ?_
      refine lv_icmp_ge (tgt := 65) hx hb dX6_readsRoad_31 (by decide) (fun c31_2 => ?_) (fun c31_2 => ?_)
      · replace hf := if_t c31_2 hf
        obtain ⟨r2, e2⟩ := om_s hf
        replace hf := e2.1
        replace e2 := e2.2
        subst e2
        replace hF := elim_r hF
        exact J65 _ _ hf hF _ _ _ hW (lv_sub hl [0, 1] rfl)
      · replace hf := if_f c31_2 hf
        refine lv_aload_n hx hb dX6_readsRoad_34 rfl (lv_at hl 0 rfl) ?_
        refine k_get C0 hW 6 14 0 (v := .ref (a (o + 7))) rfl (by decide) inX6 mf_X6_33 rfl rfl dX6_readsRoad_35 ?_
        refine lv_iload_n hx hb dX6_readsRoad_38 rfl (lv_at hl 2 rfl) ?_
        refine lv_aload_n hx hb dX6_readsRoad_39 rfl (lv_at hl 0 rfl) ?_
        refine lv_iload_n hx hb dX6_readsRoad_40 rfl (lv_at hl 1 rfl) ?_
        refine lv_iconst (v := 0) hx hb dX6_readsRoad_41 (by decide) ?_
        obtain ⟨q42, hq42⟩ := ob_s hf
        replace hf := hq42.2
        replace hq42 := hq42.1
        refine cW1 (rest := [.int x2, .ref (a (o + 7))]) (ws1 := (bMd G a o q42.2)) (st1 := [.int q42.1, .int x2, .ref (a (o + 7))]) C0 hW hl.1 (c_X6_reads l G a o w x1 (0 : Int32) _ hq42) cb_X6_reads mm_X6_117 fst_Md 0 6 rfl rfl rfl (by decide) rfl rfl (Nat.le_of_ble_eq_true rfl) ⟨Nat.zero_le _, Nat.zero_le _⟩ dX6_readsRoad_42 rfl (fun H locs hW => ?_)
        have g45_7 := (gd_some hf).1; replace hf := (gd_some hf).2
        refine k_iast C0 hW 7 (ix x2) rfl (inb_in g45_7) rfl dX6_readsRoad_45 (fun H locs hW => ?_)
        have hW : Wd G A s.heap H (bMd G a o (md_set_readRut q42.2 (upd (md_readRut q42.2) (ix x2) q42.1))) locs := hW
        refine lv_aload_n hx hb dX6_readsRoad_46 rfl (lv_at hl 0 rfl) ?_
        refine k_get C0 hW 6 14 0 (v := .ref (a (o + 7))) rfl (by decide) inX6 mf_X6_33 rfl rfl dX6_readsRoad_47 ?_
        refine lv_iload_n hx hb dX6_readsRoad_50 rfl (lv_at hl 2 rfl) ?_
        have g51_8 := (gd_some hf).1; replace hf := (gd_some hf).2
        refine k_iald C0 hW 7 (ix x2) rfl (inb_in g51_8) rfl dX6_readsRoad_51 ?_
        refine lv_bipush (v := -9) hx hb dX6_readsRoad_52 (by decide) ?_
        refine lv_icmp_ne (tgt := 59) hx hb dX6_readsRoad_54 (by decide) (fun c54_9 => ?_) (fun c54_9 => ?_)
        · replace hf := if_f c54_9 hf
          refine lv_iinc (v := (x2 + (1 : Int32))) (lv' := [(2, .int (x2 + (1 : Int32))), (0, .ref (a o)), (1, .int x1)]) hx hb dX6_readsRoad_59 hl (k := 2) rfl rfl (by decide) rfl (fun ls hl => ?_)
          refine lv_goto (tgt := 28) hx hb dX6_readsRoad_62 (by decide) ?_
          have e1 := Option.some.inj hf
          subst e1
          exact (elim_l hF) _ _ _ hW (lv_sub hl [1, 2, 0] rfl)
        · replace hf := if_t c54_9 hf
          refine lv_iconst (v := 0) hx hb dX6_readsRoad_57 (by decide) ?_
          have e1 := Option.some.inj hf
          subst e1
          have hF : (((0 : Int32), (md_set_readRut q42.2 (upd (md_readRut q42.2) (ix x2) q42.1))) : Int32 × Md) = out := hF
          subst hF
          exact k_zret C0 hW rfl dX6_readsRoad_58
    exact lp_sound (fun sg r hb hz => B28 sg.1 sg.2 r hb hz)
  obtain ⟨r, hr⟩ : ∃ r, f_X6_readsRoad w x1 = some r ∧ r = out := ⟨out, hf, rfl⟩
  replace hf := hr.1
  have hF := hr.2
  clear hr
  unfold f_X6_readsRoad at hf
  refine lv_aload_n hx hb dX6_readsRoad_0 rfl (lv_at hl 0 rfl) ?_
  refine lv_iload_n hx hb dX6_readsRoad_1 rfl (lv_at hl 1 rfl) ?_
  refine lv_aload_n hx hb dX6_readsRoad_2 rfl (lv_at hl 0 rfl) ?_
  refine k_get C0 hW 6 10 0 (v := .int (md_readAt w)) rfl (by decide) inX6 mf_X6_111 rfl rfl dX6_readsRoad_3 ?_
  obtain ⟨q6, hq6⟩ := ob_s hf
  replace hf := hq6.2
  replace hq6 := hq6.1
  refine cW1 (rest := []) (ws1 := (bMd G a o w)) (st1 := [.int q6]) C0 hW hl.1 (c_X6_letterAt l G a o w x1 (md_readAt w) _ hq6) cb_X6_letterAt mm_X6_114 fst_Md 0 6 rfl rfl rfl (by decide) rfl rfl (Nat.le_of_ble_eq_true rfl) ⟨Nat.zero_le _, Nat.zero_le _⟩ dX6_readsRoad_6 rfl (fun H locs hW => ?_)
  refine lv_bipush (v := 114) hx hb dX6_readsRoad_9 (by decide) ?_
  refine lv_icmp_eq (tgt := 16) hx hb dX6_readsRoad_11 (by decide) (fun c11_1 => ?_) (fun c11_1 => ?_)
  · replace hf := if_t c11_1 hf
    refine lv_aload_n hx hb dX6_readsRoad_16 rfl (lv_at hl 0 rfl) ?_
    refine lv_dup hx hb dX6_readsRoad_17 rfl ?_
    refine k_get C0 hW 6 10 0 (v := .int (md_readAt w)) rfl (by decide) inX6 mf_X6_111 rfl rfl dX6_readsRoad_18 ?_
    refine lv_iconst (v := 1) hx hb dX6_readsRoad_21 (by decide) ?_
    refine lv_iadd hx hb dX6_readsRoad_22 ?_
    refine k_put C0 hW 6 10 0 rfl (by decide) inX6 tyX6_ok nmX6 mf_X6_111 rfl rfl rfl rfl (Nat.le_of_ble_eq_true rfl) dX6_readsRoad_23 (fun H locs hW => ?_)
    have hW : Wd G A s.heap H (bMd G a o (md_set_readAt w ((md_readAt w) + (1 : Int32)))) locs := hW
    refine lv_iconst (v := 0) hx hb dX6_readsRoad_26 (by decide) ?_
    refine lv_istore_n (lv' := [(2, .int (0 : Int32)), (0, .ref (a o)), (1, .int x1)]) hx hb dX6_readsRoad_27 rfl hl (by decide) rfl (fun ls hl => ?_)
    exact L28  fuel ((0 : Int32), (md_set_readAt w ((md_readAt w) + (1 : Int32)))) _ hf hF _ _ _ hW (lv_sub hl [1, 2, 0] rfl)
  · replace hf := if_f c11_1 hf
    refine lv_iconst (v := 0) hx hb dX6_readsRoad_14 (by decide) ?_
    have e1 := Option.some.inj hf
    subst e1
    have hF : (((0 : Int32), w) : Int32 × Md) = out := hF
    subst hF
    exact k_zret C0 hW rfl dX6_readsRoad_15

def f_X6_kindOf (x0 : Int32) : Option (Int32) :=
  if x0 = 99 then (some (0 : Int32)) else if x0 = 101 then (some (2 : Int32)) else if x0 = 103 then (some (3 : Int32)) else if x0 = 105 then (some (4 : Int32)) else if x0 = 115 then (some (1 : Int32)) else if x0 = 117 then (some (5 : Int32)) else some (-9 : Int32)
set_option maxRecDepth 100000 in
set_option maxHeartbeats 1000000 in
theorem c_X6_kindOf (l : Launch) (G : GG) (x0 : Int32) (out : Int32) (hf : f_X6_kindOf x0 = some out) : Cn l G 0 yX6_kindOf cX6_kindOf 1 (some .int) [.int x0] ([] : va_W) (some (.int out)) ([] : va_W) := by
  refine cn_start (by decide) (Nat.le_of_ble_eq_true rfl) ?_
  intro p e s m below meth c A ls C0 hW hl
  have hx := C0.1
  have hb := C0.2.1
  have hl : lv_has ls 1 [(0, .int x0)] := hl
  obtain ⟨r, hr⟩ : ∃ r, f_X6_kindOf x0 = some r ∧ r = out := ⟨out, hf, rfl⟩
  replace hf := hr.1
  have hF := hr.2
  clear hr
  unfold f_X6_kindOf at hf
  refine lv_iload_n hx hb dX6_kindOf_0 rfl (lv_at hl 0 rfl) ?_
  by_cases c1_1 : x0 = 99
  · replace hf := if_t c1_1 hf
    refine lv_tableIn (off := 91) (tgt := 92) hx hb dX6_kindOf_1 (by rw [c1_1]; decide) (by rw [c1_1]; decide) (by rw [c1_1]; rfl) (by decide) ?_
    refine lv_iconst (v := 0) hx hb dX6_kindOf_92 (by decide) ?_
    have e1 := Option.some.inj hf
    subst e1
    have hF : ((0 : Int32) : Int32) = out := hF
    subst hF
    exact k_iret C0 hW dX6_kindOf_93
  replace hf := if_f c1_1 hf
  by_cases c1_2 : x0 = 101
  · replace hf := if_t c1_2 hf
    refine lv_tableIn (off := 95) (tgt := 96) hx hb dX6_kindOf_1 (by rw [c1_2]; decide) (by rw [c1_2]; decide) (by rw [c1_2]; rfl) (by decide) ?_
    refine lv_iconst (v := 2) hx hb dX6_kindOf_96 (by decide) ?_
    have e1 := Option.some.inj hf
    subst e1
    have hF : ((2 : Int32) : Int32) = out := hF
    subst hF
    exact k_iret C0 hW dX6_kindOf_97
  replace hf := if_f c1_2 hf
  by_cases c1_3 : x0 = 103
  · replace hf := if_t c1_3 hf
    refine lv_tableIn (off := 97) (tgt := 98) hx hb dX6_kindOf_1 (by rw [c1_3]; decide) (by rw [c1_3]; decide) (by rw [c1_3]; rfl) (by decide) ?_
    refine lv_iconst (v := 3) hx hb dX6_kindOf_98 (by decide) ?_
    have e1 := Option.some.inj hf
    subst e1
    have hF : ((3 : Int32) : Int32) = out := hF
    subst hF
    exact k_iret C0 hW dX6_kindOf_99
  replace hf := if_f c1_3 hf
  by_cases c1_4 : x0 = 105
  · replace hf := if_t c1_4 hf
    refine lv_tableIn (off := 99) (tgt := 100) hx hb dX6_kindOf_1 (by rw [c1_4]; decide) (by rw [c1_4]; decide) (by rw [c1_4]; rfl) (by decide) ?_
    refine lv_iconst (v := 4) hx hb dX6_kindOf_100 (by decide) ?_
    have e1 := Option.some.inj hf
    subst e1
    have hF : ((4 : Int32) : Int32) = out := hF
    subst hF
    exact k_iret C0 hW dX6_kindOf_101
  replace hf := if_f c1_4 hf
  by_cases c1_5 : x0 = 115
  · replace hf := if_t c1_5 hf
    refine lv_tableIn (off := 93) (tgt := 94) hx hb dX6_kindOf_1 (by rw [c1_5]; decide) (by rw [c1_5]; decide) (by rw [c1_5]; rfl) (by decide) ?_
    refine lv_iconst (v := 1) hx hb dX6_kindOf_94 (by decide) ?_
    have e1 := Option.some.inj hf
    subst e1
    have hF : ((1 : Int32) : Int32) = out := hF
    subst hF
    exact k_iret C0 hW dX6_kindOf_95
  replace hf := if_f c1_5 hf
  by_cases c1_6 : x0 = 117
  · replace hf := if_t c1_6 hf
    refine lv_tableIn (off := 101) (tgt := 102) hx hb dX6_kindOf_1 (by rw [c1_6]; decide) (by rw [c1_6]; decide) (by rw [c1_6]; rfl) (by decide) ?_
    refine lv_iconst (v := 5) hx hb dX6_kindOf_102 (by decide) ?_
    have e1 := Option.some.inj hf
    subst e1
    have hF : ((5 : Int32) : Int32) = out := hF
    subst hF
    exact k_iret C0 hW dX6_kindOf_103
  replace hf := if_f c1_6 hf
  by_cases c1_7 : x0 = 100
  · refine lv_tableIn (off := 103) (tgt := 104) hx hb dX6_kindOf_1 (by rw [c1_7]; decide) (by rw [c1_7]; decide) (by rw [c1_7]; rfl) (by decide) ?_
    refine lv_bipush (v := -9) hx hb dX6_kindOf_104 (by decide) ?_
    have e1 := Option.some.inj hf
    subst e1
    have hF : ((-9 : Int32) : Int32) = out := hF
    subst hF
    exact k_iret C0 hW dX6_kindOf_106
  by_cases c1_8 : x0 = 102
  · refine lv_tableIn (off := 103) (tgt := 104) hx hb dX6_kindOf_1 (by rw [c1_8]; decide) (by rw [c1_8]; decide) (by rw [c1_8]; rfl) (by decide) ?_
    refine lv_bipush (v := -9) hx hb dX6_kindOf_104 (by decide) ?_
    have e1 := Option.some.inj hf
    subst e1
    have hF : ((-9 : Int32) : Int32) = out := hF
    subst hF
    exact k_iret C0 hW dX6_kindOf_106
  by_cases c1_9 : x0 = 104
  · refine lv_tableIn (off := 103) (tgt := 104) hx hb dX6_kindOf_1 (by rw [c1_9]; decide) (by rw [c1_9]; decide) (by rw [c1_9]; rfl) (by decide) ?_
    refine lv_bipush (v := -9) hx hb dX6_kindOf_104 (by decide) ?_
    have e1 := Option.some.inj hf
    subst e1
    have hF : ((-9 : Int32) : Int32) = out := hF
    subst hF
    exact k_iret C0 hW dX6_kindOf_106
  by_cases c1_10 : x0 = 106
  · refine lv_tableIn (off := 103) (tgt := 104) hx hb dX6_kindOf_1 (by rw [c1_10]; decide) (by rw [c1_10]; decide) (by rw [c1_10]; rfl) (by decide) ?_
    refine lv_bipush (v := -9) hx hb dX6_kindOf_104 (by decide) ?_
    have e1 := Option.some.inj hf
    subst e1
    have hF : ((-9 : Int32) : Int32) = out := hF
    subst hF
    exact k_iret C0 hW dX6_kindOf_106
  by_cases c1_11 : x0 = 107
  · refine lv_tableIn (off := 103) (tgt := 104) hx hb dX6_kindOf_1 (by rw [c1_11]; decide) (by rw [c1_11]; decide) (by rw [c1_11]; rfl) (by decide) ?_
    refine lv_bipush (v := -9) hx hb dX6_kindOf_104 (by decide) ?_
    have e1 := Option.some.inj hf
    subst e1
    have hF : ((-9 : Int32) : Int32) = out := hF
    subst hF
    exact k_iret C0 hW dX6_kindOf_106
  by_cases c1_12 : x0 = 108
  · refine lv_tableIn (off := 103) (tgt := 104) hx hb dX6_kindOf_1 (by rw [c1_12]; decide) (by rw [c1_12]; decide) (by rw [c1_12]; rfl) (by decide) ?_
    refine lv_bipush (v := -9) hx hb dX6_kindOf_104 (by decide) ?_
    have e1 := Option.some.inj hf
    subst e1
    have hF : ((-9 : Int32) : Int32) = out := hF
    subst hF
    exact k_iret C0 hW dX6_kindOf_106
  by_cases c1_13 : x0 = 109
  · refine lv_tableIn (off := 103) (tgt := 104) hx hb dX6_kindOf_1 (by rw [c1_13]; decide) (by rw [c1_13]; decide) (by rw [c1_13]; rfl) (by decide) ?_
    refine lv_bipush (v := -9) hx hb dX6_kindOf_104 (by decide) ?_
    have e1 := Option.some.inj hf
    subst e1
    have hF : ((-9 : Int32) : Int32) = out := hF
    subst hF
    exact k_iret C0 hW dX6_kindOf_106
  by_cases c1_14 : x0 = 110
  · refine lv_tableIn (off := 103) (tgt := 104) hx hb dX6_kindOf_1 (by rw [c1_14]; decide) (by rw [c1_14]; decide) (by rw [c1_14]; rfl) (by decide) ?_
    refine lv_bipush (v := -9) hx hb dX6_kindOf_104 (by decide) ?_
    have e1 := Option.some.inj hf
    subst e1
    have hF : ((-9 : Int32) : Int32) = out := hF
    subst hF
    exact k_iret C0 hW dX6_kindOf_106
  by_cases c1_15 : x0 = 111
  · refine lv_tableIn (off := 103) (tgt := 104) hx hb dX6_kindOf_1 (by rw [c1_15]; decide) (by rw [c1_15]; decide) (by rw [c1_15]; rfl) (by decide) ?_
    refine lv_bipush (v := -9) hx hb dX6_kindOf_104 (by decide) ?_
    have e1 := Option.some.inj hf
    subst e1
    have hF : ((-9 : Int32) : Int32) = out := hF
    subst hF
    exact k_iret C0 hW dX6_kindOf_106
  by_cases c1_16 : x0 = 112
  · refine lv_tableIn (off := 103) (tgt := 104) hx hb dX6_kindOf_1 (by rw [c1_16]; decide) (by rw [c1_16]; decide) (by rw [c1_16]; rfl) (by decide) ?_
    refine lv_bipush (v := -9) hx hb dX6_kindOf_104 (by decide) ?_
    have e1 := Option.some.inj hf
    subst e1
    have hF : ((-9 : Int32) : Int32) = out := hF
    subst hF
    exact k_iret C0 hW dX6_kindOf_106
  by_cases c1_17 : x0 = 113
  · refine lv_tableIn (off := 103) (tgt := 104) hx hb dX6_kindOf_1 (by rw [c1_17]; decide) (by rw [c1_17]; decide) (by rw [c1_17]; rfl) (by decide) ?_
    refine lv_bipush (v := -9) hx hb dX6_kindOf_104 (by decide) ?_
    have e1 := Option.some.inj hf
    subst e1
    have hF : ((-9 : Int32) : Int32) = out := hF
    subst hF
    exact k_iret C0 hW dX6_kindOf_106
  by_cases c1_18 : x0 = 114
  · refine lv_tableIn (off := 103) (tgt := 104) hx hb dX6_kindOf_1 (by rw [c1_18]; decide) (by rw [c1_18]; decide) (by rw [c1_18]; rfl) (by decide) ?_
    refine lv_bipush (v := -9) hx hb dX6_kindOf_104 (by decide) ?_
    have e1 := Option.some.inj hf
    subst e1
    have hF : ((-9 : Int32) : Int32) = out := hF
    subst hF
    exact k_iret C0 hW dX6_kindOf_106
  by_cases c1_19 : x0 = 116
  · refine lv_tableIn (off := 103) (tgt := 104) hx hb dX6_kindOf_1 (by rw [c1_19]; decide) (by rw [c1_19]; decide) (by rw [c1_19]; rfl) (by decide) ?_
    refine lv_bipush (v := -9) hx hb dX6_kindOf_104 (by decide) ?_
    have e1 := Option.some.inj hf
    subst e1
    have hF : ((-9 : Int32) : Int32) = out := hF
    subst hF
    exact k_iret C0 hW dX6_kindOf_106
  refine lv_tableOut (tgt := 104) hx hb dX6_kindOf_1 (by have := lv_neT c1_1 (show (99 : Int32).toInt = 99 from rfl); have := lv_neT c1_2 (show (101 : Int32).toInt = 101 from rfl); have := lv_neT c1_3 (show (103 : Int32).toInt = 103 from rfl); have := lv_neT c1_4 (show (105 : Int32).toInt = 105 from rfl); have := lv_neT c1_5 (show (115 : Int32).toInt = 115 from rfl); have := lv_neT c1_6 (show (117 : Int32).toInt = 117 from rfl); have := lv_neT c1_7 (show (100 : Int32).toInt = 100 from rfl); have := lv_neT c1_8 (show (102 : Int32).toInt = 102 from rfl); have := lv_neT c1_9 (show (104 : Int32).toInt = 104 from rfl); have := lv_neT c1_10 (show (106 : Int32).toInt = 106 from rfl); have := lv_neT c1_11 (show (107 : Int32).toInt = 107 from rfl); have := lv_neT c1_12 (show (108 : Int32).toInt = 108 from rfl); have := lv_neT c1_13 (show (109 : Int32).toInt = 109 from rfl); have := lv_neT c1_14 (show (110 : Int32).toInt = 110 from rfl); have := lv_neT c1_15 (show (111 : Int32).toInt = 111 from rfl); have := lv_neT c1_16 (show (112 : Int32).toInt = 112 from rfl); have := lv_neT c1_17 (show (113 : Int32).toInt = 113 from rfl); have := lv_neT c1_18 (show (114 : Int32).toInt = 114 from rfl); have := lv_neT c1_19 (show (116 : Int32).toInt = 116 from rfl); omega) (by decide) ?_
  refine lv_bipush (v := -9) hx hb dX6_kindOf_104 (by decide) ?_
  have e1 := Option.some.inj hf
  subst e1
  have hF : ((-9 : Int32) : Int32) = out := hF
  subst hF
  exact k_iret C0 hW dX6_kindOf_106

def f_X6_readsSpoke_J64 (w : Md) (x2 : Int32) (x3 : Int32) (t0 : Int32) : Option (Int32 × Md) :=
  if t0 = (-9 : Int32) then (some ((0 : Int32), w)) else (gd (inb (md_readMany w) 8) (gd (inb (md_readMany w) 8) (gd (inb (md_readMany w) 8) (some ((1 : Int32), (md_set_readStrong (md_set_readLong (md_set_readKind (md_set_readMany w ((md_readMany w) + (1 : Int32))) (upd (md_readKind w) (ix (md_readMany w)) x2)) (upd (md_readLong w) (ix (md_readMany w)) x3)) (upd (md_readStrong w) (ix (md_readMany w)) t0)))))))
def f_X6_readsSpoke (w : Md) (x1 : Int32) : Option (Int32 × Md) :=
  Option.bind (f_X6_letterAt w x1 (md_readAt w)) (fun q6 => Option.bind (f_X6_kindOf q6) (fun q9 => if q9 = (-9 : Int32) then (some ((0 : Int32), w)) else (if (md_readMany w) = (8 : Int32) then (some ((0 : Int32), w)) else (Option.bind (f_X6_reads (md_set_readAt w ((md_readAt w) + (1 : Int32))) x1 (1 : Int32)) (fun q43 => if q43.1 = (-9 : Int32) then (f_X6_readsSpoke_J64 q43.2 q9 q43.1 (-9 : Int32)) else (Option.bind (f_X6_reads q43.2 x1 (0 : Int32)) (fun q61 => f_X6_readsSpoke_J64 q61.2 q9 q43.1 q61.1)))))))
set_option maxRecDepth 100000 in
set_option maxHeartbeats 1000000 in
theorem c_X6_readsSpoke (l : Launch) (G : GG) (a : Nat → Nat) (o : Nat) (w : Md) (x1 : Int32) (out : Int32 × Md) (hf : f_X6_readsSpoke w x1 = some out) : Cn l G 2 yX6_readsSpoke cX6_readsSpoke 5 (some .boolean) [.ref (a o), .int x1] (bMd G a o w) (some (.int out.1)) (bMd G a o out.2) := by
  refine cn_start (by decide) (Nat.le_of_ble_eq_true rfl) ?_
  intro p e s m below meth c A ls C0 hW hl
  have hx := C0.1
  have hb := C0.2.1
  have hl : lv_has ls 5 [(0, .ref (a o)), (1, .int x1)] := hl
  have J64 : ∀ (x2 : Int32) (x3 : Int32) (t0 : Int32) (w : Md) (r : Int32 × Md), f_X6_readsSpoke_J64 w x2 x3 t0 = some r → (fun (r : Int32 × Md) => r = out) r → ∀ (H : Heap) (locs : List Loc) (ls : Array Slot), Wd G A s.heap H (bMd G a o w) locs → lv_has ls 5 [(0, .ref (a o)), (2, .int x2), (3, .int x3)] → WW p l e 2 s m [.ref (a o), .int x1] below meth c G A (some (.int out.1)) ((bMd G a o out.2)) H locs 64 ls [.int t0] := by
    intro x2 x3 t0 w r hf hF H locs ls hW hl
    unfold f_X6_readsSpoke_J64 at hf
    refine lv_istore (lv' := [(4, .int t0), (0, .ref (a o)), (2, .int x2), (3, .int x3)]) hx hb dX6_readsSpoke_64 hl (by decide) rfl (fun ls hl => ?_)
    refine lv_iload hx hb dX6_readsSpoke_66 (lv_at hl 0 rfl) ?_
    refine lv_bipush (v := -9) hx hb dX6_readsSpoke_68 (by decide) ?_
    refine lv_icmp_ne (tgt := 75) hx hb dX6_readsSpoke_70 (by decide) (fun c70_4 => ?_) (fun c70_4 => ?_)
    · replace hf := if_f c70_4 hf
      refine lv_aload_n hx hb dX6_readsSpoke_75 rfl (lv_at hl 1 rfl) ?_
      refine k_get C0 hW 6 15 0 (v := .ref (a (o + 8))) rfl (by decide) inX6 mf_X6_36 rfl rfl dX6_readsSpoke_76 ?_
      refine lv_aload_n hx hb dX6_readsSpoke_79 rfl (lv_at hl 1 rfl) ?_
      refine k_get C0 hW 6 11 0 (v := .int (md_readMany w)) rfl (by decide) inX6 mf_X6_130 rfl rfl dX6_readsSpoke_80 ?_
      refine lv_iload_n hx hb dX6_readsSpoke_83 rfl (lv_at hl 2 rfl) ?_
      have g84_5 := (gd_some hf).1; replace hf := (gd_some hf).2
      refine k_iast C0 hW 8 (ix (md_readMany w)) rfl (inb_in g84_5) rfl dX6_readsSpoke_84 (fun H locs hW => ?_)
      have hW : Wd G A s.heap H (bMd G a o (md_set_readKind w (upd (md_readKind w) (ix (md_readMany w)) x2))) locs := hW
      refine lv_aload_n hx hb dX6_readsSpoke_85 rfl (lv_at hl 1 rfl) ?_
      refine k_get C0 hW 6 16 0 (v := .ref (a (o + 9))) rfl (by decide) inX6 mf_X6_39 rfl rfl dX6_readsSpoke_86 ?_
      refine lv_aload_n hx hb dX6_readsSpoke_89 rfl (lv_at hl 1 rfl) ?_
      refine k_get C0 hW 6 11 0 (v := .int (md_readMany w)) rfl (by decide) inX6 mf_X6_130 rfl rfl dX6_readsSpoke_90 ?_
      refine lv_iload_n hx hb dX6_readsSpoke_93 rfl (lv_at hl 3 rfl) ?_
      have g94_6 := (gd_some hf).1; replace hf := (gd_some hf).2
      refine k_iast C0 hW 9 (ix (md_readMany w)) rfl (inb_in g94_6) rfl dX6_readsSpoke_94 (fun H locs hW => ?_)
      have hW : Wd G A s.heap H (bMd G a o (md_set_readLong (md_set_readKind w (upd (md_readKind w) (ix (md_readMany w)) x2)) (upd (md_readLong w) (ix (md_readMany w)) x3))) locs := hW
      refine lv_aload_n hx hb dX6_readsSpoke_95 rfl (lv_at hl 1 rfl) ?_
      refine k_get C0 hW 6 17 0 (v := .ref (a (o + 10))) rfl (by decide) inX6 mf_X6_42 rfl rfl dX6_readsSpoke_96 ?_
      refine lv_aload_n hx hb dX6_readsSpoke_99 rfl (lv_at hl 1 rfl) ?_
      refine k_get C0 hW 6 11 0 (v := .int (md_readMany w)) rfl (by decide) inX6 mf_X6_130 rfl rfl dX6_readsSpoke_100 ?_
      refine lv_iload hx hb dX6_readsSpoke_103 (lv_at hl 0 rfl) ?_
      have g105_7 := (gd_some hf).1; replace hf := (gd_some hf).2
      refine k_iast C0 hW 10 (ix (md_readMany w)) rfl (inb_in g105_7) rfl dX6_readsSpoke_105 (fun H locs hW => ?_)
      have hW : Wd G A s.heap H (bMd G a o (md_set_readStrong (md_set_readLong (md_set_readKind w (upd (md_readKind w) (ix (md_readMany w)) x2)) (upd (md_readLong w) (ix (md_readMany w)) x3)) (upd (md_readStrong w) (ix (md_readMany w)) t0))) locs := hW
      refine lv_aload_n hx hb dX6_readsSpoke_106 rfl (lv_at hl 1 rfl) ?_
      refine lv_dup hx hb dX6_readsSpoke_107 rfl ?_
      refine k_get C0 hW 6 11 0 (v := .int (md_readMany w)) rfl (by decide) inX6 mf_X6_130 rfl rfl dX6_readsSpoke_108 ?_
      refine lv_iconst (v := 1) hx hb dX6_readsSpoke_111 (by decide) ?_
      refine lv_iadd hx hb dX6_readsSpoke_112 ?_
      refine k_put C0 hW 6 11 0 rfl (by decide) inX6 tyX6_ok nmX6 mf_X6_130 rfl rfl rfl rfl (Nat.le_of_ble_eq_true rfl) dX6_readsSpoke_113 (fun H locs hW => ?_)
      have hW : Wd G A s.heap H (bMd G a o (md_set_readStrong (md_set_readLong (md_set_readKind (md_set_readMany w ((md_readMany w) + (1 : Int32))) (upd (md_readKind w) (ix (md_readMany w)) x2)) (upd (md_readLong w) (ix (md_readMany w)) x3)) (upd (md_readStrong w) (ix (md_readMany w)) t0))) locs := hW
      refine lv_iconst (v := 1) hx hb dX6_readsSpoke_116 (by decide) ?_
      have e1 := Option.some.inj hf
      subst e1
      have hF : (((1 : Int32), (md_set_readStrong (md_set_readLong (md_set_readKind (md_set_readMany w ((md_readMany w) + (1 : Int32))) (upd (md_readKind w) (ix (md_readMany w)) x2)) (upd (md_readLong w) (ix (md_readMany w)) x3)) (upd (md_readStrong w) (ix (md_readMany w)) t0))) : Int32 × Md) = out := hF
      subst hF
      exact k_zret C0 hW rfl dX6_readsSpoke_117
    · replace hf := if_t c70_4 hf
      refine lv_iconst (v := 0) hx hb dX6_readsSpoke_73 (by decide) ?_
      have e1 := Option.some.inj hf
      subst e1
      have hF : (((0 : Int32), w) : Int32 × Md) = out := hF
      subst hF
      exact k_zret C0 hW rfl dX6_readsSpoke_74
  obtain ⟨r, hr⟩ : ∃ r, f_X6_readsSpoke w x1 = some r ∧ r = out := ⟨out, hf, rfl⟩
  replace hf := hr.1
  have hF := hr.2
  clear hr
  unfold f_X6_readsSpoke at hf
  refine lv_aload_n hx hb dX6_readsSpoke_0 rfl (lv_at hl 0 rfl) ?_
  refine lv_iload_n hx hb dX6_readsSpoke_1 rfl (lv_at hl 1 rfl) ?_
  refine lv_aload_n hx hb dX6_readsSpoke_2 rfl (lv_at hl 0 rfl) ?_
  refine k_get C0 hW 6 10 0 (v := .int (md_readAt w)) rfl (by decide) inX6 mf_X6_111 rfl rfl dX6_readsSpoke_3 ?_
  obtain ⟨q6, hq6⟩ := ob_s hf
  replace hf := hq6.2
  replace hq6 := hq6.1
  refine cW1 (rest := []) (ws1 := (bMd G a o w)) (st1 := [.int q6]) C0 hW hl.1 (c_X6_letterAt l G a o w x1 (md_readAt w) _ hq6) cb_X6_letterAt mm_X6_114 fst_Md 0 6 rfl rfl rfl (by decide) rfl rfl (Nat.le_of_ble_eq_true rfl) ⟨Nat.zero_le _, Nat.zero_le _⟩ dX6_readsSpoke_6 rfl (fun H locs hW => ?_)
  obtain ⟨q9, hq9⟩ := ob_s hf
  replace hf := hq9.2
  replace hq9 := hq9.1
  refine cS0 (rest := []) (st1 := [.int q9]) C0 hW hl.1 (c_X6_kindOf l G q6 _ hq9) cb_X6_kindOf mm_X6_127 [] rfl rfl (by decide) rfl rfl (Nat.le_of_ble_eq_true rfl) ⟨Nat.zero_le _, Nat.zero_le _⟩ dX6_readsSpoke_9 rfl (fun H locs hW => ?_)
  refine lv_istore_n (lv' := [(2, .int q9), (0, .ref (a o)), (1, .int x1)]) hx hb dX6_readsSpoke_12 rfl hl (by decide) rfl (fun ls hl => ?_)
  refine lv_iload_n hx hb dX6_readsSpoke_13 rfl (lv_at hl 0 rfl) ?_
  refine lv_bipush (v := -9) hx hb dX6_readsSpoke_14 (by decide) ?_
  refine lv_icmp_eq (tgt := 28) hx hb dX6_readsSpoke_16 (by decide) (fun c16_1 => ?_) (fun c16_1 => ?_)
  · replace hf := if_t c16_1 hf
    refine lv_iconst (v := 0) hx hb dX6_readsSpoke_28 (by decide) ?_
    have e1 := Option.some.inj hf
    subst e1
    have hF : (((0 : Int32), w) : Int32 × Md) = out := hF
    subst hF
    exact k_zret C0 hW rfl dX6_readsSpoke_29
  · replace hf := if_f c16_1 hf
    refine lv_aload_n hx hb dX6_readsSpoke_19 rfl (lv_at hl 1 rfl) ?_
    refine k_get C0 hW 6 11 0 (v := .int (md_readMany w)) rfl (by decide) inX6 mf_X6_130 rfl rfl dX6_readsSpoke_20 ?_
    refine lv_bipush (v := 8) hx hb dX6_readsSpoke_23 (by decide) ?_
    refine lv_icmp_ne (tgt := 30) hx hb dX6_readsSpoke_25 (by decide) (fun c25_2 => ?_) (fun c25_2 => ?_)
    · replace hf := if_f c25_2 hf
      refine lv_aload_n hx hb dX6_readsSpoke_30 rfl (lv_at hl 1 rfl) ?_
      refine lv_dup hx hb dX6_readsSpoke_31 rfl ?_
      refine k_get C0 hW 6 10 0 (v := .int (md_readAt w)) rfl (by decide) inX6 mf_X6_111 rfl rfl dX6_readsSpoke_32 ?_
      refine lv_iconst (v := 1) hx hb dX6_readsSpoke_35 (by decide) ?_
      refine lv_iadd hx hb dX6_readsSpoke_36 ?_
      refine k_put C0 hW 6 10 0 rfl (by decide) inX6 tyX6_ok nmX6 mf_X6_111 rfl rfl rfl rfl (Nat.le_of_ble_eq_true rfl) dX6_readsSpoke_37 (fun H locs hW => ?_)
      have hW : Wd G A s.heap H (bMd G a o (md_set_readAt w ((md_readAt w) + (1 : Int32)))) locs := hW
      refine lv_aload_n hx hb dX6_readsSpoke_40 rfl (lv_at hl 1 rfl) ?_
      refine lv_iload_n hx hb dX6_readsSpoke_41 rfl (lv_at hl 2 rfl) ?_
      refine lv_iconst (v := 1) hx hb dX6_readsSpoke_42 (by decide) ?_
      obtain ⟨q43, hq43⟩ := ob_s hf
      replace hf := hq43.2
      replace hq43 := hq43.1
      refine cW1 (rest := []) (ws1 := (bMd G a o q43.2)) (st1 := [.int q43.1]) C0 hW hl.1 (c_X6_reads l G a o (md_set_readAt w ((md_readAt w) + (1 : Int32))) x1 (1 : Int32) _ hq43) cb_X6_reads mm_X6_117 fst_Md 0 6 rfl rfl rfl (by decide) rfl rfl (Nat.le_of_ble_eq_true rfl) ⟨Nat.zero_le _, Nat.zero_le _⟩ dX6_readsSpoke_43 rfl (fun H locs hW => ?_)
      refine lv_istore_n (lv' := [(3, .int q43.1), (2, .int q9), (0, .ref (a o)), (1, .int x1)]) hx hb dX6_readsSpoke_46 rfl hl (by decide) rfl (fun ls hl => ?_)
      refine lv_iload_n hx hb dX6_readsSpoke_47 rfl (lv_at hl 0 rfl) ?_
      refine lv_bipush (v := -9) hx hb dX6_readsSpoke_48 (by decide) ?_
      refine lv_icmp_ne (tgt := 58) hx hb dX6_readsSpoke_50 (by decide) (fun c50_3 => ?_) (fun c50_3 => ?_)
      · replace hf := if_f c50_3 hf
        refine lv_aload_n hx hb dX6_readsSpoke_58 rfl (lv_at hl 2 rfl) ?_
        refine lv_iload_n hx hb dX6_readsSpoke_59 rfl (lv_at hl 3 rfl) ?_
        refine lv_iconst (v := 0) hx hb dX6_readsSpoke_60 (by decide) ?_
        obtain ⟨q61, hq61⟩ := ob_s hf
        replace hf := hq61.2
        replace hq61 := hq61.1
        refine cW1 (rest := []) (ws1 := (bMd G a o q61.2)) (st1 := [.int q61.1]) C0 hW hl.1 (c_X6_reads l G a o q43.2 x1 (0 : Int32) _ hq61) cb_X6_reads mm_X6_117 fst_Md 0 6 rfl rfl rfl (by decide) rfl rfl (Nat.le_of_ble_eq_true rfl) ⟨Nat.zero_le _, Nat.zero_le _⟩ dX6_readsSpoke_61 rfl (fun H locs hW => ?_)
        exact J64 _ _ _ _ _ hf hF _ _ _ hW (lv_sub hl [2, 1, 0] rfl)
      · replace hf := if_t c50_3 hf
        refine lv_bipush (v := -9) hx hb dX6_readsSpoke_53 (by decide) ?_
        refine lv_goto (tgt := 64) hx hb dX6_readsSpoke_55 (by decide) ?_
        exact J64 _ _ _ _ _ hf hF _ _ _ hW (lv_sub hl [2, 1, 0] rfl)
    · replace hf := if_t c25_2 hf
      refine lv_iconst (v := 0) hx hb dX6_readsSpoke_28 (by decide) ?_
      have e1 := Option.some.inj hf
      subst e1
      have hF : (((0 : Int32), w) : Int32 × Md) = out := hF
      subst hF
      exact k_zret C0 hW rfl dX6_readsSpoke_29

def f_X6_faultOf_J86 (w : Md) (x1 : Int32) : Option (Int32 × Md) :=
  if (3 : Int32) ≤ (md_readMany w) then (some ((-9 : Int32), w)) else (gd (inb x1 4) (some (((md_textSizes w) (ix x1)), w)))
def f_X6_faultOf_J81 (w : Md) : Option (Int32 × Md) :=
  some ((md_readAt w), w)
def f_X6_faultOf_B15 (x1 : Int32) (w : Md) : Option ((Md) ⊕ (Int32 × Md)) :=
  gd (inb x1 4) (if ((md_textSizes w) (ix x1)) ≤ (md_readAt w) then (Option.map Sum.inr (f_X6_faultOf_J86 w x1)) else (Option.bind (f_X6_letterAt w x1 (md_readAt w)) (fun q34 => if q34 = (32 : Int32) then (some (Sum.inl (md_set_readAt w ((md_readAt w) + (1 : Int32))))) else (if (md_isBegun w) = 0 then (Option.bind (f_X6_readsRoad w x1) (fun q75 => if q75.1 = 0 then (Option.map Sum.inr (f_X6_faultOf_J81 q75.2)) else (some (Sum.inl q75.2)))) else (Option.bind (f_X6_readsSpoke w x1) (fun q64 => if q64.1 = 0 then (Option.map Sum.inr (f_X6_faultOf_J81 q64.2)) else (some (Sum.inl q64.2))))))))
def f_X6_faultOf_L15 (x1 : Int32) (sg : Md) : Option ((Md) ⊕ (Int32 × Md)) := f_X6_faultOf_B15 x1 sg
def f_X6_faultOf (w : Md) (x1 : Int32) : Option (Int32 × Md) :=
  lp (f_X6_faultOf_L15 x1) fuel (md_set_isBegun (md_set_readMany (md_set_readAt w (0 : Int32)) (0 : Int32)) (0 : Int32))
set_option maxRecDepth 100000 in
set_option maxHeartbeats 1000000 in
theorem c_X6_faultOf (l : Launch) (G : GG) (a : Nat → Nat) (o : Nat) (w : Md) (x1 : Int32) (out : Int32 × Md) (hf : f_X6_faultOf w x1 = some out) : Cn l G 3 yX6_faultOf cX6_faultOf 2 (some .int) [.ref (a o), .int x1] (bMd G a o w) (some (.int out.1)) (bMd G a o out.2) := by
  refine cn_start (by decide) (Nat.le_of_ble_eq_true rfl) ?_
  intro p e s m below meth c A ls C0 hW hl
  have hx := C0.1
  have hb := C0.2.1
  have hl : lv_has ls 2 [(0, .ref (a o)), (1, .int x1)] := hl
  have J86 : ∀ (w : Md) (r : Int32 × Md), f_X6_faultOf_J86 w x1 = some r → (fun (r : Int32 × Md) => r = out) r → ∀ (H : Heap) (locs : List Loc) (ls : Array Slot), Wd G A s.heap H (bMd G a o w) locs → lv_has ls 2 [(0, .ref (a o)), (1, .int x1)] → WW p l e 3 s m [.ref (a o), .int x1] below meth c G A (some (.int out.1)) ((bMd G a o out.2)) H locs 86 ls [] := by
    intro w r hf hF H locs ls hW hl
    unfold f_X6_faultOf_J86 at hf
    refine lv_aload_n hx hb dX6_faultOf_86 rfl (lv_at hl 0 rfl) ?_
    refine k_get C0 hW 6 11 0 (v := .int (md_readMany w)) rfl (by decide) inX6 mf_X6_130 rfl rfl dX6_faultOf_87 ?_
    refine lv_iconst (v := 3) hx hb dX6_faultOf_90 (by decide) ?_
    refine lv_icmp_ge (tgt := 103) hx hb dX6_faultOf_91 (by decide) (fun c91_3 => ?_) (fun c91_3 => ?_)
    · replace hf := if_t c91_3 hf
      refine lv_bipush (v := -9) hx hb dX6_faultOf_103 (by decide) ?_
      have e1 := Option.some.inj hf
      subst e1
      have hF : (((-9 : Int32), w) : Int32 × Md) = out := hF
      subst hF
      exact k_iret C0 hW dX6_faultOf_105
    · replace hf := if_f c91_3 hf
      refine lv_aload_n hx hb dX6_faultOf_94 rfl (lv_at hl 0 rfl) ?_
      refine k_get C0 hW 6 8 0 (v := .ref (a (o + 5))) rfl (by decide) inX6 mf_X6_26 rfl rfl dX6_faultOf_95 ?_
      refine lv_iload_n hx hb dX6_faultOf_98 rfl (lv_at hl 1 rfl) ?_
      have g99_4 := (gd_some hf).1; replace hf := (gd_some hf).2
      refine k_iald C0 hW 5 (ix x1) rfl (inb_in g99_4) rfl dX6_faultOf_99 ?_
      refine lv_goto (tgt := 105) hx hb dX6_faultOf_100 (by decide) ?_
      have e1 := Option.some.inj hf
      subst e1
      have hF : ((((md_textSizes w) (ix x1)), w) : Int32 × Md) = out := hF
      subst hF
      exact k_iret C0 hW dX6_faultOf_105
  have J81 : ∀ (w : Md) (r : Int32 × Md), f_X6_faultOf_J81 w = some r → (fun (r : Int32 × Md) => r = out) r → ∀ (H : Heap) (locs : List Loc) (ls : Array Slot), Wd G A s.heap H (bMd G a o w) locs → lv_has ls 2 [(0, .ref (a o))] → WW p l e 3 s m [.ref (a o), .int x1] below meth c G A (some (.int out.1)) ((bMd G a o out.2)) H locs 81 ls [] := by
    intro w r hf hF H locs ls hW hl
    unfold f_X6_faultOf_J81 at hf
    refine lv_aload_n hx hb dX6_faultOf_81 rfl (lv_at hl 0 rfl) ?_
    refine k_get C0 hW 6 10 0 (v := .int (md_readAt w)) rfl (by decide) inX6 mf_X6_111 rfl rfl dX6_faultOf_82 ?_
    have e1 := Option.some.inj hf
    subst e1
    have hF : (((md_readAt w), w) : Int32 × Md) = out := hF
    subst hF
    exact k_iret C0 hW dX6_faultOf_85
  have L15 : ∀ (k8 : Nat) (sg : Md) (o9 : Int32 × Md), lp (f_X6_faultOf_L15 x1) k8 sg = some o9 → (fun (r : Int32 × Md) => r = out) o9 → (fun (sg : Md) => ∀ (H : Heap) (locs : List Loc) (ls : Array Slot), Wd G A s.heap H (bMd G a o sg) locs → lv_has ls 2 [(0, .ref (a o)), (1, .int x1)] → WW p l e 3 s m [.ref (a o), .int x1] below meth c G A (some (.int out.1)) ((bMd G a o out.2)) H locs 15 ls []) sg := by
    have B15 : ∀ (w : Md) (r : (Md) ⊕ (Int32 × Md)), f_X6_faultOf_B15 x1 w = some r → (Sum.elim (fun (sg : Md) => ∀ (H : Heap) (locs : List Loc) (ls : Array Slot), Wd G A s.heap H (bMd G a o sg) locs → lv_has ls 2 [(0, .ref (a o)), (1, .int x1)] → WW p l e 3 s m [.ref (a o), .int x1] below meth c G A (some (.int out.1)) ((bMd G a o out.2)) H locs 15 ls []) (fun (r : Int32 × Md) => r = out)) r → ∀ (H : Heap) (locs : List Loc) (ls : Array Slot), Wd G A s.heap H (bMd G a o w) locs → lv_has ls 2 [(0, .ref (a o)), (1, .int x1)] → WW p l e 3 s m [.ref (a o), .int x1] below meth c G A (some (.int out.1)) ((bMd G a o out.2)) H locs 15 ls [] := by
      intro w r hf hF H locs ls hW hl
      unfold f_X6_faultOf_B15 at hf
      refine lv_aload_n hx hb dX6_faultOf_15 rfl (lv_at hl 0 rfl) ?_
      refine k_get C0 hW 6 10 0 (v := .int (md_readAt w)) rfl (by decide) inX6 mf_X6_111 rfl rfl dX6_faultOf_16 ?_
      refine lv_aload_n hx hb dX6_faultOf_19 rfl (lv_at hl 0 rfl) ?_
      refine k_get C0 hW 6 8 0 (v := .ref (a (o + 5))) rfl (by decide) inX6 mf_X6_26 rfl rfl dX6_faultOf_20 ?_
      refine lv_iload_n hx hb dX6_faultOf_23 rfl (lv_at hl 1 rfl) ?_
      have g24_1 := (gd_some hf).1; replace hf := (gd_some hf).2
      refine k_iald C0 hW 5 (ix x1) rfl (inb_in g24_1) rfl dX6_faultOf_24 ?_
      refine lv_icmp_ge (tgt := 86) hx hb dX6_faultOf_25 (by decide) (fun c25_2 => ?_) (fun c25_2 => ?_)
      · replace hf := if_t c25_2 hf
        obtain ⟨r2, e2⟩ := om_s hf
        replace hf := e2.1
        replace e2 := e2.2
        subst e2
        replace hF := elim_r hF
        exact J86 _ _ hf hF _ _ _ hW (lv_sub hl [0, 1] rfl)
      · replace hf := if_f c25_2 hf
        refine lv_aload_n hx hb dX6_faultOf_28 rfl (lv_at hl 0 rfl) ?_
        refine lv_iload_n hx hb dX6_faultOf_29 rfl (lv_at hl 1 rfl) ?_
        refine lv_aload_n hx hb dX6_faultOf_30 rfl (lv_at hl 0 rfl) ?_
        refine k_get C0 hW 6 10 0 (v := .int (md_readAt w)) rfl (by decide) inX6 mf_X6_111 rfl rfl dX6_faultOf_31 ?_
        obtain ⟨q34, hq34⟩ := ob_s hf
        replace hf := hq34.2
        replace hq34 := hq34.1
        refine cW1 (rest := []) (ws1 := (bMd G a o w)) (st1 := [.int q34]) C0 hW hl.1 (c_X6_letterAt l G a o w x1 (md_readAt w) _ hq34) cb_X6_letterAt mm_X6_114 fst_Md 0 6 rfl rfl rfl (by decide) rfl rfl (Nat.le_of_ble_eq_true rfl) ⟨Nat.zero_le _, Nat.zero_le _⟩ dX6_faultOf_34 rfl (fun H locs hW => ?_)
        refine lv_bipush (v := 32) hx hb dX6_faultOf_37 (by decide) ?_
        refine lv_icmp_ne (tgt := 55) hx hb dX6_faultOf_39 (by decide) (fun c39_5 => ?_) (fun c39_5 => ?_)
        · replace hf := if_f c39_5 hf
          refine lv_aload_n hx hb dX6_faultOf_55 rfl (lv_at hl 0 rfl) ?_
          refine k_get C0 hW 6 13 0 (v := .int (md_isBegun w)) rfl (by decide) inX6 mf_X6_123 rfl rfl dX6_faultOf_56 ?_
          refine lv_if_eq (tgt := 73) hx hb dX6_faultOf_59 (by decide) (fun c59_6 => ?_) (fun c59_6 => ?_)
          · replace hf := if_t c59_6 hf
            refine lv_aload_n hx hb dX6_faultOf_73 rfl (lv_at hl 0 rfl) ?_
            refine lv_iload_n hx hb dX6_faultOf_74 rfl (lv_at hl 1 rfl) ?_
            obtain ⟨q75, hq75⟩ := ob_s hf
            replace hf := hq75.2
            replace hq75 := hq75.1
            refine cW1 (rest := []) (ws1 := (bMd G a o q75.2)) (st1 := [.int q75.1]) C0 hW hl.1 (c_X6_readsRoad l G a o w x1 _ hq75) cb_X6_readsRoad mm_X6_136 fst_Md 0 6 rfl rfl rfl (by decide) rfl rfl (Nat.le_of_ble_eq_true rfl) ⟨Nat.zero_le _, Nat.zero_le _⟩ dX6_faultOf_75 rfl (fun H locs hW => ?_)
            refine lv_if_ne (tgt := 15) hx hb dX6_faultOf_78 (by decide) (fun c78_7 => ?_) (fun c78_7 => ?_)
            · replace hf := if_f c78_7 hf
              have e1 := Option.some.inj hf
              subst e1
              exact (elim_l hF) _ _ _ hW (lv_sub hl [0, 1] rfl)
            · replace hf := if_t c78_7 hf
              obtain ⟨r2, e2⟩ := om_s hf
              replace hf := e2.1
              replace e2 := e2.2
              subst e2
              replace hF := elim_r hF
              exact J81 _ _ hf hF _ _ _ hW (lv_sub hl [0] rfl)
          · replace hf := if_f c59_6 hf
            refine lv_aload_n hx hb dX6_faultOf_62 rfl (lv_at hl 0 rfl) ?_
            refine lv_iload_n hx hb dX6_faultOf_63 rfl (lv_at hl 1 rfl) ?_
            obtain ⟨q64, hq64⟩ := ob_s hf
            replace hf := hq64.2
            replace hq64 := hq64.1
            refine cW1 (rest := []) (ws1 := (bMd G a o q64.2)) (st1 := [.int q64.1]) C0 hW hl.1 (c_X6_readsSpoke l G a o w x1 _ hq64) cb_X6_readsSpoke mm_X6_133 fst_Md 0 6 rfl rfl rfl (by decide) rfl rfl (Nat.le_of_ble_eq_true rfl) ⟨Nat.zero_le _, Nat.zero_le _⟩ dX6_faultOf_64 rfl (fun H locs hW => ?_)
            refine lv_if_eq (tgt := 81) hx hb dX6_faultOf_67 (by decide) (fun c67_8 => ?_) (fun c67_8 => ?_)
            · replace hf := if_t c67_8 hf
              obtain ⟨r2, e2⟩ := om_s hf
              replace hf := e2.1
              replace e2 := e2.2
              subst e2
              replace hF := elim_r hF
              exact J81 _ _ hf hF _ _ _ hW (lv_sub hl [0] rfl)
            · replace hf := if_f c67_8 hf
              refine lv_goto (tgt := 15) hx hb dX6_faultOf_70 (by decide) ?_
              have e1 := Option.some.inj hf
              subst e1
              exact (elim_l hF) _ _ _ hW (lv_sub hl [0, 1] rfl)
        · replace hf := if_t c39_5 hf
          refine lv_aload_n hx hb dX6_faultOf_42 rfl (lv_at hl 0 rfl) ?_
          refine lv_dup hx hb dX6_faultOf_43 rfl ?_
          refine k_get C0 hW 6 10 0 (v := .int (md_readAt w)) rfl (by decide) inX6 mf_X6_111 rfl rfl dX6_faultOf_44 ?_
          refine lv_iconst (v := 1) hx hb dX6_faultOf_47 (by decide) ?_
          refine lv_iadd hx hb dX6_faultOf_48 ?_
          refine k_put C0 hW 6 10 0 rfl (by decide) inX6 tyX6_ok nmX6 mf_X6_111 rfl rfl rfl rfl (Nat.le_of_ble_eq_true rfl) dX6_faultOf_49 (fun H locs hW => ?_)
          have hW : Wd G A s.heap H (bMd G a o (md_set_readAt w ((md_readAt w) + (1 : Int32)))) locs := hW
          refine lv_goto (tgt := 15) hx hb dX6_faultOf_52 (by decide) ?_
          have e1 := Option.some.inj hf
          subst e1
          exact (elim_l hF) _ _ _ hW (lv_sub hl [0, 1] rfl)
    exact lp_sound (fun sg r hb hz => B15 sg r hb hz)
  obtain ⟨r, hr⟩ : ∃ r, f_X6_faultOf w x1 = some r ∧ r = out := ⟨out, hf, rfl⟩
  replace hf := hr.1
  have hF := hr.2
  clear hr
  unfold f_X6_faultOf at hf
  refine lv_aload_n hx hb dX6_faultOf_0 rfl (lv_at hl 0 rfl) ?_
  refine lv_iconst (v := 0) hx hb dX6_faultOf_1 (by decide) ?_
  refine k_put C0 hW 6 10 0 rfl (by decide) inX6 tyX6_ok nmX6 mf_X6_111 rfl rfl rfl rfl (Nat.le_of_ble_eq_true rfl) dX6_faultOf_2 (fun H locs hW => ?_)
  have hW : Wd G A s.heap H (bMd G a o (md_set_readAt w (0 : Int32))) locs := hW
  refine lv_aload_n hx hb dX6_faultOf_5 rfl (lv_at hl 0 rfl) ?_
  refine lv_iconst (v := 0) hx hb dX6_faultOf_6 (by decide) ?_
  refine k_put C0 hW 6 11 0 rfl (by decide) inX6 tyX6_ok nmX6 mf_X6_130 rfl rfl rfl rfl (Nat.le_of_ble_eq_true rfl) dX6_faultOf_7 (fun H locs hW => ?_)
  have hW : Wd G A s.heap H (bMd G a o (md_set_readMany (md_set_readAt w (0 : Int32)) (0 : Int32))) locs := hW
  refine lv_aload_n hx hb dX6_faultOf_10 rfl (lv_at hl 0 rfl) ?_
  refine lv_iconst (v := 0) hx hb dX6_faultOf_11 (by decide) ?_
  refine k_put C0 hW 6 13 0 rfl (by decide) inX6 tyX6_ok nmX6 mf_X6_123 rfl rfl (isB_nar (show isB (0 : Int32) = true from rfl)) (isB_fits (show isB (0 : Int32) = true from rfl)) (Nat.le_of_ble_eq_true rfl) dX6_faultOf_12 (fun H locs hW => ?_)
  have hW : Wd G A s.heap H (bMd G a o (md_set_isBegun (md_set_readMany (md_set_readAt w (0 : Int32)) (0 : Int32)) (0 : Int32))) locs := hW
  exact L15  fuel (md_set_isBegun (md_set_readMany (md_set_readAt w (0 : Int32)) (0 : Int32)) (0 : Int32)) _ hf hF _ _ _ hW (lv_sub hl [0, 1] rfl)

def f_X6_fault (w : Md) (x1 : Int32) : Option (Int32 × Md) :=
  Option.bind (f_X6_isText x1) (fun q1 => if q1 = 0 then (some ((-1 : Int32), w)) else (gd (inb x1 4) (if 0 ≤ ((md_textSizes w) (ix x1)) then (Option.bind (f_X6_faultOf w x1) (fun q30 => some (q30.1, q30.2))) else (Option.bind (f_X6_meets w (1 : Int32)) (fun q22 => some (q22.1, q22.2))))))
set_option maxRecDepth 100000 in
set_option maxHeartbeats 1000000 in
theorem c_X6_fault (l : Launch) (G : GG) (a : Nat → Nat) (o : Nat) (w : Md) (x1 : Int32) (out : Int32 × Md) (hf : f_X6_fault w x1 = some out) : Cn l G 4 yX6_fault cX6_fault 2 (some .int) [.ref (a o), .int x1] (bMd G a o w) (some (.int out.1)) (bMd G a o out.2) := by
  refine cn_start (by decide) (Nat.le_of_ble_eq_true rfl) ?_
  intro p e s m below meth c A ls C0 hW hl
  have hx := C0.1
  have hb := C0.2.1
  have hl : lv_has ls 2 [(0, .ref (a o)), (1, .int x1)] := hl
  obtain ⟨r, hr⟩ : ∃ r, f_X6_fault w x1 = some r ∧ r = out := ⟨out, hf, rfl⟩
  replace hf := hr.1
  have hF := hr.2
  clear hr
  unfold f_X6_fault at hf
  refine lv_iload_n hx hb dX6_fault_0 rfl (lv_at hl 1 rfl) ?_
  obtain ⟨q1, hq1⟩ := ob_s hf
  replace hf := hq1.2
  replace hq1 := hq1.1
  refine cS0 (rest := []) (st1 := [.int q1]) C0 hW hl.1 (c_X6_isText l G x1 _ hq1) cb_X6_isText mm_X6_108 [] rfl rfl (by decide) rfl rfl (Nat.le_of_ble_eq_true rfl) ⟨Nat.zero_le _, Nat.zero_le _⟩ dX6_fault_1 rfl (fun H locs hW => ?_)
  refine lv_if_ne (tgt := 11) hx hb dX6_fault_4 (by decide) (fun c4_1 => ?_) (fun c4_1 => ?_)
  · replace hf := if_f c4_1 hf
    refine lv_aload_n hx hb dX6_fault_11 rfl (lv_at hl 0 rfl) ?_
    refine k_get C0 hW 6 8 0 (v := .ref (a (o + 5))) rfl (by decide) inX6 mf_X6_26 rfl rfl dX6_fault_12 ?_
    refine lv_iload_n hx hb dX6_fault_15 rfl (lv_at hl 1 rfl) ?_
    have g16_2 := (gd_some hf).1; replace hf := (gd_some hf).2
    refine k_iald C0 hW 5 (ix x1) rfl (inb_in g16_2) rfl dX6_fault_16 ?_
    refine lv_if_ge (tgt := 28) hx hb dX6_fault_17 (by decide) (fun c17_3 => ?_) (fun c17_3 => ?_)
    · replace hf := if_t c17_3 hf
      refine lv_aload_n hx hb dX6_fault_28 rfl (lv_at hl 0 rfl) ?_
      refine lv_iload_n hx hb dX6_fault_29 rfl (lv_at hl 1 rfl) ?_
      obtain ⟨q30, hq30⟩ := ob_s hf
      replace hf := hq30.2
      replace hq30 := hq30.1
      refine cW1 (rest := []) (ws1 := (bMd G a o q30.2)) (st1 := [.int q30.1]) C0 hW hl.1 (c_X6_faultOf l G a o w x1 _ hq30) cb_X6_faultOf mm_X6_139 fst_Md 0 6 rfl rfl rfl (by decide) rfl rfl (Nat.le_of_ble_eq_true rfl) ⟨Nat.zero_le _, Nat.zero_le _⟩ dX6_fault_30 rfl (fun H locs hW => ?_)
      have e1 := Option.some.inj hf
      subst e1
      have hF : ((q30.1, q30.2) : Int32 × Md) = out := hF
      subst hF
      exact k_iret C0 hW dX6_fault_33
    · replace hf := if_f c17_3 hf
      refine lv_aload_n hx hb dX6_fault_20 rfl (lv_at hl 0 rfl) ?_
      refine lv_iconst (v := 1) hx hb dX6_fault_21 (by decide) ?_
      obtain ⟨q22, hq22⟩ := ob_s hf
      replace hf := hq22.2
      replace hq22 := hq22.1
      refine cW1 (rest := []) (ws1 := (bMd G a o q22.2)) (st1 := [.int q22.1]) C0 hW hl.1 (c_X6_meets l G a o w (1 : Int32) _ hq22) cb_X6_meets mm_X6_97 fst_Md 0 6 rfl rfl rfl (by decide) rfl rfl (Nat.le_of_ble_eq_true rfl) ⟨Nat.zero_le _, Nat.zero_le _⟩ dX6_fault_22 rfl (fun H locs hW => ?_)
      refine lv_goto (tgt := 33) hx hb dX6_fault_25 (by decide) ?_
      have e1 := Option.some.inj hf
      subst e1
      have hF : ((q22.1, q22.2) : Int32 × Md) = out := hF
      subst hF
      exact k_iret C0 hW dX6_fault_33
  · replace hf := if_t c4_1 hf
    refine lv_iconst (v := -1) hx hb dX6_fault_7 (by decide) ?_
    refine lv_goto (tgt := 33) hx hb dX6_fault_8 (by decide) ?_
    have e1 := Option.some.inj hf
    subst e1
    have hF : (((-1 : Int32), w) : Int32 × Md) = out := hF
    subst hF
    exact k_iret C0 hW dX6_fault_33

def f_X6_finding (w : Md) : Option (Int32) :=
  some (md_latest w)
set_option maxRecDepth 100000 in
set_option maxHeartbeats 1000000 in
theorem c_X6_finding (l : Launch) (G : GG) (a : Nat → Nat) (o : Nat) (w : Md) (out : Int32) (hf : f_X6_finding w = some out) : Cn l G 0 yX6_finding cX6_finding 1 (some .int) [.ref (a o)] (bMd G a o w) (some (.int out)) (bMd G a o w) := by
  refine cn_start (by decide) (Nat.le_of_ble_eq_true rfl) ?_
  intro p e s m below meth c A ls C0 hW hl
  have hx := C0.1
  have hb := C0.2.1
  have hl : lv_has ls 1 [(0, .ref (a o))] := hl
  obtain ⟨r, hr⟩ : ∃ r, f_X6_finding w = some r ∧ r = out := ⟨out, hf, rfl⟩
  replace hf := hr.1
  have hF := hr.2
  clear hr
  unfold f_X6_finding at hf
  refine lv_aload_n hx hb dX6_finding_0 rfl (lv_at hl 0 rfl) ?_
  refine k_get C0 hW 6 3 0 (v := .int (md_latest w)) rfl (by decide) inX6 mf_X6_79 rfl rfl dX6_finding_1 ?_
  have e1 := Option.some.inj hf
  subst e1
  have hF : ((md_latest w) : Int32) = out := hF
  subst hF
  exact k_iret C0 hW dX6_finding_4

def f_X6_findings (w : Md) (x1 : Int32) : Option (Int32) :=
  Option.bind (f_X6_in x1 (1 : Int32) (5 : Int32)) (fun q3 => if q3 = 0 then (some (-1 : Int32)) else (gd (inb x1 6) (some ((md_came w) (ix x1)))))
set_option maxRecDepth 100000 in
set_option maxHeartbeats 1000000 in
theorem c_X6_findings (l : Launch) (G : GG) (a : Nat → Nat) (o : Nat) (w : Md) (x1 : Int32) (out : Int32) (hf : f_X6_findings w x1 = some out) : Cn l G 1 yX6_findings cX6_findings 2 (some .int) [.ref (a o), .int x1] (bMd G a o w) (some (.int out)) (bMd G a o w) := by
  refine cn_start (by decide) (Nat.le_of_ble_eq_true rfl) ?_
  intro p e s m below meth c A ls C0 hW hl
  have hx := C0.1
  have hb := C0.2.1
  have hl : lv_has ls 2 [(0, .ref (a o)), (1, .int x1)] := hl
  obtain ⟨r, hr⟩ : ∃ r, f_X6_findings w x1 = some r ∧ r = out := ⟨out, hf, rfl⟩
  replace hf := hr.1
  have hF := hr.2
  clear hr
  unfold f_X6_findings at hf
  refine lv_iload_n hx hb dX6_findings_0 rfl (lv_at hl 1 rfl) ?_
  refine lv_iconst (v := 1) hx hb dX6_findings_1 (by decide) ?_
  refine lv_iconst (v := 5) hx hb dX6_findings_2 (by decide) ?_
  obtain ⟨q3, hq3⟩ := ob_s hf
  replace hf := hq3.2
  replace hq3 := hq3.1
  refine cS0 (rest := []) (st1 := [.int q3]) C0 hW hl.1 (c_X6_in l G x1 (1 : Int32) (5 : Int32) _ hq3) cb_X6_in mm_X6_89 [] rfl rfl (by decide) rfl rfl (Nat.le_of_ble_eq_true rfl) ⟨Nat.zero_le _, Nat.zero_le _⟩ dX6_findings_3 rfl (fun H locs hW => ?_)
  refine lv_if_eq (tgt := 18) hx hb dX6_findings_6 (by decide) (fun c6_1 => ?_) (fun c6_1 => ?_)
  · replace hf := if_t c6_1 hf
    refine lv_iconst (v := -1) hx hb dX6_findings_18 (by decide) ?_
    have e1 := Option.some.inj hf
    subst e1
    have hF : ((-1 : Int32) : Int32) = out := hF
    subst hF
    exact k_iret C0 hW dX6_findings_19
  · replace hf := if_f c6_1 hf
    refine lv_aload_n hx hb dX6_findings_9 rfl (lv_at hl 0 rfl) ?_
    refine k_get C0 hW 6 4 0 (v := .ref (a (o + 1))) rfl (by decide) inX6 mf_X6_13 rfl rfl dX6_findings_10 ?_
    refine lv_iload_n hx hb dX6_findings_13 rfl (lv_at hl 1 rfl) ?_
    have g14_2 := (gd_some hf).1; replace hf := (gd_some hf).2
    refine k_iald C0 hW 1 (ix x1) rfl (inb_in g14_2) rfl dX6_findings_14 ?_
    refine lv_goto (tgt := 19) hx hb dX6_findings_15 (by decide) ?_
    have e1 := Option.some.inj hf
    subst e1
    have hF : (((md_came w) (ix x1)) : Int32) = out := hF
    subst hF
    exact k_iret C0 hW dX6_findings_19

def f_X6_gate_J94 (w : Md) (x1 : Int32) : Option (Int32 × Md) :=
  if x1 = (-9 : Int32) then (some ((-9 : Int32), w)) else (Option.bind (f_X6_bits x1) (fun q108 => Option.bind (f_X6_tells w x1 q108) (fun q111 => some (q111.1, q111.2))))
def f_X6_gate_J88 (w : Md) (x1 : Int32) (x2 : Int32) : Option ((Int32 × Int32 × Md) ⊕ (Int32 × Md)) :=
  some (Sum.inl (x1, (x2 + (-1 : Int32)), w))
def f_X6_gate_J87 (w : Md) (x2 : Int32) (t0 : Int32) : Option ((Int32 × Int32 × Md) ⊕ (Int32 × Md)) :=
  f_X6_gate_J88 w t0 x2
def f_X6_gate_J75 (w : Md) (x1 : Int32) (x2 : Int32) : Option ((Int32 × Int32 × Md) ⊕ (Int32 × Md)) :=
  Option.bind (f_X6_comes w) (fun q76 => if q76.1 = 0 then (f_X6_gate_J87 q76.2 x2 x1) else (f_X6_gate_J87 q76.2 x2 x2))
def f_X6_gate_J69 (w : Md) (x1 : Int32) (x2 : Int32) (x3 : Int32) : Option ((Int32 × Md) ⊕ ((Int32 × Int32 × Md) ⊕ (Int32 × Md))) :=
  some (Sum.inl ((x3 + (1 : Int32)), w))
def f_X6_gate_B45 (x1 : Int32) (x2 : Int32) (x3 : Int32) (w : Md) : Option ((Int32 × Md) ⊕ ((Int32 × Int32 × Md) ⊕ (Int32 × Md))) :=
  if (md_n w) ≤ x3 then (Option.map Sum.inr (f_X6_gate_J75 w x1 x2)) else (Option.bind (f_X6_has x2 x3) (fun q55 => if q55 = 0 then (f_X6_gate_J69 w x1 x2 x3) else (Option.bind (f_X6_puts 12 (md_tried w) x3) (fun q66 => f_X6_gate_J69 (md_set_tried w q66) x1 x2 x3))))
def f_X6_gate_L45 (x1 : Int32) (x2 : Int32) (sg : Int32 × Md) : Option ((Int32 × Md) ⊕ ((Int32 × Int32 × Md) ⊕ (Int32 × Md))) := f_X6_gate_B45 x1 x2 sg.1 sg.2
def f_X6_gate_J39 (w : Md) (x1 : Int32) (x2 : Int32) : Option ((Int32 × Int32 × Md) ⊕ (Int32 × Md)) :=
  Option.bind (f_X6_copyNow w) (fun q40 => lp (f_X6_gate_L45 x1 x2) fuel ((0 : Int32), q40))
def f_X6_gate_B18 (x1 : Int32) (x2 : Int32) (w : Md) : Option ((Int32 × Int32 × Md) ⊕ (Int32 × Md)) :=
  if x2 < 0 then (Option.map Sum.inr (f_X6_gate_J94 w x1)) else (if x1 = (-9 : Int32) then (f_X6_gate_J39 w x1 x2) else (Option.bind (f_X6_bits x2) (fun q29 => Option.bind (f_X6_bits x1) (fun q33 => if q33 < q29 then (f_X6_gate_J88 w x1 x2) else (f_X6_gate_J39 w x1 x2)))))
def f_X6_gate_L18 (sg : Int32 × Int32 × Md) : Option ((Int32 × Int32 × Md) ⊕ (Int32 × Md)) := f_X6_gate_B18 sg.1 sg.2.1 sg.2.2
def f_X6_gate (w : Md) : Option (Int32 × Md) :=
  if (md_n w) = 0 then (some ((-4 : Int32), w)) else (Option.bind (f_X6_all w) (fun q14 => lp (f_X6_gate_L18) fuel ((-9 : Int32), q14, w)))
set_option maxRecDepth 100000 in
set_option maxHeartbeats 1000000 in
theorem c_X6_gate (l : Launch) (G : GG) (a : Nat → Nat) (o : Nat) (w : Md) (out : Int32 × Md) (hf : f_X6_gate w = some out) : Cn l G 6 yX6_gate cX6_gate 4 (some .int) [.ref (a o)] (bMd G a o w) (some (.int out.1)) (bMd G a o out.2) := by
  refine cn_start (by decide) (Nat.le_of_ble_eq_true rfl) ?_
  intro p e s m below meth c A ls C0 hW hl
  have hx := C0.1
  have hb := C0.2.1
  have hl : lv_has ls 4 [(0, .ref (a o))] := hl
  have J94 : ∀ (x1 : Int32) (w : Md) (r : Int32 × Md), f_X6_gate_J94 w x1 = some r → (fun (r : Int32 × Md) => r = out) r → ∀ (H : Heap) (locs : List Loc) (ls : Array Slot), Wd G A s.heap H (bMd G a o w) locs → lv_has ls 4 [(0, .ref (a o)), (1, .int x1)] → WW p l e 6 s m [.ref (a o)] below meth c G A (some (.int out.1)) ((bMd G a o out.2)) H locs 94 ls [] := by
    intro x1 w r hf hF H locs ls hW hl
    unfold f_X6_gate_J94 at hf
    refine lv_iload_n hx hb dX6_gate_94 rfl (lv_at hl 1 rfl) ?_
    refine lv_bipush (v := -9) hx hb dX6_gate_95 (by decide) ?_
    refine lv_icmp_ne (tgt := 105) hx hb dX6_gate_97 (by decide) (fun c97_3 => ?_) (fun c97_3 => ?_)
    · replace hf := if_f c97_3 hf
      refine lv_aload_n hx hb dX6_gate_105 rfl (lv_at hl 0 rfl) ?_
      refine lv_iload_n hx hb dX6_gate_106 rfl (lv_at hl 1 rfl) ?_
      refine lv_iload_n hx hb dX6_gate_107 rfl (lv_at hl 1 rfl) ?_
      obtain ⟨q108, hq108⟩ := ob_s hf
      replace hf := hq108.2
      replace hq108 := hq108.1
      refine cS0 (rest := [.int x1, .ref (a o)]) (st1 := [.int q108, .int x1, .ref (a o)]) C0 hW hl.1 (c_X6_bits l G x1 _ hq108) cb_X6_bits mm_X6_216 [] rfl rfl (by decide) rfl rfl (Nat.le_of_ble_eq_true rfl) ⟨Nat.zero_le _, Nat.zero_le _⟩ dX6_gate_108 rfl (fun H locs hW => ?_)
      obtain ⟨q111, hq111⟩ := ob_s hf
      replace hf := hq111.2
      replace hq111 := hq111.1
      refine cW1 (rest := []) (ws1 := (bMd G a o q111.2)) (st1 := [.int q111.1]) C0 hW hl.1 (c_X6_tells l G a o w x1 q108 _ hq111) cb_X6_tells mm_X6_105 fst_Md 0 6 rfl rfl rfl (by decide) rfl rfl (Nat.le_of_ble_eq_true rfl) ⟨Nat.zero_le _, Nat.zero_le _⟩ dX6_gate_111 rfl (fun H locs hW => ?_)
      have e1 := Option.some.inj hf
      subst e1
      have hF : ((q111.1, q111.2) : Int32 × Md) = out := hF
      subst hF
      exact k_iret C0 hW dX6_gate_114
    · replace hf := if_t c97_3 hf
      refine lv_bipush (v := -9) hx hb dX6_gate_100 (by decide) ?_
      refine lv_goto (tgt := 114) hx hb dX6_gate_102 (by decide) ?_
      have e1 := Option.some.inj hf
      subst e1
      have hF : (((-9 : Int32), w) : Int32 × Md) = out := hF
      subst hF
      exact k_iret C0 hW dX6_gate_114
  have L18 : ∀ (k8 : Nat) (sg : Int32 × Int32 × Md) (o9 : Int32 × Md), lp (f_X6_gate_L18) k8 sg = some o9 → (fun (r : Int32 × Md) => r = out) o9 → (fun (sg : Int32 × Int32 × Md) => ∀ (H : Heap) (locs : List Loc) (ls : Array Slot), Wd G A s.heap H (bMd G a o sg.2.2) locs → lv_has ls 4 [(0, .ref (a o)), (1, .int sg.1), (2, .int sg.2.1)] → WW p l e 6 s m [.ref (a o)] below meth c G A (some (.int out.1)) ((bMd G a o out.2)) H locs 18 ls []) sg := by
    have J88 : ∀ (x1 : Int32) (x2 : Int32) (w : Md) (r : (Int32 × Int32 × Md) ⊕ (Int32 × Md)), f_X6_gate_J88 w x1 x2 = some r → (Sum.elim (fun (sg : Int32 × Int32 × Md) => ∀ (H : Heap) (locs : List Loc) (ls : Array Slot), Wd G A s.heap H (bMd G a o sg.2.2) locs → lv_has ls 4 [(0, .ref (a o)), (1, .int sg.1), (2, .int sg.2.1)] → WW p l e 6 s m [.ref (a o)] below meth c G A (some (.int out.1)) ((bMd G a o out.2)) H locs 18 ls []) (fun (r : Int32 × Md) => r = out)) r → ∀ (H : Heap) (locs : List Loc) (ls : Array Slot), Wd G A s.heap H (bMd G a o w) locs → lv_has ls 4 [(0, .ref (a o)), (1, .int x1), (2, .int x2)] → WW p l e 6 s m [.ref (a o)] below meth c G A (some (.int out.1)) ((bMd G a o out.2)) H locs 88 ls [] := by
      intro x1 x2 w r hf hF H locs ls hW hl
      unfold f_X6_gate_J88 at hf
      refine lv_iinc (v := (x2 + (-1 : Int32))) (lv' := [(2, .int (x2 + (-1 : Int32))), (0, .ref (a o)), (1, .int x1)]) hx hb dX6_gate_88 hl (k := 2) rfl rfl (by decide) rfl (fun ls hl => ?_)
      refine lv_goto (tgt := 18) hx hb dX6_gate_91 (by decide) ?_
      have e1 := Option.some.inj hf
      subst e1
      exact (elim_l hF) _ _ _ hW (lv_sub hl [1, 2, 0] rfl)
    have J87 : ∀ (x2 : Int32) (t0 : Int32) (w : Md) (r : (Int32 × Int32 × Md) ⊕ (Int32 × Md)), f_X6_gate_J87 w x2 t0 = some r → (Sum.elim (fun (sg : Int32 × Int32 × Md) => ∀ (H : Heap) (locs : List Loc) (ls : Array Slot), Wd G A s.heap H (bMd G a o sg.2.2) locs → lv_has ls 4 [(0, .ref (a o)), (1, .int sg.1), (2, .int sg.2.1)] → WW p l e 6 s m [.ref (a o)] below meth c G A (some (.int out.1)) ((bMd G a o out.2)) H locs 18 ls []) (fun (r : Int32 × Md) => r = out)) r → ∀ (H : Heap) (locs : List Loc) (ls : Array Slot), Wd G A s.heap H (bMd G a o w) locs → lv_has ls 4 [(0, .ref (a o)), (2, .int x2)] → WW p l e 6 s m [.ref (a o)] below meth c G A (some (.int out.1)) ((bMd G a o out.2)) H locs 87 ls [.int t0] := by
      intro x2 t0 w r hf hF H locs ls hW hl
      unfold f_X6_gate_J87 at hf
      refine lv_istore_n (lv' := [(1, .int t0), (0, .ref (a o)), (2, .int x2)]) hx hb dX6_gate_87 rfl hl (by decide) rfl (fun ls hl => ?_)
      exact J88 _ _ _ _ hf hF _ _ _ hW (lv_sub hl [1, 0, 2] rfl)
    have J75 : ∀ (x1 : Int32) (x2 : Int32) (w : Md) (r : (Int32 × Int32 × Md) ⊕ (Int32 × Md)), f_X6_gate_J75 w x1 x2 = some r → (Sum.elim (fun (sg : Int32 × Int32 × Md) => ∀ (H : Heap) (locs : List Loc) (ls : Array Slot), Wd G A s.heap H (bMd G a o sg.2.2) locs → lv_has ls 4 [(0, .ref (a o)), (1, .int sg.1), (2, .int sg.2.1)] → WW p l e 6 s m [.ref (a o)] below meth c G A (some (.int out.1)) ((bMd G a o out.2)) H locs 18 ls []) (fun (r : Int32 × Md) => r = out)) r → ∀ (H : Heap) (locs : List Loc) (ls : Array Slot), Wd G A s.heap H (bMd G a o w) locs → lv_has ls 4 [(0, .ref (a o)), (1, .int x1), (2, .int x2)] → WW p l e 6 s m [.ref (a o)] below meth c G A (some (.int out.1)) ((bMd G a o out.2)) H locs 75 ls [] := by
      intro x1 x2 w r hf hF H locs ls hW hl
      unfold f_X6_gate_J75 at hf
      refine lv_aload_n hx hb dX6_gate_75 rfl (lv_at hl 0 rfl) ?_
      obtain ⟨q76, hq76⟩ := ob_s hf
      replace hf := hq76.2
      replace hq76 := hq76.1
      refine cW1 (rest := []) (ws1 := (bMd G a o q76.2)) (st1 := [.int q76.1]) C0 hW hl.1 (c_X6_comes l G a o w _ hq76) cb_X6_comes mm_X6_219 fst_Md 0 6 rfl rfl rfl (by decide) rfl rfl (Nat.le_of_ble_eq_true rfl) ⟨Nat.zero_le _, Nat.zero_le _⟩ dX6_gate_76 rfl (fun H locs hW => ?_)
      refine lv_if_eq (tgt := 86) hx hb dX6_gate_79 (by decide) (fun c79_6 => ?_) (fun c79_6 => ?_)
      · replace hf := if_t c79_6 hf
        refine lv_iload_n hx hb dX6_gate_86 rfl (lv_at hl 1 rfl) ?_
        exact J87 _ _ _ _ hf hF _ _ _ hW (lv_sub hl [0, 2] rfl)
      · replace hf := if_f c79_6 hf
        refine lv_iload_n hx hb dX6_gate_82 rfl (lv_at hl 2 rfl) ?_
        refine lv_goto (tgt := 87) hx hb dX6_gate_83 (by decide) ?_
        exact J87 _ _ _ _ hf hF _ _ _ hW (lv_sub hl [0, 2] rfl)
    have L45 : ∀ (x1 : Int32) (x2 : Int32) (k8 : Nat) (sg : Int32 × Md) (o9 : (Int32 × Int32 × Md) ⊕ (Int32 × Md)), lp (f_X6_gate_L45 x1 x2) k8 sg = some o9 → (Sum.elim (fun (sg : Int32 × Int32 × Md) => ∀ (H : Heap) (locs : List Loc) (ls : Array Slot), Wd G A s.heap H (bMd G a o sg.2.2) locs → lv_has ls 4 [(0, .ref (a o)), (1, .int sg.1), (2, .int sg.2.1)] → WW p l e 6 s m [.ref (a o)] below meth c G A (some (.int out.1)) ((bMd G a o out.2)) H locs 18 ls []) (fun (r : Int32 × Md) => r = out)) o9 → (fun (sg : Int32 × Md) => ∀ (H : Heap) (locs : List Loc) (ls : Array Slot), Wd G A s.heap H (bMd G a o sg.2) locs → lv_has ls 4 [(0, .ref (a o)), (1, .int x1), (2, .int x2), (3, .int sg.1)] → WW p l e 6 s m [.ref (a o)] below meth c G A (some (.int out.1)) ((bMd G a o out.2)) H locs 45 ls []) sg := by
      intro x1 x2
      have J69 : ∀ (x3 : Int32) (w : Md) (r : (Int32 × Md) ⊕ ((Int32 × Int32 × Md) ⊕ (Int32 × Md))), f_X6_gate_J69 w x1 x2 x3 = some r → (Sum.elim (fun (sg : Int32 × Md) => ∀ (H : Heap) (locs : List Loc) (ls : Array Slot), Wd G A s.heap H (bMd G a o sg.2) locs → lv_has ls 4 [(0, .ref (a o)), (1, .int x1), (2, .int x2), (3, .int sg.1)] → WW p l e 6 s m [.ref (a o)] below meth c G A (some (.int out.1)) ((bMd G a o out.2)) H locs 45 ls []) (Sum.elim (fun (sg : Int32 × Int32 × Md) => ∀ (H : Heap) (locs : List Loc) (ls : Array Slot), Wd G A s.heap H (bMd G a o sg.2.2) locs → lv_has ls 4 [(0, .ref (a o)), (1, .int sg.1), (2, .int sg.2.1)] → WW p l e 6 s m [.ref (a o)] below meth c G A (some (.int out.1)) ((bMd G a o out.2)) H locs 18 ls []) (fun (r : Int32 × Md) => r = out))) r → ∀ (H : Heap) (locs : List Loc) (ls : Array Slot), Wd G A s.heap H (bMd G a o w) locs → lv_has ls 4 [(0, .ref (a o)), (1, .int x1), (2, .int x2), (3, .int x3)] → WW p l e 6 s m [.ref (a o)] below meth c G A (some (.int out.1)) ((bMd G a o out.2)) H locs 69 ls [] := by
        intro x3 w r hf hF H locs ls hW hl
        unfold f_X6_gate_J69 at hf
        refine lv_iinc (v := (x3 + (1 : Int32))) (lv' := [(3, .int (x3 + (1 : Int32))), (0, .ref (a o)), (1, .int x1), (2, .int x2)]) hx hb dX6_gate_69 hl (k := 3) rfl rfl (by decide) rfl (fun ls hl => ?_)
        refine lv_goto (tgt := 45) hx hb dX6_gate_72 (by decide) ?_
        have e1 := Option.some.inj hf
        subst e1
        exact (elim_l hF) _ _ _ hW (lv_sub hl [1, 2, 3, 0] rfl)
      have B45 : ∀ (x3 : Int32) (w : Md) (r : (Int32 × Md) ⊕ ((Int32 × Int32 × Md) ⊕ (Int32 × Md))), f_X6_gate_B45 x1 x2 x3 w = some r → (Sum.elim (fun (sg : Int32 × Md) => ∀ (H : Heap) (locs : List Loc) (ls : Array Slot), Wd G A s.heap H (bMd G a o sg.2) locs → lv_has ls 4 [(0, .ref (a o)), (1, .int x1), (2, .int x2), (3, .int sg.1)] → WW p l e 6 s m [.ref (a o)] below meth c G A (some (.int out.1)) ((bMd G a o out.2)) H locs 45 ls []) (Sum.elim (fun (sg : Int32 × Int32 × Md) => ∀ (H : Heap) (locs : List Loc) (ls : Array Slot), Wd G A s.heap H (bMd G a o sg.2.2) locs → lv_has ls 4 [(0, .ref (a o)), (1, .int sg.1), (2, .int sg.2.1)] → WW p l e 6 s m [.ref (a o)] below meth c G A (some (.int out.1)) ((bMd G a o out.2)) H locs 18 ls []) (fun (r : Int32 × Md) => r = out))) r → ∀ (H : Heap) (locs : List Loc) (ls : Array Slot), Wd G A s.heap H (bMd G a o w) locs → lv_has ls 4 [(0, .ref (a o)), (1, .int x1), (2, .int x2), (3, .int x3)] → WW p l e 6 s m [.ref (a o)] below meth c G A (some (.int out.1)) ((bMd G a o out.2)) H locs 45 ls [] := by
        intro x3 w r hf hF H locs ls hW hl
        unfold f_X6_gate_B45 at hf
        refine lv_iload_n hx hb dX6_gate_45 rfl (lv_at hl 3 rfl) ?_
        refine lv_aload_n hx hb dX6_gate_46 rfl (lv_at hl 0 rfl) ?_
        refine k_get C0 hW 6 18 0 (v := .int (md_n w)) rfl (by decide) inX6 mf_X6_142 rfl rfl dX6_gate_47 ?_
        refine lv_icmp_ge (tgt := 75) hx hb dX6_gate_50 (by decide) (fun c50_5 => ?_) (fun c50_5 => ?_)
        · replace hf := if_t c50_5 hf
          obtain ⟨r2, e2⟩ := om_s hf
          replace hf := e2.1
          replace e2 := e2.2
          subst e2
          replace hF := elim_r hF
          exact J75 _ _ _ _ hf hF _ _ _ hW (lv_sub hl [0, 1, 2] rfl)
        · replace hf := if_f c50_5 hf
          refine lv_iload_n hx hb dX6_gate_53 rfl (lv_at hl 2 rfl) ?_
          refine lv_iload_n hx hb dX6_gate_54 rfl (lv_at hl 3 rfl) ?_
          obtain ⟨q55, hq55⟩ := ob_s hf
          replace hf := hq55.2
          replace hq55 := hq55.1
          refine cS0 (rest := []) (st1 := [.int q55]) C0 hW hl.1 (c_X6_has l G x2 x3 _ hq55) cb_X6_has mm_X6_158 [] rfl rfl (by decide) rfl rfl (Nat.le_of_ble_eq_true rfl) ⟨Nat.zero_le _, Nat.zero_le _⟩ dX6_gate_55 rfl (fun H locs hW => ?_)
          refine lv_if_eq (tgt := 69) hx hb dX6_gate_58 (by decide) (fun c58_7 => ?_) (fun c58_7 => ?_)
          · replace hf := if_t c58_7 hf
            exact J69 _ _ _ hf hF _ _ _ hW (lv_sub hl [0, 1, 2, 3] rfl)
          · replace hf := if_f c58_7 hf
            refine lv_aload_n hx hb dX6_gate_61 rfl (lv_at hl 0 rfl) ?_
            refine k_get C0 hW 6 25 0 (v := .ref (a (o + 16))) rfl (by decide) inX6 mf_X6_60 rfl rfl dX6_gate_62 ?_
            refine lv_iload_n hx hb dX6_gate_65 rfl (lv_at hl 3 rfl) ?_
            obtain ⟨q66, hq66⟩ := ob_s hf
            replace hf := hq66.2
            replace hq66 := hq66.1
            refine cS1 (rest := []) (ws1 := (bMd G a o (md_set_tried w q66))) (st1 := []) C0 hW hl.1 (c_X6_puts l G (a (o + 16)) 12 (md_tried w) x3 _ hq66) cb_X6_puts mm_X6_199 [16] rfl rfl rfl (by decide) rfl rfl (Nat.le_of_ble_eq_true rfl) ⟨Nat.zero_le _, Nat.zero_le _⟩ dX6_gate_66 rfl rfl (fun H locs hW => ?_)
            exact J69 _ _ _ hf hF _ _ _ hW (lv_sub hl [0, 1, 2, 3] rfl)
      exact lp_sound (fun sg r hb hz => B45 sg.1 sg.2 r hb hz)
    have J39 : ∀ (x1 : Int32) (x2 : Int32) (w : Md) (r : (Int32 × Int32 × Md) ⊕ (Int32 × Md)), f_X6_gate_J39 w x1 x2 = some r → (Sum.elim (fun (sg : Int32 × Int32 × Md) => ∀ (H : Heap) (locs : List Loc) (ls : Array Slot), Wd G A s.heap H (bMd G a o sg.2.2) locs → lv_has ls 4 [(0, .ref (a o)), (1, .int sg.1), (2, .int sg.2.1)] → WW p l e 6 s m [.ref (a o)] below meth c G A (some (.int out.1)) ((bMd G a o out.2)) H locs 18 ls []) (fun (r : Int32 × Md) => r = out)) r → ∀ (H : Heap) (locs : List Loc) (ls : Array Slot), Wd G A s.heap H (bMd G a o w) locs → lv_has ls 4 [(0, .ref (a o)), (1, .int x1), (2, .int x2)] → WW p l e 6 s m [.ref (a o)] below meth c G A (some (.int out.1)) ((bMd G a o out.2)) H locs 39 ls [] := by
      intro x1 x2 w r hf hF H locs ls hW hl
      unfold f_X6_gate_J39 at hf
      refine lv_aload_n hx hb dX6_gate_39 rfl (lv_at hl 0 rfl) ?_
      obtain ⟨q40, hq40⟩ := ob_s hf
      replace hf := hq40.2
      replace hq40 := hq40.1
      refine cW1 (rest := []) (ws1 := (bMd G a o q40)) (st1 := []) C0 hW hl.1 (c_X6_copyNow l G a o w _ hq40) cb_X6_copyNow mm_X6_203 fst_Md 0 6 rfl rfl rfl (by decide) rfl rfl (Nat.le_of_ble_eq_true rfl) ⟨Nat.zero_le _, Nat.zero_le _⟩ dX6_gate_40 rfl (fun H locs hW => ?_)
      refine lv_iconst (v := 0) hx hb dX6_gate_43 (by decide) ?_
      refine lv_istore_n (lv' := [(3, .int (0 : Int32)), (0, .ref (a o)), (1, .int x1), (2, .int x2)]) hx hb dX6_gate_44 rfl hl (by decide) rfl (fun ls hl => ?_)
      exact L45 _ _ fuel ((0 : Int32), q40) _ hf hF _ _ _ hW (lv_sub hl [1, 2, 3, 0] rfl)
    have B18 : ∀ (x1 : Int32) (x2 : Int32) (w : Md) (r : (Int32 × Int32 × Md) ⊕ (Int32 × Md)), f_X6_gate_B18 x1 x2 w = some r → (Sum.elim (fun (sg : Int32 × Int32 × Md) => ∀ (H : Heap) (locs : List Loc) (ls : Array Slot), Wd G A s.heap H (bMd G a o sg.2.2) locs → lv_has ls 4 [(0, .ref (a o)), (1, .int sg.1), (2, .int sg.2.1)] → WW p l e 6 s m [.ref (a o)] below meth c G A (some (.int out.1)) ((bMd G a o out.2)) H locs 18 ls []) (fun (r : Int32 × Md) => r = out)) r → ∀ (H : Heap) (locs : List Loc) (ls : Array Slot), Wd G A s.heap H (bMd G a o w) locs → lv_has ls 4 [(0, .ref (a o)), (1, .int x1), (2, .int x2)] → WW p l e 6 s m [.ref (a o)] below meth c G A (some (.int out.1)) ((bMd G a o out.2)) H locs 18 ls [] := by
      intro x1 x2 w r hf hF H locs ls hW hl
      unfold f_X6_gate_B18 at hf
      refine lv_iload_n hx hb dX6_gate_18 rfl (lv_at hl 2 rfl) ?_
      refine lv_if_lt (tgt := 94) hx hb dX6_gate_19 (by decide) (fun c19_2 => ?_) (fun c19_2 => ?_)
      · replace hf := if_t c19_2 hf
        obtain ⟨r2, e2⟩ := om_s hf
        replace hf := e2.1
        replace e2 := e2.2
        subst e2
        replace hF := elim_r hF
        exact J94 _ _ _ hf hF _ _ _ hW (lv_sub hl [0, 1] rfl)
      · replace hf := if_f c19_2 hf
        refine lv_iload_n hx hb dX6_gate_22 rfl (lv_at hl 1 rfl) ?_
        refine lv_bipush (v := -9) hx hb dX6_gate_23 (by decide) ?_
        refine lv_icmp_eq (tgt := 39) hx hb dX6_gate_25 (by decide) (fun c25_4 => ?_) (fun c25_4 => ?_)
        · replace hf := if_t c25_4 hf
          exact J39 _ _ _ _ hf hF _ _ _ hW (lv_sub hl [0, 1, 2] rfl)
        · replace hf := if_f c25_4 hf
          refine lv_iload_n hx hb dX6_gate_28 rfl (lv_at hl 2 rfl) ?_
          obtain ⟨q29, hq29⟩ := ob_s hf
          replace hf := hq29.2
          replace hq29 := hq29.1
          refine cS0 (rest := []) (st1 := [.int q29]) C0 hW hl.1 (c_X6_bits l G x2 _ hq29) cb_X6_bits mm_X6_216 [] rfl rfl (by decide) rfl rfl (Nat.le_of_ble_eq_true rfl) ⟨Nat.zero_le _, Nat.zero_le _⟩ dX6_gate_29 rfl (fun H locs hW => ?_)
          refine lv_iload_n hx hb dX6_gate_32 rfl (lv_at hl 1 rfl) ?_
          obtain ⟨q33, hq33⟩ := ob_s hf
          replace hf := hq33.2
          replace hq33 := hq33.1
          refine cS0 (rest := [.int q29]) (st1 := [.int q33, .int q29]) C0 hW hl.1 (c_X6_bits l G x1 _ hq33) cb_X6_bits mm_X6_216 [] rfl rfl (by decide) rfl rfl (Nat.le_of_ble_eq_true rfl) ⟨Nat.zero_le _, Nat.zero_le _⟩ dX6_gate_33 rfl (fun H locs hW => ?_)
          refine lv_icmp_gt (tgt := 88) hx hb dX6_gate_36 (by decide) (fun c36_8 => ?_) (fun c36_8 => ?_)
          · replace hf := if_t c36_8 hf
            exact J88 _ _ _ _ hf hF _ _ _ hW (lv_sub hl [0, 1, 2] rfl)
          · replace hf := if_f c36_8 hf
            exact J39 _ _ _ _ hf hF _ _ _ hW (lv_sub hl [0, 1, 2] rfl)
    exact lp_sound (fun sg r hb hz => B18 sg.1 sg.2.1 sg.2.2 r hb hz)
  obtain ⟨r, hr⟩ : ∃ r, f_X6_gate w = some r ∧ r = out := ⟨out, hf, rfl⟩
  replace hf := hr.1
  have hF := hr.2
  clear hr
  unfold f_X6_gate at hf
  refine lv_aload_n hx hb dX6_gate_0 rfl (lv_at hl 0 rfl) ?_
  refine k_get C0 hW 6 18 0 (v := .int (md_n w)) rfl (by decide) inX6 mf_X6_142 rfl rfl dX6_gate_1 ?_
  refine lv_if_ne (tgt := 10) hx hb dX6_gate_4 (by decide) (fun c4_1 => ?_) (fun c4_1 => ?_)
  · replace hf := if_f c4_1 hf
    refine lv_bipush (v := -9) hx hb dX6_gate_10 (by decide) ?_
    refine lv_istore_n (lv' := [(1, .int (-9 : Int32)), (0, .ref (a o))]) hx hb dX6_gate_12 rfl hl (by decide) rfl (fun ls hl => ?_)
    refine lv_aload_n hx hb dX6_gate_13 rfl (lv_at hl 1 rfl) ?_
    obtain ⟨q14, hq14⟩ := ob_s hf
    replace hf := hq14.2
    replace hq14 := hq14.1
    refine cW1 (rest := []) (ws1 := (bMd G a o w)) (st1 := [.int q14]) C0 hW hl.1 (c_X6_all l G a o w _ hq14) cb_X6_all mm_X6_210 fst_Md 0 6 rfl rfl rfl (by decide) rfl rfl (Nat.le_of_ble_eq_true rfl) ⟨Nat.zero_le _, Nat.zero_le _⟩ dX6_gate_14 rfl (fun H locs hW => ?_)
    refine lv_istore_n (lv' := [(2, .int q14), (1, .int (-9 : Int32)), (0, .ref (a o))]) hx hb dX6_gate_17 rfl hl (by decide) rfl (fun ls hl => ?_)
    exact L18  fuel ((-9 : Int32), q14, w) _ hf hF _ _ _ hW (lv_sub hl [2, 1, 0] rfl)
  · replace hf := if_t c4_1 hf
    refine lv_bipush (v := -4) hx hb dX6_gate_7 (by decide) ?_
    have e1 := Option.some.inj hf
    subst e1
    have hF : (((-4 : Int32), w) : Int32 × Md) = out := hF
    subst hF
    exact k_iret C0 hW dX6_gate_9

def f_X6_goes (w : Md) (x1 : Int32) : Option (Int32 × Md) :=
  Option.bind (f_X6_in x1 (0 : Int32) (60 : Int32)) (fun q4 => if q4 = 0 then (some ((-1 : Int32), w)) else (if (md_n w) = 0 then (some ((-4 : Int32), w)) else (Option.bind (f_X6_copyNow w) (fun q23 => Option.bind (f_X6_limpsIn q23 x1 (0 : Int32)) (fun q29 => Option.bind (f_X6_tells q29.2 q29.1 ((md_tried q29.2) 0)) (fun q41 => some (q41.1, q41.2)))))))
set_option maxRecDepth 100000 in
set_option maxHeartbeats 1000000 in
theorem c_X6_goes (l : Launch) (G : GG) (a : Nat → Nat) (o : Nat) (w : Md) (x1 : Int32) (out : Int32 × Md) (hf : f_X6_goes w x1 = some out) : Cn l G 5 yX6_goes cX6_goes 3 (some .int) [.ref (a o), .int x1] (bMd G a o w) (some (.int out.1)) (bMd G a o out.2) := by
  refine cn_start (by decide) (Nat.le_of_ble_eq_true rfl) ?_
  intro p e s m below meth c A ls C0 hW hl
  have hx := C0.1
  have hb := C0.2.1
  have hl : lv_has ls 3 [(0, .ref (a o)), (1, .int x1)] := hl
  obtain ⟨r, hr⟩ : ∃ r, f_X6_goes w x1 = some r ∧ r = out := ⟨out, hf, rfl⟩
  replace hf := hr.1
  have hF := hr.2
  clear hr
  unfold f_X6_goes at hf
  refine lv_iload_n hx hb dX6_goes_0 rfl (lv_at hl 1 rfl) ?_
  refine lv_iconst (v := 0) hx hb dX6_goes_1 (by decide) ?_
  refine lv_bipush (v := 60) hx hb dX6_goes_2 (by decide) ?_
  obtain ⟨q4, hq4⟩ := ob_s hf
  replace hf := hq4.2
  replace hq4 := hq4.1
  refine cS0 (rest := []) (st1 := [.int q4]) C0 hW hl.1 (c_X6_in l G x1 (0 : Int32) (60 : Int32) _ hq4) cb_X6_in mm_X6_89 [] rfl rfl (by decide) rfl rfl (Nat.le_of_ble_eq_true rfl) ⟨Nat.zero_le _, Nat.zero_le _⟩ dX6_goes_4 rfl (fun H locs hW => ?_)
  refine lv_if_ne (tgt := 12) hx hb dX6_goes_7 (by decide) (fun c7_1 => ?_) (fun c7_1 => ?_)
  · replace hf := if_f c7_1 hf
    refine lv_aload_n hx hb dX6_goes_12 rfl (lv_at hl 0 rfl) ?_
    refine k_get C0 hW 6 18 0 (v := .int (md_n w)) rfl (by decide) inX6 mf_X6_142 rfl rfl dX6_goes_13 ?_
    refine lv_if_ne (tgt := 22) hx hb dX6_goes_16 (by decide) (fun c16_2 => ?_) (fun c16_2 => ?_)
    · replace hf := if_f c16_2 hf
      refine lv_aload_n hx hb dX6_goes_22 rfl (lv_at hl 0 rfl) ?_
      obtain ⟨q23, hq23⟩ := ob_s hf
      replace hf := hq23.2
      replace hq23 := hq23.1
      refine cW1 (rest := []) (ws1 := (bMd G a o q23)) (st1 := []) C0 hW hl.1 (c_X6_copyNow l G a o w _ hq23) cb_X6_copyNow mm_X6_203 fst_Md 0 6 rfl rfl rfl (by decide) rfl rfl (Nat.le_of_ble_eq_true rfl) ⟨Nat.zero_le _, Nat.zero_le _⟩ dX6_goes_23 rfl (fun H locs hW => ?_)
      refine lv_aload_n hx hb dX6_goes_26 rfl (lv_at hl 0 rfl) ?_
      refine lv_iload_n hx hb dX6_goes_27 rfl (lv_at hl 1 rfl) ?_
      refine lv_iconst (v := 0) hx hb dX6_goes_28 (by decide) ?_
      obtain ⟨q29, hq29⟩ := ob_s hf
      replace hf := hq29.2
      replace hq29 := hq29.1
      refine cW1 (rest := []) (ws1 := (bMd G a o q29.2)) (st1 := [.int q29.1]) C0 hW hl.1 (c_X6_limpsIn l G a o q23 x1 (0 : Int32) _ hq29) cb_X6_limpsIn mm_X6_206 fst_Md 0 6 rfl rfl rfl (by decide) rfl rfl (Nat.le_of_ble_eq_true rfl) ⟨Nat.zero_le _, Nat.zero_le _⟩ dX6_goes_29 rfl (fun H locs hW => ?_)
      refine lv_istore_n (lv' := [(2, .int q29.1), (0, .ref (a o)), (1, .int x1)]) hx hb dX6_goes_32 rfl hl (by decide) rfl (fun ls hl => ?_)
      refine lv_aload_n hx hb dX6_goes_33 rfl (lv_at hl 1 rfl) ?_
      refine lv_iload_n hx hb dX6_goes_34 rfl (lv_at hl 0 rfl) ?_
      refine lv_aload_n hx hb dX6_goes_35 rfl (lv_at hl 1 rfl) ?_
      refine k_get C0 hW 6 25 0 (v := .ref (a (o + 16))) rfl (by decide) inX6 mf_X6_60 rfl rfl dX6_goes_36 ?_
      refine lv_iconst (v := 0) hx hb dX6_goes_39 (by decide) ?_
      refine k_iald C0 hW 16 0 rfl (inb_in rfl) rfl dX6_goes_40 ?_
      obtain ⟨q41, hq41⟩ := ob_s hf
      replace hf := hq41.2
      replace hq41 := hq41.1
      refine cW1 (rest := []) (ws1 := (bMd G a o q41.2)) (st1 := [.int q41.1]) C0 hW hl.1 (c_X6_tells l G a o q29.2 q29.1 ((md_tried q29.2) 0) _ hq41) cb_X6_tells mm_X6_105 fst_Md 0 6 rfl rfl rfl (by decide) rfl rfl (Nat.le_of_ble_eq_true rfl) ⟨Nat.zero_le _, Nat.zero_le _⟩ dX6_goes_41 rfl (fun H locs hW => ?_)
      have e1 := Option.some.inj hf
      subst e1
      have hF : ((q41.1, q41.2) : Int32 × Md) = out := hF
      subst hF
      exact k_iret C0 hW dX6_goes_44
    · replace hf := if_t c16_2 hf
      refine lv_bipush (v := -4) hx hb dX6_goes_19 (by decide) ?_
      have e1 := Option.some.inj hf
      subst e1
      have hF : (((-4 : Int32), w) : Int32 × Md) = out := hF
      subst hF
      exact k_iret C0 hW dX6_goes_21
  · replace hf := if_t c7_1 hf
    refine lv_iconst (v := -1) hx hb dX6_goes_10 (by decide) ?_
    have e1 := Option.some.inj hf
    subst e1
    have hF : (((-1 : Int32), w) : Int32 × Md) = out := hF
    subst hF
    exact k_iret C0 hW dX6_goes_11

def f_X6_needLimps_J80 (w : Md) (x2 : Int32) : Option (Int32 × Md) :=
  if x2 = 0 then (Option.bind (f_X6_meets w (3 : Int32)) (fun q90 => some (q90.1, q90.2))) else (some ((0 : Int32), w))
def f_X6_needLimps_J73 (w : Md) (x1 : Int32) (x3 : Int32) (t0 : Int32) : Option ((Int32 × Int32) ⊕ (Int32 × Md)) :=
  some (Sum.inl (t0, (x3 + (1 : Int32))))
def f_X6_needLimps_J72 (w : Md) (x1 : Int32) (x3 : Int32) : Option ((Int32 × Int32) ⊕ (Int32 × Md)) :=
  f_X6_needLimps_J73 w x1 x3 (0 : Int32)
def f_X6_needLimps_B40 (w : Md) (x1 : Int32) (x2 : Int32) (x3 : Int32) : Option ((Int32 × Int32) ⊕ (Int32 × Md)) :=
  gd (inb x1 6) (if ((md_sizes w) (ix x1)) ≤ x3 then (Option.map Sum.inr (f_X6_needLimps_J80 w x2)) else (if x2 = 0 then (f_X6_needLimps_J72 w x1 x3) else (Option.bind (f_X6_rowAt w x1 x3) (fun q57 => Option.bind (f_X6_in q57 (0 : Int32) (1 : Int32)) (fun q62 => if q62 = 0 then (f_X6_needLimps_J72 w x1 x3) else (f_X6_needLimps_J73 w x1 x3 (1 : Int32)))))))
def f_X6_needLimps_L40 (w : Md) (x1 : Int32) (sg : Int32 × Int32) : Option ((Int32 × Int32) ⊕ (Int32 × Md)) := f_X6_needLimps_B40 w x1 sg.1 sg.2
def f_X6_needLimps (w : Md) (x1 : Int32) : Option (Int32 × Md) :=
  gd (inb x1 6) (if 0 ≤ ((md_sizes w) (ix x1)) then (gd (inb x1 6) (Option.bind (f_X6_in ((md_sizes w) (ix x1)) (1 : Int32) (20 : Int32)) (fun q24 => if q24 = 0 then (Option.bind (f_X6_meets w (5 : Int32)) (fun q32 => some (q32.1, q32.2))) else (lp (f_X6_needLimps_L40 w x1) fuel ((1 : Int32), (0 : Int32)))))) else (Option.bind (f_X6_meets w (1 : Int32)) (fun q11 => some (q11.1, q11.2))))
set_option maxRecDepth 100000 in
set_option maxHeartbeats 1000000 in
theorem c_X6_needLimps (l : Launch) (G : GG) (a : Nat → Nat) (o : Nat) (w : Md) (x1 : Int32) (out : Int32 × Md) (hf : f_X6_needLimps w x1 = some out) : Cn l G 1 yX6_needLimps cX6_needLimps 4 (some .int) [.ref (a o), .int x1] (bMd G a o w) (some (.int out.1)) (bMd G a o out.2) := by
  refine cn_start (by decide) (Nat.le_of_ble_eq_true rfl) ?_
  intro p e s m below meth c A ls C0 hW hl
  have hx := C0.1
  have hb := C0.2.1
  have hl : lv_has ls 4 [(0, .ref (a o)), (1, .int x1)] := hl
  have J80 : ∀ (x2 : Int32) (w : Md) (r : Int32 × Md), f_X6_needLimps_J80 w x2 = some r → (fun (r : Int32 × Md) => r = out) r → ∀ (H : Heap) (locs : List Loc) (ls : Array Slot), Wd G A s.heap H (bMd G a o w) locs → lv_has ls 4 [(0, .ref (a o)), (2, .int x2)] → WW p l e 1 s m [.ref (a o), .int x1] below meth c G A (some (.int out.1)) ((bMd G a o out.2)) H locs 80 ls [] := by
    intro x2 w r hf hF H locs ls hW hl
    unfold f_X6_needLimps_J80 at hf
    refine lv_iload_n hx hb dX6_needLimps_80 rfl (lv_at hl 1 rfl) ?_
    refine lv_if_eq (tgt := 88) hx hb dX6_needLimps_81 (by decide) (fun c81_7 => ?_) (fun c81_7 => ?_)
    · replace hf := if_t c81_7 hf
      refine lv_aload_n hx hb dX6_needLimps_88 rfl (lv_at hl 0 rfl) ?_
      refine lv_iconst (v := 3) hx hb dX6_needLimps_89 (by decide) ?_
      obtain ⟨q90, hq90⟩ := ob_s hf
      replace hf := hq90.2
      replace hq90 := hq90.1
      refine cW1 (rest := []) (ws1 := (bMd G a o q90.2)) (st1 := [.int q90.1]) C0 hW hl.1 (c_X6_meets l G a o w (3 : Int32) _ hq90) cb_X6_meets mm_X6_97 fst_Md 0 6 rfl rfl rfl (by decide) rfl rfl (Nat.le_of_ble_eq_true rfl) ⟨Nat.zero_le _, Nat.zero_le _⟩ dX6_needLimps_90 rfl (fun H locs hW => ?_)
      have e1 := Option.some.inj hf
      subst e1
      have hF : ((q90.1, q90.2) : Int32 × Md) = out := hF
      subst hF
      exact k_iret C0 hW dX6_needLimps_93
    · replace hf := if_f c81_7 hf
      refine lv_iconst (v := 0) hx hb dX6_needLimps_84 (by decide) ?_
      refine lv_goto (tgt := 93) hx hb dX6_needLimps_85 (by decide) ?_
      have e1 := Option.some.inj hf
      subst e1
      have hF : (((0 : Int32), w) : Int32 × Md) = out := hF
      subst hF
      exact k_iret C0 hW dX6_needLimps_93
  have L40 : ∀ (w : Md) (k8 : Nat) (sg : Int32 × Int32) (o9 : Int32 × Md), lp (f_X6_needLimps_L40 w x1) k8 sg = some o9 → (fun (r : Int32 × Md) => r = out) o9 → (fun (sg : Int32 × Int32) => ∀ (H : Heap) (locs : List Loc) (ls : Array Slot), Wd G A s.heap H (bMd G a o w) locs → lv_has ls 4 [(0, .ref (a o)), (1, .int x1), (2, .int sg.1), (3, .int sg.2)] → WW p l e 1 s m [.ref (a o), .int x1] below meth c G A (some (.int out.1)) ((bMd G a o out.2)) H locs 40 ls []) sg := by
    intro w
    have J73 : ∀ (x3 : Int32) (t0 : Int32) (r : (Int32 × Int32) ⊕ (Int32 × Md)), f_X6_needLimps_J73 w x1 x3 t0 = some r → (Sum.elim (fun (sg : Int32 × Int32) => ∀ (H : Heap) (locs : List Loc) (ls : Array Slot), Wd G A s.heap H (bMd G a o w) locs → lv_has ls 4 [(0, .ref (a o)), (1, .int x1), (2, .int sg.1), (3, .int sg.2)] → WW p l e 1 s m [.ref (a o), .int x1] below meth c G A (some (.int out.1)) ((bMd G a o out.2)) H locs 40 ls []) (fun (r : Int32 × Md) => r = out)) r → ∀ (H : Heap) (locs : List Loc) (ls : Array Slot), Wd G A s.heap H (bMd G a o w) locs → lv_has ls 4 [(0, .ref (a o)), (1, .int x1), (3, .int x3)] → WW p l e 1 s m [.ref (a o), .int x1] below meth c G A (some (.int out.1)) ((bMd G a o out.2)) H locs 73 ls [.int t0] := by
      intro x3 t0 r hf hF H locs ls hW hl
      unfold f_X6_needLimps_J73 at hf
      refine lv_istore_n (lv' := [(2, .int t0), (0, .ref (a o)), (1, .int x1), (3, .int x3)]) hx hb dX6_needLimps_73 rfl hl (by decide) rfl (fun ls hl => ?_)
      refine lv_iinc (v := (x3 + (1 : Int32))) (lv' := [(3, .int (x3 + (1 : Int32))), (2, .int t0), (0, .ref (a o)), (1, .int x1)]) hx hb dX6_needLimps_74 hl (k := 3) rfl rfl (by decide) rfl (fun ls hl => ?_)
      refine lv_goto (tgt := 40) hx hb dX6_needLimps_77 (by decide) ?_
      have e1 := Option.some.inj hf
      subst e1
      exact (elim_l hF) _ _ _ hW (lv_sub hl [2, 3, 1, 0] rfl)
    have J72 : ∀ (x3 : Int32) (r : (Int32 × Int32) ⊕ (Int32 × Md)), f_X6_needLimps_J72 w x1 x3 = some r → (Sum.elim (fun (sg : Int32 × Int32) => ∀ (H : Heap) (locs : List Loc) (ls : Array Slot), Wd G A s.heap H (bMd G a o w) locs → lv_has ls 4 [(0, .ref (a o)), (1, .int x1), (2, .int sg.1), (3, .int sg.2)] → WW p l e 1 s m [.ref (a o), .int x1] below meth c G A (some (.int out.1)) ((bMd G a o out.2)) H locs 40 ls []) (fun (r : Int32 × Md) => r = out)) r → ∀ (H : Heap) (locs : List Loc) (ls : Array Slot), Wd G A s.heap H (bMd G a o w) locs → lv_has ls 4 [(0, .ref (a o)), (1, .int x1), (3, .int x3)] → WW p l e 1 s m [.ref (a o), .int x1] below meth c G A (some (.int out.1)) ((bMd G a o out.2)) H locs 72 ls [] := by
      intro x3 r hf hF H locs ls hW hl
      unfold f_X6_needLimps_J72 at hf
      refine lv_iconst (v := 0) hx hb dX6_needLimps_72 (by decide) ?_
      exact J73 _ _ _ hf hF _ _ _ hW (lv_sub hl [0, 1, 2] rfl)
    have B40 : ∀ (x2 : Int32) (x3 : Int32) (r : (Int32 × Int32) ⊕ (Int32 × Md)), f_X6_needLimps_B40 w x1 x2 x3 = some r → (Sum.elim (fun (sg : Int32 × Int32) => ∀ (H : Heap) (locs : List Loc) (ls : Array Slot), Wd G A s.heap H (bMd G a o w) locs → lv_has ls 4 [(0, .ref (a o)), (1, .int x1), (2, .int sg.1), (3, .int sg.2)] → WW p l e 1 s m [.ref (a o), .int x1] below meth c G A (some (.int out.1)) ((bMd G a o out.2)) H locs 40 ls []) (fun (r : Int32 × Md) => r = out)) r → ∀ (H : Heap) (locs : List Loc) (ls : Array Slot), Wd G A s.heap H (bMd G a o w) locs → lv_has ls 4 [(0, .ref (a o)), (1, .int x1), (2, .int x2), (3, .int x3)] → WW p l e 1 s m [.ref (a o), .int x1] below meth c G A (some (.int out.1)) ((bMd G a o out.2)) H locs 40 ls [] := by
      intro x2 x3 r hf hF H locs ls hW hl
      unfold f_X6_needLimps_B40 at hf
      refine lv_iload_n hx hb dX6_needLimps_40 rfl (lv_at hl 3 rfl) ?_
      refine lv_aload_n hx hb dX6_needLimps_41 rfl (lv_at hl 0 rfl) ?_
      refine k_get C0 hW 6 5 0 (v := .ref (a (o + 2))) rfl (by decide) inX6 mf_X6_17 rfl rfl dX6_needLimps_42 ?_
      refine lv_iload_n hx hb dX6_needLimps_45 rfl (lv_at hl 1 rfl) ?_
      have g46_5 := (gd_some hf).1; replace hf := (gd_some hf).2
      refine k_iald C0 hW 2 (ix x1) rfl (inb_in g46_5) rfl dX6_needLimps_46 ?_
      refine lv_icmp_ge (tgt := 80) hx hb dX6_needLimps_47 (by decide) (fun c47_6 => ?_) (fun c47_6 => ?_)
      · replace hf := if_t c47_6 hf
        obtain ⟨r2, e2⟩ := om_s hf
        replace hf := e2.1
        replace e2 := e2.2
        subst e2
        replace hF := elim_r hF
        exact J80 _ _ _ hf hF _ _ _ hW (lv_sub hl [0, 2] rfl)
      · replace hf := if_f c47_6 hf
        refine lv_iload_n hx hb dX6_needLimps_50 rfl (lv_at hl 2 rfl) ?_
        refine lv_if_eq (tgt := 72) hx hb dX6_needLimps_51 (by decide) (fun c51_8 => ?_) (fun c51_8 => ?_)
        · replace hf := if_t c51_8 hf
          exact J72 _ _ hf hF _ _ _ hW (lv_sub hl [0, 1, 3] rfl)
        · replace hf := if_f c51_8 hf
          refine lv_aload_n hx hb dX6_needLimps_54 rfl (lv_at hl 0 rfl) ?_
          refine lv_iload_n hx hb dX6_needLimps_55 rfl (lv_at hl 1 rfl) ?_
          refine lv_iload_n hx hb dX6_needLimps_56 rfl (lv_at hl 3 rfl) ?_
          obtain ⟨q57, hq57⟩ := ob_s hf
          replace hf := hq57.2
          replace hq57 := hq57.1
          refine cW1 (rest := []) (ws1 := (bMd G a o w)) (st1 := [.int q57]) C0 hW hl.1 (c_X6_rowAt l G a o w x1 x3 _ hq57) cb_X6_rowAt mm_X6_101 fst_Md 0 6 rfl rfl rfl (by decide) rfl rfl (Nat.le_of_ble_eq_true rfl) ⟨Nat.zero_le _, Nat.zero_le _⟩ dX6_needLimps_57 rfl (fun H locs hW => ?_)
          refine lv_iconst (v := 0) hx hb dX6_needLimps_60 (by decide) ?_
          refine lv_iconst (v := 1) hx hb dX6_needLimps_61 (by decide) ?_
          obtain ⟨q62, hq62⟩ := ob_s hf
          replace hf := hq62.2
          replace hq62 := hq62.1
          refine cS0 (rest := []) (st1 := [.int q62]) C0 hW hl.1 (c_X6_in l G q57 (0 : Int32) (1 : Int32) _ hq62) cb_X6_in mm_X6_89 [] rfl rfl (by decide) rfl rfl (Nat.le_of_ble_eq_true rfl) ⟨Nat.zero_le _, Nat.zero_le _⟩ dX6_needLimps_62 rfl (fun H locs hW => ?_)
          refine lv_if_eq (tgt := 72) hx hb dX6_needLimps_65 (by decide) (fun c65_9 => ?_) (fun c65_9 => ?_)
          · replace hf := if_t c65_9 hf
            exact J72 _ _ hf hF _ _ _ hW (lv_sub hl [0, 1, 3] rfl)
          · replace hf := if_f c65_9 hf
            refine lv_iconst (v := 1) hx hb dX6_needLimps_68 (by decide) ?_
            refine lv_goto (tgt := 73) hx hb dX6_needLimps_69 (by decide) ?_
            exact J73 _ _ _ hf hF _ _ _ hW (lv_sub hl [0, 1, 3] rfl)
    exact lp_sound (fun sg r hb hz => B40 sg.1 sg.2 r hb hz)
  obtain ⟨r, hr⟩ : ∃ r, f_X6_needLimps w x1 = some r ∧ r = out := ⟨out, hf, rfl⟩
  replace hf := hr.1
  have hF := hr.2
  clear hr
  unfold f_X6_needLimps at hf
  refine lv_aload_n hx hb dX6_needLimps_0 rfl (lv_at hl 0 rfl) ?_
  refine k_get C0 hW 6 5 0 (v := .ref (a (o + 2))) rfl (by decide) inX6 mf_X6_17 rfl rfl dX6_needLimps_1 ?_
  refine lv_iload_n hx hb dX6_needLimps_4 rfl (lv_at hl 1 rfl) ?_
  have g5_1 := (gd_some hf).1; replace hf := (gd_some hf).2
  refine k_iald C0 hW 2 (ix x1) rfl (inb_in g5_1) rfl dX6_needLimps_5 ?_
  refine lv_if_ge (tgt := 15) hx hb dX6_needLimps_6 (by decide) (fun c6_2 => ?_) (fun c6_2 => ?_)
  · replace hf := if_t c6_2 hf
    refine lv_aload_n hx hb dX6_needLimps_15 rfl (lv_at hl 0 rfl) ?_
    refine k_get C0 hW 6 5 0 (v := .ref (a (o + 2))) rfl (by decide) inX6 mf_X6_17 rfl rfl dX6_needLimps_16 ?_
    refine lv_iload_n hx hb dX6_needLimps_19 rfl (lv_at hl 1 rfl) ?_
    have g20_3 := (gd_some hf).1; replace hf := (gd_some hf).2
    refine k_iald C0 hW 2 (ix x1) rfl (inb_in g20_3) rfl dX6_needLimps_20 ?_
    refine lv_iconst (v := 1) hx hb dX6_needLimps_21 (by decide) ?_
    refine lv_bipush (v := 20) hx hb dX6_needLimps_22 (by decide) ?_
    obtain ⟨q24, hq24⟩ := ob_s hf
    replace hf := hq24.2
    replace hq24 := hq24.1
    refine cS0 (rest := []) (st1 := [.int q24]) C0 hW hl.1 (c_X6_in l G ((md_sizes w) (ix x1)) (1 : Int32) (20 : Int32) _ hq24) cb_X6_in mm_X6_89 [] rfl rfl (by decide) rfl rfl (Nat.le_of_ble_eq_true rfl) ⟨Nat.zero_le _, Nat.zero_le _⟩ dX6_needLimps_24 rfl (fun H locs hW => ?_)
    refine lv_if_ne (tgt := 36) hx hb dX6_needLimps_27 (by decide) (fun c27_4 => ?_) (fun c27_4 => ?_)
    · replace hf := if_f c27_4 hf
      refine lv_iconst (v := 1) hx hb dX6_needLimps_36 (by decide) ?_
      refine lv_istore_n (lv' := [(2, .int (1 : Int32)), (0, .ref (a o)), (1, .int x1)]) hx hb dX6_needLimps_37 rfl hl (by decide) rfl (fun ls hl => ?_)
      refine lv_iconst (v := 0) hx hb dX6_needLimps_38 (by decide) ?_
      refine lv_istore_n (lv' := [(3, .int (0 : Int32)), (2, .int (1 : Int32)), (0, .ref (a o)), (1, .int x1)]) hx hb dX6_needLimps_39 rfl hl (by decide) rfl (fun ls hl => ?_)
      exact L40 _ fuel ((1 : Int32), (0 : Int32)) _ hf hF _ _ _ hW (lv_sub hl [2, 3, 1, 0] rfl)
    · replace hf := if_t c27_4 hf
      refine lv_aload_n hx hb dX6_needLimps_30 rfl (lv_at hl 0 rfl) ?_
      refine lv_iconst (v := 5) hx hb dX6_needLimps_31 (by decide) ?_
      obtain ⟨q32, hq32⟩ := ob_s hf
      replace hf := hq32.2
      replace hq32 := hq32.1
      refine cW1 (rest := []) (ws1 := (bMd G a o q32.2)) (st1 := [.int q32.1]) C0 hW hl.1 (c_X6_meets l G a o w (5 : Int32) _ hq32) cb_X6_meets mm_X6_97 fst_Md 0 6 rfl rfl rfl (by decide) rfl rfl (Nat.le_of_ble_eq_true rfl) ⟨Nat.zero_le _, Nat.zero_le _⟩ dX6_needLimps_32 rfl (fun H locs hW => ?_)
      have e1 := Option.some.inj hf
      subst e1
      have hF : ((q32.1, q32.2) : Int32 × Md) = out := hF
      subst hF
      exact k_iret C0 hW dX6_needLimps_35
  · replace hf := if_f c6_2 hf
    refine lv_aload_n hx hb dX6_needLimps_9 rfl (lv_at hl 0 rfl) ?_
    refine lv_iconst (v := 1) hx hb dX6_needLimps_10 (by decide) ?_
    obtain ⟨q11, hq11⟩ := ob_s hf
    replace hf := hq11.2
    replace hq11 := hq11.1
    refine cW1 (rest := []) (ws1 := (bMd G a o q11.2)) (st1 := [.int q11.1]) C0 hW hl.1 (c_X6_meets l G a o w (1 : Int32) _ hq11) cb_X6_meets mm_X6_97 fst_Md 0 6 rfl rfl rfl (by decide) rfl rfl (Nat.le_of_ble_eq_true rfl) ⟨Nat.zero_le _, Nat.zero_le _⟩ dX6_needLimps_11 rfl (fun H locs hW => ?_)
    have e1 := Option.some.inj hf
    subst e1
    have hF : ((q11.1, q11.2) : Int32 × Md) = out := hF
    subst hF
    exact k_iret C0 hW dX6_needLimps_14

def f_X6_isSo_J38 (w : Md) (x1 : Int32) (x3 : Int32) (t0 : Int32) : Option ((Int32 × Int32 × Md) ⊕ (Int32 × Md)) :=
  some (Sum.inl (t0, (x3 + (1 : Int32)), w))
def f_X6_isSo_B4 (x1 : Int32) (x2 : Int32) (x3 : Int32) (w : Md) : Option ((Int32 × Int32 × Md) ⊕ (Int32 × Md)) :=
  gd (inb x1 6) (if ((md_sizes w) (ix x1)) ≤ x3 then (Option.map Sum.inr (gd (isB x2) (some (x2, w)))) else (if x2 = 0 then (Option.map Sum.inr (gd (isB x2) (some (x2, w)))) else (Option.bind (f_X6_limpsIn w (1 : Int32) (0 : Int32)) (fun q21 => Option.bind (f_X6_rowAt q21.2 x1 x3) (fun q27 => if q21.1 = q27 then (f_X6_isSo_J38 q21.2 x1 x3 (1 : Int32)) else (f_X6_isSo_J38 q21.2 x1 x3 (0 : Int32)))))))
def f_X6_isSo_L4 (x1 : Int32) (sg : Int32 × Int32 × Md) : Option ((Int32 × Int32 × Md) ⊕ (Int32 × Md)) := f_X6_isSo_B4 x1 sg.1 sg.2.1 sg.2.2
def f_X6_isSo (w : Md) (x1 : Int32) : Option (Int32 × Md) :=
  lp (f_X6_isSo_L4 x1) fuel ((1 : Int32), (0 : Int32), w)
set_option maxRecDepth 100000 in
set_option maxHeartbeats 1000000 in
theorem c_X6_isSo (l : Launch) (G : GG) (a : Nat → Nat) (o : Nat) (w : Md) (x1 : Int32) (out : Int32 × Md) (hf : f_X6_isSo w x1 = some out) : Cn l G 5 yX6_isSo cX6_isSo 4 (some .boolean) [.ref (a o), .int x1] (bMd G a o w) (some (.int out.1)) (bMd G a o out.2) := by
  refine cn_start (by decide) (Nat.le_of_ble_eq_true rfl) ?_
  intro p e s m below meth c A ls C0 hW hl
  have hx := C0.1
  have hb := C0.2.1
  have hl : lv_has ls 4 [(0, .ref (a o)), (1, .int x1)] := hl
  have L4 : ∀ (k8 : Nat) (sg : Int32 × Int32 × Md) (o9 : Int32 × Md), lp (f_X6_isSo_L4 x1) k8 sg = some o9 → (fun (r : Int32 × Md) => r = out) o9 → (fun (sg : Int32 × Int32 × Md) => ∀ (H : Heap) (locs : List Loc) (ls : Array Slot), Wd G A s.heap H (bMd G a o sg.2.2) locs → lv_has ls 4 [(0, .ref (a o)), (1, .int x1), (2, .int sg.1), (3, .int sg.2.1)] → WW p l e 5 s m [.ref (a o), .int x1] below meth c G A (some (.int out.1)) ((bMd G a o out.2)) H locs 4 ls []) sg := by
    have J38 : ∀ (x3 : Int32) (t0 : Int32) (w : Md) (r : (Int32 × Int32 × Md) ⊕ (Int32 × Md)), f_X6_isSo_J38 w x1 x3 t0 = some r → (Sum.elim (fun (sg : Int32 × Int32 × Md) => ∀ (H : Heap) (locs : List Loc) (ls : Array Slot), Wd G A s.heap H (bMd G a o sg.2.2) locs → lv_has ls 4 [(0, .ref (a o)), (1, .int x1), (2, .int sg.1), (3, .int sg.2.1)] → WW p l e 5 s m [.ref (a o), .int x1] below meth c G A (some (.int out.1)) ((bMd G a o out.2)) H locs 4 ls []) (fun (r : Int32 × Md) => r = out)) r → ∀ (H : Heap) (locs : List Loc) (ls : Array Slot), Wd G A s.heap H (bMd G a o w) locs → lv_has ls 4 [(0, .ref (a o)), (1, .int x1), (3, .int x3)] → WW p l e 5 s m [.ref (a o), .int x1] below meth c G A (some (.int out.1)) ((bMd G a o out.2)) H locs 38 ls [.int t0] := by
      intro x3 t0 w r hf hF H locs ls hW hl
      unfold f_X6_isSo_J38 at hf
      refine lv_istore_n (lv' := [(2, .int t0), (0, .ref (a o)), (1, .int x1), (3, .int x3)]) hx hb dX6_isSo_38 rfl hl (by decide) rfl (fun ls hl => ?_)
      refine lv_iinc (v := (x3 + (1 : Int32))) (lv' := [(3, .int (x3 + (1 : Int32))), (2, .int t0), (0, .ref (a o)), (1, .int x1)]) hx hb dX6_isSo_39 hl (k := 3) rfl rfl (by decide) rfl (fun ls hl => ?_)
      refine lv_goto (tgt := 4) hx hb dX6_isSo_42 (by decide) ?_
      have e1 := Option.some.inj hf
      subst e1
      exact (elim_l hF) _ _ _ hW (lv_sub hl [2, 3, 1, 0] rfl)
    have B4 : ∀ (x2 : Int32) (x3 : Int32) (w : Md) (r : (Int32 × Int32 × Md) ⊕ (Int32 × Md)), f_X6_isSo_B4 x1 x2 x3 w = some r → (Sum.elim (fun (sg : Int32 × Int32 × Md) => ∀ (H : Heap) (locs : List Loc) (ls : Array Slot), Wd G A s.heap H (bMd G a o sg.2.2) locs → lv_has ls 4 [(0, .ref (a o)), (1, .int x1), (2, .int sg.1), (3, .int sg.2.1)] → WW p l e 5 s m [.ref (a o), .int x1] below meth c G A (some (.int out.1)) ((bMd G a o out.2)) H locs 4 ls []) (fun (r : Int32 × Md) => r = out)) r → ∀ (H : Heap) (locs : List Loc) (ls : Array Slot), Wd G A s.heap H (bMd G a o w) locs → lv_has ls 4 [(0, .ref (a o)), (1, .int x1), (2, .int x2), (3, .int x3)] → WW p l e 5 s m [.ref (a o), .int x1] below meth c G A (some (.int out.1)) ((bMd G a o out.2)) H locs 4 ls [] := by
      intro x2 x3 w r hf hF H locs ls hW hl
      unfold f_X6_isSo_B4 at hf
      refine lv_iload_n hx hb dX6_isSo_4 rfl (lv_at hl 3 rfl) ?_
      refine lv_aload_n hx hb dX6_isSo_5 rfl (lv_at hl 0 rfl) ?_
      refine k_get C0 hW 6 5 0 (v := .ref (a (o + 2))) rfl (by decide) inX6 mf_X6_17 rfl rfl dX6_isSo_6 ?_
      refine lv_iload_n hx hb dX6_isSo_9 rfl (lv_at hl 1 rfl) ?_
      have g10_1 := (gd_some hf).1; replace hf := (gd_some hf).2
      refine k_iald C0 hW 2 (ix x1) rfl (inb_in g10_1) rfl dX6_isSo_10 ?_
      refine lv_icmp_ge (tgt := 45) hx hb dX6_isSo_11 (by decide) (fun c11_2 => ?_) (fun c11_2 => ?_)
      · replace hf := if_t c11_2 hf
        obtain ⟨r2, e2⟩ := om_s hf
        replace hf := e2.1
        replace e2 := e2.2
        subst e2
        replace hF := elim_r hF
        refine lv_iload_n hx hb dX6_isSo_45 rfl (lv_at hl 2 rfl) ?_
        have g46_3 := (gd_some hf).1; replace hf := (gd_some hf).2
        have e1 := Option.some.inj hf
        subst e1
        have hF : ((x2, w) : Int32 × Md) = out := hF
        subst hF
        exact k_zret C0 hW g46_3 dX6_isSo_46
      · replace hf := if_f c11_2 hf
        refine lv_iload_n hx hb dX6_isSo_14 rfl (lv_at hl 2 rfl) ?_
        refine lv_if_eq (tgt := 45) hx hb dX6_isSo_15 (by decide) (fun c15_4 => ?_) (fun c15_4 => ?_)
        · replace hf := if_t c15_4 hf
          obtain ⟨r2, e2⟩ := om_s hf
          replace hf := e2.1
          replace e2 := e2.2
          subst e2
          replace hF := elim_r hF
          refine lv_iload_n hx hb dX6_isSo_45 rfl (lv_at hl 2 rfl) ?_
          have g46_5 := (gd_some hf).1; replace hf := (gd_some hf).2
          have e1 := Option.some.inj hf
          subst e1
          have hF : ((x2, w) : Int32 × Md) = out := hF
          subst hF
          exact k_zret C0 hW g46_5 dX6_isSo_46
        · replace hf := if_f c15_4 hf
          refine lv_aload_n hx hb dX6_isSo_18 rfl (lv_at hl 0 rfl) ?_
          refine lv_iconst (v := 1) hx hb dX6_isSo_19 (by decide) ?_
          refine lv_iconst (v := 0) hx hb dX6_isSo_20 (by decide) ?_
          obtain ⟨q21, hq21⟩ := ob_s hf
          replace hf := hq21.2
          replace hq21 := hq21.1
          refine cW1 (rest := []) (ws1 := (bMd G a o q21.2)) (st1 := [.int q21.1]) C0 hW hl.1 (c_X6_limpsIn l G a o w (1 : Int32) (0 : Int32) _ hq21) cb_X6_limpsIn mm_X6_206 fst_Md 0 6 rfl rfl rfl (by decide) rfl rfl (Nat.le_of_ble_eq_true rfl) ⟨Nat.zero_le _, Nat.zero_le _⟩ dX6_isSo_21 rfl (fun H locs hW => ?_)
          refine lv_aload_n hx hb dX6_isSo_24 rfl (lv_at hl 0 rfl) ?_
          refine lv_iload_n hx hb dX6_isSo_25 rfl (lv_at hl 1 rfl) ?_
          refine lv_iload_n hx hb dX6_isSo_26 rfl (lv_at hl 3 rfl) ?_
          obtain ⟨q27, hq27⟩ := ob_s hf
          replace hf := hq27.2
          replace hq27 := hq27.1
          refine cW1 (rest := [.int q21.1]) (ws1 := (bMd G a o q21.2)) (st1 := [.int q27, .int q21.1]) C0 hW hl.1 (c_X6_rowAt l G a o q21.2 x1 x3 _ hq27) cb_X6_rowAt mm_X6_101 fst_Md 0 6 rfl rfl rfl (by decide) rfl rfl (Nat.le_of_ble_eq_true rfl) ⟨Nat.zero_le _, Nat.zero_le _⟩ dX6_isSo_27 rfl (fun H locs hW => ?_)
          refine lv_icmp_ne (tgt := 37) hx hb dX6_isSo_30 (by decide) (fun c30_6 => ?_) (fun c30_6 => ?_)
          · replace hf := if_f c30_6 hf
            refine lv_iconst (v := 0) hx hb dX6_isSo_37 (by decide) ?_
            exact J38 _ _ _ _ hf hF _ _ _ hW (lv_sub hl [0, 1, 3] rfl)
          · replace hf := if_t c30_6 hf
            refine lv_iconst (v := 1) hx hb dX6_isSo_33 (by decide) ?_
            refine lv_goto (tgt := 38) hx hb dX6_isSo_34 (by decide) ?_
            exact J38 _ _ _ _ hf hF _ _ _ hW (lv_sub hl [0, 1, 3] rfl)
    exact lp_sound (fun sg r hb hz => B4 sg.1 sg.2.1 sg.2.2 r hb hz)
  obtain ⟨r, hr⟩ : ∃ r, f_X6_isSo w x1 = some r ∧ r = out := ⟨out, hf, rfl⟩
  replace hf := hr.1
  have hF := hr.2
  clear hr
  unfold f_X6_isSo at hf
  refine lv_iconst (v := 1) hx hb dX6_isSo_0 (by decide) ?_
  refine lv_istore_n (lv' := [(2, .int (1 : Int32)), (0, .ref (a o)), (1, .int x1)]) hx hb dX6_isSo_1 rfl hl (by decide) rfl (fun ls hl => ?_)
  refine lv_iconst (v := 0) hx hb dX6_isSo_2 (by decide) ?_
  refine lv_istore_n (lv' := [(3, .int (0 : Int32)), (2, .int (1 : Int32)), (0, .ref (a o)), (1, .int x1)]) hx hb dX6_isSo_3 rfl hl (by decide) rfl (fun ls hl => ?_)
  exact L4  fuel ((1 : Int32), (0 : Int32), w) _ hf hF _ _ _ hW (lv_sub hl [2, 3, 1, 0] rfl)

def f_X6_gone_J107 (w : Md) (x3 : Int32) (x4 : Int32) : Option (Int32 × Md) :=
  if x3 = 0 then (some ((-9 : Int32), w)) else (Option.bind (f_X6_tells w x4 x3) (fun q120 => some (q120.1, q120.2)))
def f_X6_gone_J99 (w : Md) (x1 : Int32) (x3 : Int32) (x5 : Int32) (t0 : Int32) : Option ((Int32 × Int32 × Int32 × Md) ⊕ (Int32 × Md)) :=
  some (Sum.inl (x3, t0, (x5 + (-1 : Int32)), w))
def f_X6_gone_J85 (w : Md) (x1 : Int32) (x4 : Int32) (x5 : Int32) (x6 : Int32) (t0 : Int32) (t1 : Int32) : Option ((Int32 × Int32 × Int32 × Md) ⊕ (Int32 × Md)) :=
  if x6 = 0 then (f_X6_gone_J99 w x1 (t0 + t1) x5 x4) else (f_X6_gone_J99 w x1 (t0 + t1) x5 x5)
def f_X6_gone_B43 (x1 : Int32) (x3 : Int32) (x4 : Int32) (x5 : Int32) (w : Md) : Option ((Int32 × Int32 × Int32 × Md) ⊕ (Int32 × Md)) :=
  if x5 < 0 then (Option.map Sum.inr (f_X6_gone_J107 w x3 x4)) else (Option.bind (f_X6_copyNow w) (fun q49 => Option.bind (f_X6_all q49) (fun q58 => Option.bind (f_X6_isSo (md_set_tried q49 (upd (md_tried q49) 3 (q58 &&& (x5 ^^^ (-1 : Int32))))) x1) (fun q69 => if q69.1 = 0 then (f_X6_gone_J85 q69.2 x1 x4 x5 q69.1 x3 (0 : Int32)) else (f_X6_gone_J85 q69.2 x1 x4 x5 q69.1 x3 (1 : Int32))))))
def f_X6_gone_L43 (x1 : Int32) (sg : Int32 × Int32 × Int32 × Md) : Option ((Int32 × Int32 × Int32 × Md) ⊕ (Int32 × Md)) := f_X6_gone_B43 x1 sg.1 sg.2.1 sg.2.2.1 sg.2.2.2
def f_X6_gone (w : Md) (x1 : Int32) : Option (Int32 × Md) :=
  Option.bind (f_X6_isRow x1) (fun q1 => if q1 = 0 then (some ((-1 : Int32), w)) else (if (md_n w) = 0 then (some ((-4 : Int32), w)) else (Option.bind (f_X6_needLimps w x1) (fun q21 => if 0 ≤ q21.1 then (Option.bind (f_X6_all q21.2) (fun q38 => lp (f_X6_gone_L43 x1) fuel ((0 : Int32), (-9 : Int32), q38, q21.2))) else (some (q21.1, q21.2))))))
set_option maxRecDepth 100000 in
set_option maxHeartbeats 1000000 in
theorem c_X6_gone (l : Launch) (G : GG) (a : Nat → Nat) (o : Nat) (w : Md) (x1 : Int32) (out : Int32 × Md) (hf : f_X6_gone w x1 = some out) : Cn l G 6 yX6_gone cX6_gone 7 (some .int) [.ref (a o), .int x1] (bMd G a o w) (some (.int out.1)) (bMd G a o out.2) := by
  refine cn_start (by decide) (Nat.le_of_ble_eq_true rfl) ?_
  intro p e s m below meth c A ls C0 hW hl
  have hx := C0.1
  have hb := C0.2.1
  have hl : lv_has ls 7 [(0, .ref (a o)), (1, .int x1)] := hl
  have J107 : ∀ (x3 : Int32) (x4 : Int32) (w : Md) (r : Int32 × Md), f_X6_gone_J107 w x3 x4 = some r → (fun (r : Int32 × Md) => r = out) r → ∀ (H : Heap) (locs : List Loc) (ls : Array Slot), Wd G A s.heap H (bMd G a o w) locs → lv_has ls 7 [(0, .ref (a o)), (3, .int x3), (4, .int x4)] → WW p l e 6 s m [.ref (a o), .int x1] below meth c G A (some (.int out.1)) ((bMd G a o out.2)) H locs 107 ls [] := by
    intro x3 x4 w r hf hF H locs ls hW hl
    unfold f_X6_gone_J107 at hf
    refine lv_iload_n hx hb dX6_gone_107 rfl (lv_at hl 1 rfl) ?_
    refine lv_if_ne (tgt := 116) hx hb dX6_gone_108 (by decide) (fun c108_5 => ?_) (fun c108_5 => ?_)
    · replace hf := if_f c108_5 hf
      refine lv_aload_n hx hb dX6_gone_116 rfl (lv_at hl 0 rfl) ?_
      refine lv_iload hx hb dX6_gone_117 (lv_at hl 2 rfl) ?_
      refine lv_iload_n hx hb dX6_gone_119 rfl (lv_at hl 1 rfl) ?_
      obtain ⟨q120, hq120⟩ := ob_s hf
      replace hf := hq120.2
      replace hq120 := hq120.1
      refine cW1 (rest := []) (ws1 := (bMd G a o q120.2)) (st1 := [.int q120.1]) C0 hW hl.1 (c_X6_tells l G a o w x4 x3 _ hq120) cb_X6_tells mm_X6_105 fst_Md 0 6 rfl rfl rfl (by decide) rfl rfl (Nat.le_of_ble_eq_true rfl) ⟨Nat.zero_le _, Nat.zero_le _⟩ dX6_gone_120 rfl (fun H locs hW => ?_)
      have e1 := Option.some.inj hf
      subst e1
      have hF : ((q120.1, q120.2) : Int32 × Md) = out := hF
      subst hF
      exact k_iret C0 hW dX6_gone_123
    · replace hf := if_t c108_5 hf
      refine lv_bipush (v := -9) hx hb dX6_gone_111 (by decide) ?_
      refine lv_goto (tgt := 123) hx hb dX6_gone_113 (by decide) ?_
      have e1 := Option.some.inj hf
      subst e1
      have hF : (((-9 : Int32), w) : Int32 × Md) = out := hF
      subst hF
      exact k_iret C0 hW dX6_gone_123
  have L43 : ∀ (k8 : Nat) (sg : Int32 × Int32 × Int32 × Md) (o9 : Int32 × Md), lp (f_X6_gone_L43 x1) k8 sg = some o9 → (fun (r : Int32 × Md) => r = out) o9 → (fun (sg : Int32 × Int32 × Int32 × Md) => ∀ (H : Heap) (locs : List Loc) (ls : Array Slot), Wd G A s.heap H (bMd G a o sg.2.2.2) locs → lv_has ls 7 [(0, .ref (a o)), (1, .int x1), (3, .int sg.1), (4, .int sg.2.1), (5, .int sg.2.2.1)] → WW p l e 6 s m [.ref (a o), .int x1] below meth c G A (some (.int out.1)) ((bMd G a o out.2)) H locs 43 ls []) sg := by
    have J99 : ∀ (x3 : Int32) (x5 : Int32) (t0 : Int32) (w : Md) (r : (Int32 × Int32 × Int32 × Md) ⊕ (Int32 × Md)), f_X6_gone_J99 w x1 x3 x5 t0 = some r → (Sum.elim (fun (sg : Int32 × Int32 × Int32 × Md) => ∀ (H : Heap) (locs : List Loc) (ls : Array Slot), Wd G A s.heap H (bMd G a o sg.2.2.2) locs → lv_has ls 7 [(0, .ref (a o)), (1, .int x1), (3, .int sg.1), (4, .int sg.2.1), (5, .int sg.2.2.1)] → WW p l e 6 s m [.ref (a o), .int x1] below meth c G A (some (.int out.1)) ((bMd G a o out.2)) H locs 43 ls []) (fun (r : Int32 × Md) => r = out)) r → ∀ (H : Heap) (locs : List Loc) (ls : Array Slot), Wd G A s.heap H (bMd G a o w) locs → lv_has ls 7 [(0, .ref (a o)), (1, .int x1), (3, .int x3), (5, .int x5)] → WW p l e 6 s m [.ref (a o), .int x1] below meth c G A (some (.int out.1)) ((bMd G a o out.2)) H locs 99 ls [.int t0] := by
      intro x3 x5 t0 w r hf hF H locs ls hW hl
      unfold f_X6_gone_J99 at hf
      refine lv_istore (lv' := [(4, .int t0), (0, .ref (a o)), (1, .int x1), (3, .int x3), (5, .int x5)]) hx hb dX6_gone_99 hl (by decide) rfl (fun ls hl => ?_)
      refine lv_iinc (v := (x5 + (-1 : Int32))) (lv' := [(5, .int (x5 + (-1 : Int32))), (4, .int t0), (0, .ref (a o)), (1, .int x1), (3, .int x3)]) hx hb dX6_gone_101 hl (k := 4) rfl rfl (by decide) rfl (fun ls hl => ?_)
      refine lv_goto (tgt := 43) hx hb dX6_gone_104 (by decide) ?_
      have e1 := Option.some.inj hf
      subst e1
      exact (elim_l hF) _ _ _ hW (lv_sub hl [2, 3, 4, 1, 0] rfl)
    have J85 : ∀ (x4 : Int32) (x5 : Int32) (x6 : Int32) (t0 : Int32) (t1 : Int32) (w : Md) (r : (Int32 × Int32 × Int32 × Md) ⊕ (Int32 × Md)), f_X6_gone_J85 w x1 x4 x5 x6 t0 t1 = some r → (Sum.elim (fun (sg : Int32 × Int32 × Int32 × Md) => ∀ (H : Heap) (locs : List Loc) (ls : Array Slot), Wd G A s.heap H (bMd G a o sg.2.2.2) locs → lv_has ls 7 [(0, .ref (a o)), (1, .int x1), (3, .int sg.1), (4, .int sg.2.1), (5, .int sg.2.2.1)] → WW p l e 6 s m [.ref (a o), .int x1] below meth c G A (some (.int out.1)) ((bMd G a o out.2)) H locs 43 ls []) (fun (r : Int32 × Md) => r = out)) r → ∀ (H : Heap) (locs : List Loc) (ls : Array Slot), Wd G A s.heap H (bMd G a o w) locs → lv_has ls 7 [(0, .ref (a o)), (1, .int x1), (4, .int x4), (5, .int x5), (6, .int x6)] → WW p l e 6 s m [.ref (a o), .int x1] below meth c G A (some (.int out.1)) ((bMd G a o out.2)) H locs 85 ls [.int t1, .int t0] := by
      intro x4 x5 x6 t0 t1 w r hf hF H locs ls hW hl
      unfold f_X6_gone_J85 at hf
      refine lv_iadd hx hb dX6_gone_85 ?_
      refine lv_istore_n (lv' := [(3, .int (t0 + t1)), (0, .ref (a o)), (1, .int x1), (4, .int x4), (5, .int x5), (6, .int x6)]) hx hb dX6_gone_86 rfl hl (by decide) rfl (fun ls hl => ?_)
      refine lv_iload hx hb dX6_gone_87 (lv_at hl 5 rfl) ?_
      refine lv_if_eq (tgt := 97) hx hb dX6_gone_89 (by decide) (fun c89_7 => ?_) (fun c89_7 => ?_)
      · replace hf := if_t c89_7 hf
        refine lv_iload hx hb dX6_gone_97 (lv_at hl 3 rfl) ?_
        exact J99 _ _ _ _ _ hf hF _ _ _ hW (lv_sub hl [1, 2, 0, 4] rfl)
      · replace hf := if_f c89_7 hf
        refine lv_iload hx hb dX6_gone_92 (lv_at hl 4 rfl) ?_
        refine lv_goto (tgt := 99) hx hb dX6_gone_94 (by decide) ?_
        exact J99 _ _ _ _ _ hf hF _ _ _ hW (lv_sub hl [1, 2, 0, 4] rfl)
    have B43 : ∀ (x3 : Int32) (x4 : Int32) (x5 : Int32) (w : Md) (r : (Int32 × Int32 × Int32 × Md) ⊕ (Int32 × Md)), f_X6_gone_B43 x1 x3 x4 x5 w = some r → (Sum.elim (fun (sg : Int32 × Int32 × Int32 × Md) => ∀ (H : Heap) (locs : List Loc) (ls : Array Slot), Wd G A s.heap H (bMd G a o sg.2.2.2) locs → lv_has ls 7 [(0, .ref (a o)), (1, .int x1), (3, .int sg.1), (4, .int sg.2.1), (5, .int sg.2.2.1)] → WW p l e 6 s m [.ref (a o), .int x1] below meth c G A (some (.int out.1)) ((bMd G a o out.2)) H locs 43 ls []) (fun (r : Int32 × Md) => r = out)) r → ∀ (H : Heap) (locs : List Loc) (ls : Array Slot), Wd G A s.heap H (bMd G a o w) locs → lv_has ls 7 [(0, .ref (a o)), (1, .int x1), (3, .int x3), (4, .int x4), (5, .int x5)] → WW p l e 6 s m [.ref (a o), .int x1] below meth c G A (some (.int out.1)) ((bMd G a o out.2)) H locs 43 ls [] := by
      intro x3 x4 x5 w r hf hF H locs ls hW hl
      unfold f_X6_gone_B43 at hf
      refine lv_iload hx hb dX6_gone_43 (lv_at hl 4 rfl) ?_
      refine lv_if_lt (tgt := 107) hx hb dX6_gone_45 (by decide) (fun c45_4 => ?_) (fun c45_4 => ?_)
      · replace hf := if_t c45_4 hf
        obtain ⟨r2, e2⟩ := om_s hf
        replace hf := e2.1
        replace e2 := e2.2
        subst e2
        replace hF := elim_r hF
        exact J107 _ _ _ _ hf hF _ _ _ hW (lv_sub hl [0, 2, 3] rfl)
      · replace hf := if_f c45_4 hf
        refine lv_aload_n hx hb dX6_gone_48 rfl (lv_at hl 0 rfl) ?_
        obtain ⟨q49, hq49⟩ := ob_s hf
        replace hf := hq49.2
        replace hq49 := hq49.1
        refine cW1 (rest := []) (ws1 := (bMd G a o q49)) (st1 := []) C0 hW hl.1 (c_X6_copyNow l G a o w _ hq49) cb_X6_copyNow mm_X6_203 fst_Md 0 6 rfl rfl rfl (by decide) rfl rfl (Nat.le_of_ble_eq_true rfl) ⟨Nat.zero_le _, Nat.zero_le _⟩ dX6_gone_49 rfl (fun H locs hW => ?_)
        refine lv_aload_n hx hb dX6_gone_52 rfl (lv_at hl 0 rfl) ?_
        refine k_get C0 hW 6 25 0 (v := .ref (a (o + 16))) rfl (by decide) inX6 mf_X6_60 rfl rfl dX6_gone_53 ?_
        refine lv_iconst (v := 3) hx hb dX6_gone_56 (by decide) ?_
        refine lv_aload_n hx hb dX6_gone_57 rfl (lv_at hl 0 rfl) ?_
        obtain ⟨q58, hq58⟩ := ob_s hf
        replace hf := hq58.2
        replace hq58 := hq58.1
        refine cW1 (rest := [.int (3 : Int32), .ref (a (o + 16))]) (ws1 := (bMd G a o q49)) (st1 := [.int q58, .int (3 : Int32), .ref (a (o + 16))]) C0 hW hl.1 (c_X6_all l G a o q49 _ hq58) cb_X6_all mm_X6_210 fst_Md 0 6 rfl rfl rfl (by decide) rfl rfl (Nat.le_of_ble_eq_true rfl) ⟨Nat.zero_le _, Nat.zero_le _⟩ dX6_gone_58 rfl (fun H locs hW => ?_)
        refine lv_iload hx hb dX6_gone_61 (lv_at hl 4 rfl) ?_
        refine lv_iconst (v := -1) hx hb dX6_gone_63 (by decide) ?_
        refine lv_ixor hx hb dX6_gone_64 ?_
        refine lv_iand hx hb dX6_gone_65 ?_
        refine k_iast C0 hW 16 3 rfl (inb_in rfl) rfl dX6_gone_66 (fun H locs hW => ?_)
        have hW : Wd G A s.heap H (bMd G a o (md_set_tried q49 (upd (md_tried q49) 3 (q58 &&& (x5 ^^^ (-1 : Int32)))))) locs := hW
        refine lv_aload_n hx hb dX6_gone_67 rfl (lv_at hl 0 rfl) ?_
        refine lv_iload_n hx hb dX6_gone_68 rfl (lv_at hl 1 rfl) ?_
        obtain ⟨q69, hq69⟩ := ob_s hf
        replace hf := hq69.2
        replace hq69 := hq69.1
        refine cW1 (rest := []) (ws1 := (bMd G a o q69.2)) (st1 := [.int q69.1]) C0 hW hl.1 (c_X6_isSo l G a o (md_set_tried q49 (upd (md_tried q49) 3 (q58 &&& (x5 ^^^ (-1 : Int32))))) x1 _ hq69) cb_X6_isSo mm_X6_235 fst_Md 0 6 rfl rfl rfl (by decide) rfl rfl (Nat.le_of_ble_eq_true rfl) ⟨Nat.zero_le _, Nat.zero_le _⟩ dX6_gone_69 rfl (fun H locs hW => ?_)
        refine lv_istore (lv' := [(6, .int q69.1), (0, .ref (a o)), (1, .int x1), (3, .int x3), (4, .int x4), (5, .int x5)]) hx hb dX6_gone_72 hl (by decide) rfl (fun ls hl => ?_)
        refine lv_iload_n hx hb dX6_gone_74 rfl (lv_at hl 3 rfl) ?_
        refine lv_iload hx hb dX6_gone_75 (lv_at hl 0 rfl) ?_
        refine lv_if_eq (tgt := 84) hx hb dX6_gone_77 (by decide) (fun c77_6 => ?_) (fun c77_6 => ?_)
        · replace hf := if_t c77_6 hf
          refine lv_iconst (v := 0) hx hb dX6_gone_84 (by decide) ?_
          exact J85 _ _ _ _ _ _ _ hf hF _ _ _ hW (lv_sub hl [1, 2, 4, 5, 0] rfl)
        · replace hf := if_f c77_6 hf
          refine lv_iconst (v := 1) hx hb dX6_gone_80 (by decide) ?_
          refine lv_goto (tgt := 85) hx hb dX6_gone_81 (by decide) ?_
          exact J85 _ _ _ _ _ _ _ hf hF _ _ _ hW (lv_sub hl [1, 2, 4, 5, 0] rfl)
    exact lp_sound (fun sg r hb hz => B43 sg.1 sg.2.1 sg.2.2.1 sg.2.2.2 r hb hz)
  obtain ⟨r, hr⟩ : ∃ r, f_X6_gone w x1 = some r ∧ r = out := ⟨out, hf, rfl⟩
  replace hf := hr.1
  have hF := hr.2
  clear hr
  unfold f_X6_gone at hf
  refine lv_iload_n hx hb dX6_gone_0 rfl (lv_at hl 1 rfl) ?_
  obtain ⟨q1, hq1⟩ := ob_s hf
  replace hf := hq1.2
  replace hq1 := hq1.1
  refine cS0 (rest := []) (st1 := [.int q1]) C0 hW hl.1 (c_X6_isRow l G x1 _ hq1) cb_X6_isRow mm_X6_93 [] rfl rfl (by decide) rfl rfl (Nat.le_of_ble_eq_true rfl) ⟨Nat.zero_le _, Nat.zero_le _⟩ dX6_gone_1 rfl (fun H locs hW => ?_)
  refine lv_if_ne (tgt := 9) hx hb dX6_gone_4 (by decide) (fun c4_1 => ?_) (fun c4_1 => ?_)
  · replace hf := if_f c4_1 hf
    refine lv_aload_n hx hb dX6_gone_9 rfl (lv_at hl 0 rfl) ?_
    refine k_get C0 hW 6 18 0 (v := .int (md_n w)) rfl (by decide) inX6 mf_X6_142 rfl rfl dX6_gone_10 ?_
    refine lv_if_ne (tgt := 19) hx hb dX6_gone_13 (by decide) (fun c13_2 => ?_) (fun c13_2 => ?_)
    · replace hf := if_f c13_2 hf
      refine lv_aload_n hx hb dX6_gone_19 rfl (lv_at hl 0 rfl) ?_
      refine lv_iload_n hx hb dX6_gone_20 rfl (lv_at hl 1 rfl) ?_
      obtain ⟨q21, hq21⟩ := ob_s hf
      replace hf := hq21.2
      replace hq21 := hq21.1
      refine cW1 (rest := []) (ws1 := (bMd G a o q21.2)) (st1 := [.int q21.1]) C0 hW hl.1 (c_X6_needLimps l G a o w x1 _ hq21) cb_X6_needLimps mm_X6_232 fst_Md 0 6 rfl rfl rfl (by decide) rfl rfl (Nat.le_of_ble_eq_true rfl) ⟨Nat.zero_le _, Nat.zero_le _⟩ dX6_gone_21 rfl (fun H locs hW => ?_)
      refine lv_istore_n (lv' := [(2, .int q21.1), (0, .ref (a o)), (1, .int x1)]) hx hb dX6_gone_24 rfl hl (by decide) rfl (fun ls hl => ?_)
      refine lv_iload_n hx hb dX6_gone_25 rfl (lv_at hl 0 rfl) ?_
      refine lv_if_ge (tgt := 31) hx hb dX6_gone_26 (by decide) (fun c26_3 => ?_) (fun c26_3 => ?_)
      · replace hf := if_t c26_3 hf
        refine lv_iconst (v := 0) hx hb dX6_gone_31 (by decide) ?_
        refine lv_istore_n (lv' := [(3, .int (0 : Int32)), (2, .int q21.1), (0, .ref (a o)), (1, .int x1)]) hx hb dX6_gone_32 rfl hl (by decide) rfl (fun ls hl => ?_)
        refine lv_bipush (v := -9) hx hb dX6_gone_33 (by decide) ?_
        refine lv_istore (lv' := [(4, .int (-9 : Int32)), (3, .int (0 : Int32)), (2, .int q21.1), (0, .ref (a o)), (1, .int x1)]) hx hb dX6_gone_35 hl (by decide) rfl (fun ls hl => ?_)
        refine lv_aload_n hx hb dX6_gone_37 rfl (lv_at hl 3 rfl) ?_
        obtain ⟨q38, hq38⟩ := ob_s hf
        replace hf := hq38.2
        replace hq38 := hq38.1
        refine cW1 (rest := []) (ws1 := (bMd G a o q21.2)) (st1 := [.int q38]) C0 hW hl.1 (c_X6_all l G a o q21.2 _ hq38) cb_X6_all mm_X6_210 fst_Md 0 6 rfl rfl rfl (by decide) rfl rfl (Nat.le_of_ble_eq_true rfl) ⟨Nat.zero_le _, Nat.zero_le _⟩ dX6_gone_38 rfl (fun H locs hW => ?_)
        refine lv_istore (lv' := [(5, .int q38), (4, .int (-9 : Int32)), (3, .int (0 : Int32)), (2, .int q21.1), (0, .ref (a o)), (1, .int x1)]) hx hb dX6_gone_41 hl (by decide) rfl (fun ls hl => ?_)
        exact L43  fuel ((0 : Int32), (-9 : Int32), q38, q21.2) _ hf hF _ _ _ hW (lv_sub hl [4, 5, 2, 1, 0] rfl)
      · replace hf := if_f c26_3 hf
        refine lv_iload_n hx hb dX6_gone_29 rfl (lv_at hl 0 rfl) ?_
        have e1 := Option.some.inj hf
        subst e1
        have hF : ((q21.1, q21.2) : Int32 × Md) = out := hF
        subst hF
        exact k_iret C0 hW dX6_gone_30
    · replace hf := if_t c13_2 hf
      refine lv_bipush (v := -4) hx hb dX6_gone_16 (by decide) ?_
      have e1 := Option.some.inj hf
      subst e1
      have hF : (((-4 : Int32), w) : Int32 × Md) = out := hF
      subst hF
      exact k_iret C0 hW dX6_gone_18
  · replace hf := if_t c4_1 hf
    refine lv_iconst (v := -1) hx hb dX6_gone_7 (by decide) ?_
    have e1 := Option.some.inj hf
    subst e1
    have hF : (((-1 : Int32), w) : Int32 × Md) = out := hF
    subst hF
    exact k_iret C0 hW dX6_gone_8

def f_X6_keep_J103 (w : Md) : Option (Int32 × Md) :=
  some ((md_deedMany w), w)
def f_X6_keep_B65 (x1 : Int32) (x2 : Int32) (w : Md) : Option ((Int32 × Md) ⊕ (Int32 × Md)) :=
  if ((12 : Int32) * (md_deedMany w)) ≤ x2 then (Option.map Sum.inr (f_X6_keep_J103 w)) else (gd (inb x2 480) (gd (inb ((((492 : Int32) * x1) + (12 : Int32)) + x2) 1476) (some (Sum.inl ((x2 + (1 : Int32)), (md_set_kept w (upd (md_kept w) (ix ((((492 : Int32) * x1) + (12 : Int32)) + x2)) ((md_log w) (ix x2)))))))))
def f_X6_keep_L65 (x1 : Int32) (sg : Int32 × Md) : Option ((Int32 × Md) ⊕ (Int32 × Md)) := f_X6_keep_B65 x1 sg.1 sg.2
def f_X6_keep_J63 (w : Md) (x1 : Int32) : Option (Int32 × Md) :=
  lp (f_X6_keep_L65 x1) fuel ((0 : Int32), w)
def f_X6_keep_B33 (x1 : Int32) (x2 : Int32) (w : Md) : Option ((Int32 × Md) ⊕ (Int32 × Md)) :=
  if (12 : Int32) ≤ x2 then (Option.map Sum.inr (f_X6_keep_J63 w x1)) else (gd (inb x2 12) (gd (inb (((492 : Int32) * x1) + x2) 1476) (some (Sum.inl ((x2 + (1 : Int32)), (md_set_kept w (upd (md_kept w) (ix (((492 : Int32) * x1) + x2)) ((md_now w) (ix x2)))))))))
def f_X6_keep_L33 (x1 : Int32) (sg : Int32 × Md) : Option ((Int32 × Md) ⊕ (Int32 × Md)) := f_X6_keep_B33 x1 sg.1 sg.2
def f_X6_keep (w : Md) (x1 : Int32) : Option (Int32 × Md) :=
  Option.bind (f_X6_in x1 (0 : Int32) (2 : Int32)) (fun q3 => if q3 = 0 then (some ((-1 : Int32), w)) else (if (md_n w) = 0 then (some ((-4 : Int32), w)) else (gd (inb x1 3) (lp (f_X6_keep_L33 x1) fuel ((0 : Int32), (md_set_keptMany w (upd (md_keptMany w) (ix x1) (md_deedMany w))))))))
set_option maxRecDepth 100000 in
set_option maxHeartbeats 1000000 in
theorem c_X6_keep (l : Launch) (G : GG) (a : Nat → Nat) (o : Nat) (w : Md) (x1 : Int32) (out : Int32 × Md) (hf : f_X6_keep w x1 = some out) : Cn l G 1 yX6_keep cX6_keep 3 (some .int) [.ref (a o), .int x1] (bMd G a o w) (some (.int out.1)) (bMd G a o out.2) := by
  refine cn_start (by decide) (Nat.le_of_ble_eq_true rfl) ?_
  intro p e s m below meth c A ls C0 hW hl
  have hx := C0.1
  have hb := C0.2.1
  have hl : lv_has ls 3 [(0, .ref (a o)), (1, .int x1)] := hl
  have J103 : ∀ (w : Md) (r : Int32 × Md), f_X6_keep_J103 w = some r → (fun (r : Int32 × Md) => r = out) r → ∀ (H : Heap) (locs : List Loc) (ls : Array Slot), Wd G A s.heap H (bMd G a o w) locs → lv_has ls 3 [(0, .ref (a o))] → WW p l e 1 s m [.ref (a o), .int x1] below meth c G A (some (.int out.1)) ((bMd G a o out.2)) H locs 103 ls [] := by
    intro w r hf hF H locs ls hW hl
    unfold f_X6_keep_J103 at hf
    refine lv_aload_n hx hb dX6_keep_103 rfl (lv_at hl 0 rfl) ?_
    refine k_get C0 hW 6 26 0 (v := .int (md_deedMany w)) rfl (by decide) inX6 mf_X6_148 rfl rfl dX6_keep_104 ?_
    have e1 := Option.some.inj hf
    subst e1
    have hF : (((md_deedMany w), w) : Int32 × Md) = out := hF
    subst hF
    exact k_iret C0 hW dX6_keep_107
  have L65 : ∀ (k8 : Nat) (sg : Int32 × Md) (o9 : Int32 × Md), lp (f_X6_keep_L65 x1) k8 sg = some o9 → (fun (r : Int32 × Md) => r = out) o9 → (fun (sg : Int32 × Md) => ∀ (H : Heap) (locs : List Loc) (ls : Array Slot), Wd G A s.heap H (bMd G a o sg.2) locs → lv_has ls 3 [(0, .ref (a o)), (1, .int x1), (2, .int sg.1)] → WW p l e 1 s m [.ref (a o), .int x1] below meth c G A (some (.int out.1)) ((bMd G a o out.2)) H locs 65 ls []) sg := by
    have B65 : ∀ (x2 : Int32) (w : Md) (r : (Int32 × Md) ⊕ (Int32 × Md)), f_X6_keep_B65 x1 x2 w = some r → (Sum.elim (fun (sg : Int32 × Md) => ∀ (H : Heap) (locs : List Loc) (ls : Array Slot), Wd G A s.heap H (bMd G a o sg.2) locs → lv_has ls 3 [(0, .ref (a o)), (1, .int x1), (2, .int sg.1)] → WW p l e 1 s m [.ref (a o), .int x1] below meth c G A (some (.int out.1)) ((bMd G a o out.2)) H locs 65 ls []) (fun (r : Int32 × Md) => r = out)) r → ∀ (H : Heap) (locs : List Loc) (ls : Array Slot), Wd G A s.heap H (bMd G a o w) locs → lv_has ls 3 [(0, .ref (a o)), (1, .int x1), (2, .int x2)] → WW p l e 1 s m [.ref (a o), .int x1] below meth c G A (some (.int out.1)) ((bMd G a o out.2)) H locs 65 ls [] := by
      intro x2 w r hf hF H locs ls hW hl
      unfold f_X6_keep_B65 at hf
      refine lv_iload_n hx hb dX6_keep_65 rfl (lv_at hl 2 rfl) ?_
      refine lv_bipush (v := 12) hx hb dX6_keep_66 (by decide) ?_
      refine lv_aload_n hx hb dX6_keep_68 rfl (lv_at hl 0 rfl) ?_
      refine k_get C0 hW 6 26 0 (v := .int (md_deedMany w)) rfl (by decide) inX6 mf_X6_148 rfl rfl dX6_keep_69 ?_
      refine lv_imul hx hb dX6_keep_72 ?_
      refine lv_icmp_ge (tgt := 103) hx hb dX6_keep_73 (by decide) (fun c73_5 => ?_) (fun c73_5 => ?_)
      · replace hf := if_t c73_5 hf
        obtain ⟨r2, e2⟩ := om_s hf
        replace hf := e2.1
        replace e2 := e2.2
        subst e2
        replace hF := elim_r hF
        exact J103 _ _ hf hF _ _ _ hW (lv_sub hl [0] rfl)
      · replace hf := if_f c73_5 hf
        refine lv_aload_n hx hb dX6_keep_76 rfl (lv_at hl 0 rfl) ?_
        refine k_get C0 hW 6 29 0 (v := .ref (a (o + 19))) rfl (by decide) inX6 mf_X6_69 rfl rfl dX6_keep_77 ?_
        refine lv_sipush (v := 492) hx hb dX6_keep_80 (by decide) ?_
        refine lv_iload_n hx hb dX6_keep_83 rfl (lv_at hl 1 rfl) ?_
        refine lv_imul hx hb dX6_keep_84 ?_
        refine lv_bipush (v := 12) hx hb dX6_keep_85 (by decide) ?_
        refine lv_iadd hx hb dX6_keep_87 ?_
        refine lv_iload_n hx hb dX6_keep_88 rfl (lv_at hl 2 rfl) ?_
        refine lv_iadd hx hb dX6_keep_89 ?_
        refine lv_aload_n hx hb dX6_keep_90 rfl (lv_at hl 0 rfl) ?_
        refine k_get C0 hW 6 27 0 (v := .ref (a (o + 17))) rfl (by decide) inX6 mf_X6_63 rfl rfl dX6_keep_91 ?_
        refine lv_iload_n hx hb dX6_keep_94 rfl (lv_at hl 2 rfl) ?_
        have g95_6 := (gd_some hf).1; replace hf := (gd_some hf).2
        refine k_iald C0 hW 17 (ix x2) rfl (inb_in g95_6) rfl dX6_keep_95 ?_
        have g96_7 := (gd_some hf).1; replace hf := (gd_some hf).2
        refine k_iast C0 hW 19 (ix ((((492 : Int32) * x1) + (12 : Int32)) + x2)) rfl (inb_in g96_7) rfl dX6_keep_96 (fun H locs hW => ?_)
        have hW : Wd G A s.heap H (bMd G a o (md_set_kept w (upd (md_kept w) (ix ((((492 : Int32) * x1) + (12 : Int32)) + x2)) ((md_log w) (ix x2))))) locs := hW
        refine lv_iinc (v := (x2 + (1 : Int32))) (lv' := [(2, .int (x2 + (1 : Int32))), (0, .ref (a o)), (1, .int x1)]) hx hb dX6_keep_97 hl (k := 2) rfl rfl (by decide) rfl (fun ls hl => ?_)
        refine lv_goto (tgt := 65) hx hb dX6_keep_100 (by decide) ?_
        have e1 := Option.some.inj hf
        subst e1
        exact (elim_l hF) _ _ _ hW (lv_sub hl [1, 2, 0] rfl)
    exact lp_sound (fun sg r hb hz => B65 sg.1 sg.2 r hb hz)
  have J63 : ∀ (w : Md) (r : Int32 × Md), f_X6_keep_J63 w x1 = some r → (fun (r : Int32 × Md) => r = out) r → ∀ (H : Heap) (locs : List Loc) (ls : Array Slot), Wd G A s.heap H (bMd G a o w) locs → lv_has ls 3 [(0, .ref (a o)), (1, .int x1)] → WW p l e 1 s m [.ref (a o), .int x1] below meth c G A (some (.int out.1)) ((bMd G a o out.2)) H locs 63 ls [] := by
    intro w r hf hF H locs ls hW hl
    unfold f_X6_keep_J63 at hf
    refine lv_iconst (v := 0) hx hb dX6_keep_63 (by decide) ?_
    refine lv_istore_n (lv' := [(2, .int (0 : Int32)), (0, .ref (a o)), (1, .int x1)]) hx hb dX6_keep_64 rfl hl (by decide) rfl (fun ls hl => ?_)
    exact L65  fuel ((0 : Int32), w) _ hf hF _ _ _ hW (lv_sub hl [1, 2, 0] rfl)
  have L33 : ∀ (k8 : Nat) (sg : Int32 × Md) (o9 : Int32 × Md), lp (f_X6_keep_L33 x1) k8 sg = some o9 → (fun (r : Int32 × Md) => r = out) o9 → (fun (sg : Int32 × Md) => ∀ (H : Heap) (locs : List Loc) (ls : Array Slot), Wd G A s.heap H (bMd G a o sg.2) locs → lv_has ls 3 [(0, .ref (a o)), (1, .int x1), (2, .int sg.1)] → WW p l e 1 s m [.ref (a o), .int x1] below meth c G A (some (.int out.1)) ((bMd G a o out.2)) H locs 33 ls []) sg := by
    have B33 : ∀ (x2 : Int32) (w : Md) (r : (Int32 × Md) ⊕ (Int32 × Md)), f_X6_keep_B33 x1 x2 w = some r → (Sum.elim (fun (sg : Int32 × Md) => ∀ (H : Heap) (locs : List Loc) (ls : Array Slot), Wd G A s.heap H (bMd G a o sg.2) locs → lv_has ls 3 [(0, .ref (a o)), (1, .int x1), (2, .int sg.1)] → WW p l e 1 s m [.ref (a o), .int x1] below meth c G A (some (.int out.1)) ((bMd G a o out.2)) H locs 33 ls []) (fun (r : Int32 × Md) => r = out)) r → ∀ (H : Heap) (locs : List Loc) (ls : Array Slot), Wd G A s.heap H (bMd G a o w) locs → lv_has ls 3 [(0, .ref (a o)), (1, .int x1), (2, .int x2)] → WW p l e 1 s m [.ref (a o), .int x1] below meth c G A (some (.int out.1)) ((bMd G a o out.2)) H locs 33 ls [] := by
      intro x2 w r hf hF H locs ls hW hl
      unfold f_X6_keep_B33 at hf
      refine lv_iload_n hx hb dX6_keep_33 rfl (lv_at hl 2 rfl) ?_
      refine lv_bipush (v := 12) hx hb dX6_keep_34 (by decide) ?_
      refine lv_icmp_ge (tgt := 63) hx hb dX6_keep_36 (by decide) (fun c36_4 => ?_) (fun c36_4 => ?_)
      · replace hf := if_t c36_4 hf
        obtain ⟨r2, e2⟩ := om_s hf
        replace hf := e2.1
        replace e2 := e2.2
        subst e2
        replace hF := elim_r hF
        exact J63 _ _ hf hF _ _ _ hW (lv_sub hl [0, 1] rfl)
      · replace hf := if_f c36_4 hf
        refine lv_aload_n hx hb dX6_keep_39 rfl (lv_at hl 0 rfl) ?_
        refine k_get C0 hW 6 29 0 (v := .ref (a (o + 19))) rfl (by decide) inX6 mf_X6_69 rfl rfl dX6_keep_40 ?_
        refine lv_sipush (v := 492) hx hb dX6_keep_43 (by decide) ?_
        refine lv_iload_n hx hb dX6_keep_46 rfl (lv_at hl 1 rfl) ?_
        refine lv_imul hx hb dX6_keep_47 ?_
        refine lv_iload_n hx hb dX6_keep_48 rfl (lv_at hl 2 rfl) ?_
        refine lv_iadd hx hb dX6_keep_49 ?_
        refine lv_aload_n hx hb dX6_keep_50 rfl (lv_at hl 0 rfl) ?_
        refine k_get C0 hW 6 24 0 (v := .ref (a (o + 15))) rfl (by decide) inX6 mf_X6_57 rfl rfl dX6_keep_51 ?_
        refine lv_iload_n hx hb dX6_keep_54 rfl (lv_at hl 2 rfl) ?_
        have g55_8 := (gd_some hf).1; replace hf := (gd_some hf).2
        refine k_iald C0 hW 15 (ix x2) rfl (inb_in g55_8) rfl dX6_keep_55 ?_
        have g56_9 := (gd_some hf).1; replace hf := (gd_some hf).2
        refine k_iast C0 hW 19 (ix (((492 : Int32) * x1) + x2)) rfl (inb_in g56_9) rfl dX6_keep_56 (fun H locs hW => ?_)
        have hW : Wd G A s.heap H (bMd G a o (md_set_kept w (upd (md_kept w) (ix (((492 : Int32) * x1) + x2)) ((md_now w) (ix x2))))) locs := hW
        refine lv_iinc (v := (x2 + (1 : Int32))) (lv' := [(2, .int (x2 + (1 : Int32))), (0, .ref (a o)), (1, .int x1)]) hx hb dX6_keep_57 hl (k := 2) rfl rfl (by decide) rfl (fun ls hl => ?_)
        refine lv_goto (tgt := 33) hx hb dX6_keep_60 (by decide) ?_
        have e1 := Option.some.inj hf
        subst e1
        exact (elim_l hF) _ _ _ hW (lv_sub hl [1, 2, 0] rfl)
    exact lp_sound (fun sg r hb hz => B33 sg.1 sg.2 r hb hz)
  obtain ⟨r, hr⟩ : ∃ r, f_X6_keep w x1 = some r ∧ r = out := ⟨out, hf, rfl⟩
  replace hf := hr.1
  have hF := hr.2
  clear hr
  unfold f_X6_keep at hf
  refine lv_iload_n hx hb dX6_keep_0 rfl (lv_at hl 1 rfl) ?_
  refine lv_iconst (v := 0) hx hb dX6_keep_1 (by decide) ?_
  refine lv_iconst (v := 2) hx hb dX6_keep_2 (by decide) ?_
  obtain ⟨q3, hq3⟩ := ob_s hf
  replace hf := hq3.2
  replace hq3 := hq3.1
  refine cS0 (rest := []) (st1 := [.int q3]) C0 hW hl.1 (c_X6_in l G x1 (0 : Int32) (2 : Int32) _ hq3) cb_X6_in mm_X6_89 [] rfl rfl (by decide) rfl rfl (Nat.le_of_ble_eq_true rfl) ⟨Nat.zero_le _, Nat.zero_le _⟩ dX6_keep_3 rfl (fun H locs hW => ?_)
  refine lv_if_ne (tgt := 11) hx hb dX6_keep_6 (by decide) (fun c6_1 => ?_) (fun c6_1 => ?_)
  · replace hf := if_f c6_1 hf
    refine lv_aload_n hx hb dX6_keep_11 rfl (lv_at hl 0 rfl) ?_
    refine k_get C0 hW 6 18 0 (v := .int (md_n w)) rfl (by decide) inX6 mf_X6_142 rfl rfl dX6_keep_12 ?_
    refine lv_if_ne (tgt := 21) hx hb dX6_keep_15 (by decide) (fun c15_2 => ?_) (fun c15_2 => ?_)
    · replace hf := if_f c15_2 hf
      refine lv_aload_n hx hb dX6_keep_21 rfl (lv_at hl 0 rfl) ?_
      refine k_get C0 hW 6 28 0 (v := .ref (a (o + 18))) rfl (by decide) inX6 mf_X6_66 rfl rfl dX6_keep_22 ?_
      refine lv_iload_n hx hb dX6_keep_25 rfl (lv_at hl 1 rfl) ?_
      refine lv_aload_n hx hb dX6_keep_26 rfl (lv_at hl 0 rfl) ?_
      refine k_get C0 hW 6 26 0 (v := .int (md_deedMany w)) rfl (by decide) inX6 mf_X6_148 rfl rfl dX6_keep_27 ?_
      have g30_3 := (gd_some hf).1; replace hf := (gd_some hf).2
      refine k_iast C0 hW 18 (ix x1) rfl (inb_in g30_3) rfl dX6_keep_30 (fun H locs hW => ?_)
      have hW : Wd G A s.heap H (bMd G a o (md_set_keptMany w (upd (md_keptMany w) (ix x1) (md_deedMany w)))) locs := hW
      refine lv_iconst (v := 0) hx hb dX6_keep_31 (by decide) ?_
      refine lv_istore_n (lv' := [(2, .int (0 : Int32)), (0, .ref (a o)), (1, .int x1)]) hx hb dX6_keep_32 rfl hl (by decide) rfl (fun ls hl => ?_)
      exact L33  fuel ((0 : Int32), (md_set_keptMany w (upd (md_keptMany w) (ix x1) (md_deedMany w)))) _ hf hF _ _ _ hW (lv_sub hl [1, 2, 0] rfl)
    · replace hf := if_t c15_2 hf
      refine lv_bipush (v := -4) hx hb dX6_keep_18 (by decide) ?_
      have e1 := Option.some.inj hf
      subst e1
      have hF : (((-4 : Int32), w) : Int32 × Md) = out := hF
      subst hF
      exact k_iret C0 hW dX6_keep_20
  · replace hf := if_t c6_1 hf
    refine lv_iconst (v := -1) hx hb dX6_keep_9 (by decide) ?_
    have e1 := Option.some.inj hf
    subst e1
    have hF : (((-1 : Int32), w) : Int32 × Md) = out := hF
    subst hF
    exact k_iret C0 hW dX6_keep_10

def f_X6_kinds_J89 (w : Md) (x1 : Int32) (x4 : Int32) (x5 : Int32) : Option (Int32 × Md) :=
  gd (inb x1 8) (some (x5, (md_set_kinds w (upd (md_kinds w) (ix x1) x4))))
def f_X6_kinds_J80 (w : Md) (x1 : Int32) (x2 : Int32) (x4 : Int32) (x6 : Int32) (t0 : Int32) (t1 : Int32) : Option ((Int32 × Int32 × Md) ⊕ (Int32 × Md)) :=
  some (Sum.inl ((t0 ||| t1), (x6 + (1 : Int32)), w))
def f_X6_kinds_B43 (x1 : Int32) (x2 : Int32) (x4 : Int32) (x5 : Int32) (x6 : Int32) (w : Md) : Option ((Int32 × Int32 × Md) ⊕ (Int32 × Md)) :=
  if (6 : Int32) ≤ x6 then (Option.map Sum.inr (f_X6_kinds_J89 w x1 x4 x5)) else (Option.bind (f_X6_copyNow w) (fun q51 => gd (inb x1 8) (Option.bind (f_X6_isSo (md_set_kinds q51 (upd (md_kinds q51) (ix x1) x6)) x2) (fun q66 => if q66.1 = 0 then (f_X6_kinds_J80 q66.2 x1 x2 x4 x6 x5 (0 : Int32)) else (f_X6_kinds_J80 q66.2 x1 x2 x4 x6 x5 (jshl (1 : Int32) x6))))))
def f_X6_kinds_L43 (x1 : Int32) (x2 : Int32) (x4 : Int32) (sg : Int32 × Int32 × Md) : Option ((Int32 × Int32 × Md) ⊕ (Int32 × Md)) := f_X6_kinds_B43 x1 x2 x4 sg.1 sg.2.1 sg.2.2
def f_X6_kinds (w : Md) (x1 : Int32) (x2 : Int32) : Option (Int32 × Md) :=
  Option.bind (f_X6_isSpoke w x1) (fun q2 => if q2 = 0 then (some ((-1 : Int32), w)) else (Option.bind (f_X6_isRow x2) (fun q9 => if q9 = 0 then (some ((-1 : Int32), w)) else (Option.bind (f_X6_needLimps w x2) (fun q19 => if 0 ≤ q19.1 then (gd (inb x1 8) (nm ((md_kinds q19.2) (ix x1)) (fun v35 => lp (f_X6_kinds_L43 x1 x2 v35) fuel ((0 : Int32), (0 : Int32), q19.2)))) else (some (q19.1, q19.2)))))))
set_option maxRecDepth 100000 in
set_option maxHeartbeats 1000000 in
theorem c_X6_kinds (l : Launch) (G : GG) (a : Nat → Nat) (o : Nat) (w : Md) (x1 : Int32) (x2 : Int32) (out : Int32 × Md) (hf : f_X6_kinds w x1 x2 = some out) : Cn l G 6 yX6_kinds cX6_kinds 7 (some .int) [.ref (a o), .int x1, .int x2] (bMd G a o w) (some (.int out.1)) (bMd G a o out.2) := by
  refine cn_start (by decide) (Nat.le_of_ble_eq_true rfl) ?_
  intro p e s m below meth c A ls C0 hW hl
  have hx := C0.1
  have hb := C0.2.1
  have hl : lv_has ls 7 [(0, .ref (a o)), (1, .int x1), (2, .int x2)] := hl
  have J89 : ∀ (x4 : Int32) (x5 : Int32) (w : Md) (r : Int32 × Md), f_X6_kinds_J89 w x1 x4 x5 = some r → (fun (r : Int32 × Md) => r = out) r → ∀ (H : Heap) (locs : List Loc) (ls : Array Slot), Wd G A s.heap H (bMd G a o w) locs → lv_has ls 7 [(0, .ref (a o)), (1, .int x1), (4, .int x4), (5, .int x5)] → WW p l e 6 s m [.ref (a o), .int x1, .int x2] below meth c G A (some (.int out.1)) ((bMd G a o out.2)) H locs 89 ls [] := by
    intro x4 x5 w r hf hF H locs ls hW hl
    unfold f_X6_kinds_J89 at hf
    refine lv_aload_n hx hb dX6_kinds_89 rfl (lv_at hl 0 rfl) ?_
    refine k_get C0 hW 6 21 0 (v := .ref (a (o + 12))) rfl (by decide) inX6 mf_X6_48 rfl rfl dX6_kinds_90 ?_
    refine lv_iload_n hx hb dX6_kinds_93 rfl (lv_at hl 1 rfl) ?_
    refine lv_iload hx hb dX6_kinds_94 (lv_at hl 2 rfl) ?_
    have g96_7 := (gd_some hf).1; replace hf := (gd_some hf).2
    refine k_iast C0 hW 12 (ix x1) rfl (inb_in g96_7) rfl dX6_kinds_96 (fun H locs hW => ?_)
    have hW : Wd G A s.heap H (bMd G a o (md_set_kinds w (upd (md_kinds w) (ix x1) x4))) locs := hW
    refine lv_iload hx hb dX6_kinds_97 (lv_at hl 3 rfl) ?_
    have e1 := Option.some.inj hf
    subst e1
    have hF : ((x5, (md_set_kinds w (upd (md_kinds w) (ix x1) x4))) : Int32 × Md) = out := hF
    subst hF
    exact k_iret C0 hW dX6_kinds_99
  have L43 : ∀ (x4 : Int32) (k8 : Nat) (sg : Int32 × Int32 × Md) (o9 : Int32 × Md), lp (f_X6_kinds_L43 x1 x2 x4) k8 sg = some o9 → (fun (r : Int32 × Md) => r = out) o9 → (fun (sg : Int32 × Int32 × Md) => ∀ (H : Heap) (locs : List Loc) (ls : Array Slot), Wd G A s.heap H (bMd G a o sg.2.2) locs → lv_has ls 7 [(0, .ref (a o)), (1, .int x1), (2, .int x2), (4, .int x4), (5, .int sg.1), (6, .int sg.2.1)] → WW p l e 6 s m [.ref (a o), .int x1, .int x2] below meth c G A (some (.int out.1)) ((bMd G a o out.2)) H locs 43 ls []) sg := by
    intro x4
    have J80 : ∀ (x6 : Int32) (t0 : Int32) (t1 : Int32) (w : Md) (r : (Int32 × Int32 × Md) ⊕ (Int32 × Md)), f_X6_kinds_J80 w x1 x2 x4 x6 t0 t1 = some r → (Sum.elim (fun (sg : Int32 × Int32 × Md) => ∀ (H : Heap) (locs : List Loc) (ls : Array Slot), Wd G A s.heap H (bMd G a o sg.2.2) locs → lv_has ls 7 [(0, .ref (a o)), (1, .int x1), (2, .int x2), (4, .int x4), (5, .int sg.1), (6, .int sg.2.1)] → WW p l e 6 s m [.ref (a o), .int x1, .int x2] below meth c G A (some (.int out.1)) ((bMd G a o out.2)) H locs 43 ls []) (fun (r : Int32 × Md) => r = out)) r → ∀ (H : Heap) (locs : List Loc) (ls : Array Slot), Wd G A s.heap H (bMd G a o w) locs → lv_has ls 7 [(0, .ref (a o)), (1, .int x1), (2, .int x2), (4, .int x4), (6, .int x6)] → WW p l e 6 s m [.ref (a o), .int x1, .int x2] below meth c G A (some (.int out.1)) ((bMd G a o out.2)) H locs 80 ls [.int t1, .int t0] := by
      intro x6 t0 t1 w r hf hF H locs ls hW hl
      unfold f_X6_kinds_J80 at hf
      refine lv_ior hx hb dX6_kinds_80 ?_
      refine lv_istore (lv' := [(5, .int (t0 ||| t1)), (0, .ref (a o)), (1, .int x1), (2, .int x2), (4, .int x4), (6, .int x6)]) hx hb dX6_kinds_81 hl (by decide) rfl (fun ls hl => ?_)
      refine lv_iinc (v := (x6 + (1 : Int32))) (lv' := [(6, .int (x6 + (1 : Int32))), (5, .int (t0 ||| t1)), (0, .ref (a o)), (1, .int x1), (2, .int x2), (4, .int x4)]) hx hb dX6_kinds_83 hl (k := 5) rfl rfl (by decide) rfl (fun ls hl => ?_)
      refine lv_goto (tgt := 43) hx hb dX6_kinds_86 (by decide) ?_
      have e1 := Option.some.inj hf
      subst e1
      exact (elim_l hF) _ _ _ hW (lv_sub hl [2, 3, 4, 5, 1, 0] rfl)
    have B43 : ∀ (x5 : Int32) (x6 : Int32) (w : Md) (r : (Int32 × Int32 × Md) ⊕ (Int32 × Md)), f_X6_kinds_B43 x1 x2 x4 x5 x6 w = some r → (Sum.elim (fun (sg : Int32 × Int32 × Md) => ∀ (H : Heap) (locs : List Loc) (ls : Array Slot), Wd G A s.heap H (bMd G a o sg.2.2) locs → lv_has ls 7 [(0, .ref (a o)), (1, .int x1), (2, .int x2), (4, .int x4), (5, .int sg.1), (6, .int sg.2.1)] → WW p l e 6 s m [.ref (a o), .int x1, .int x2] below meth c G A (some (.int out.1)) ((bMd G a o out.2)) H locs 43 ls []) (fun (r : Int32 × Md) => r = out)) r → ∀ (H : Heap) (locs : List Loc) (ls : Array Slot), Wd G A s.heap H (bMd G a o w) locs → lv_has ls 7 [(0, .ref (a o)), (1, .int x1), (2, .int x2), (4, .int x4), (5, .int x5), (6, .int x6)] → WW p l e 6 s m [.ref (a o), .int x1, .int x2] below meth c G A (some (.int out.1)) ((bMd G a o out.2)) H locs 43 ls [] := by
      intro x5 x6 w r hf hF H locs ls hW hl
      unfold f_X6_kinds_B43 at hf
      refine lv_iload hx hb dX6_kinds_43 (lv_at hl 5 rfl) ?_
      refine lv_bipush (v := 6) hx hb dX6_kinds_45 (by decide) ?_
      refine lv_icmp_ge (tgt := 89) hx hb dX6_kinds_47 (by decide) (fun c47_6 => ?_) (fun c47_6 => ?_)
      · replace hf := if_t c47_6 hf
        obtain ⟨r2, e2⟩ := om_s hf
        replace hf := e2.1
        replace e2 := e2.2
        subst e2
        replace hF := elim_r hF
        exact J89 _ _ _ _ hf hF _ _ _ hW (lv_sub hl [0, 1, 3, 4] rfl)
      · replace hf := if_f c47_6 hf
        refine lv_aload_n hx hb dX6_kinds_50 rfl (lv_at hl 0 rfl) ?_
        obtain ⟨q51, hq51⟩ := ob_s hf
        replace hf := hq51.2
        replace hq51 := hq51.1
        refine cW1 (rest := []) (ws1 := (bMd G a o q51)) (st1 := []) C0 hW hl.1 (c_X6_copyNow l G a o w _ hq51) cb_X6_copyNow mm_X6_203 fst_Md 0 6 rfl rfl rfl (by decide) rfl rfl (Nat.le_of_ble_eq_true rfl) ⟨Nat.zero_le _, Nat.zero_le _⟩ dX6_kinds_51 rfl (fun H locs hW => ?_)
        refine lv_aload_n hx hb dX6_kinds_54 rfl (lv_at hl 0 rfl) ?_
        refine k_get C0 hW 6 21 0 (v := .ref (a (o + 12))) rfl (by decide) inX6 mf_X6_48 rfl rfl dX6_kinds_55 ?_
        refine lv_iload_n hx hb dX6_kinds_58 rfl (lv_at hl 1 rfl) ?_
        refine lv_iload hx hb dX6_kinds_59 (lv_at hl 5 rfl) ?_
        have g61_8 := (gd_some hf).1; replace hf := (gd_some hf).2
        refine k_iast C0 hW 12 (ix x1) rfl (inb_in g61_8) rfl dX6_kinds_61 (fun H locs hW => ?_)
        have hW : Wd G A s.heap H (bMd G a o (md_set_kinds q51 (upd (md_kinds q51) (ix x1) x6))) locs := hW
        refine lv_iload hx hb dX6_kinds_62 (lv_at hl 4 rfl) ?_
        refine lv_aload_n hx hb dX6_kinds_64 rfl (lv_at hl 0 rfl) ?_
        refine lv_iload_n hx hb dX6_kinds_65 rfl (lv_at hl 2 rfl) ?_
        obtain ⟨q66, hq66⟩ := ob_s hf
        replace hf := hq66.2
        replace hq66 := hq66.1
        refine cW1 (rest := [.int x5]) (ws1 := (bMd G a o q66.2)) (st1 := [.int q66.1, .int x5]) C0 hW hl.1 (c_X6_isSo l G a o (md_set_kinds q51 (upd (md_kinds q51) (ix x1) x6)) x2 _ hq66) cb_X6_isSo mm_X6_235 fst_Md 0 6 rfl rfl rfl (by decide) rfl rfl (Nat.le_of_ble_eq_true rfl) ⟨Nat.zero_le _, Nat.zero_le _⟩ dX6_kinds_66 rfl (fun H locs hW => ?_)
        refine lv_if_eq (tgt := 79) hx hb dX6_kinds_69 (by decide) (fun c69_9 => ?_) (fun c69_9 => ?_)
        · replace hf := if_t c69_9 hf
          refine lv_iconst (v := 0) hx hb dX6_kinds_79 (by decide) ?_
          exact J80 _ _ _ _ _ hf hF _ _ _ hW (lv_sub hl [0, 1, 2, 3, 5] rfl)
        · replace hf := if_f c69_9 hf
          refine lv_iconst (v := 1) hx hb dX6_kinds_72 (by decide) ?_
          refine lv_iload hx hb dX6_kinds_73 (lv_at hl 5 rfl) ?_
          refine lv_ishl hx hb dX6_kinds_75 ?_
          refine lv_goto (tgt := 80) hx hb dX6_kinds_76 (by decide) ?_
          exact J80 _ _ _ _ _ hf hF _ _ _ hW (lv_sub hl [0, 1, 2, 3, 5] rfl)
    exact lp_sound (fun sg r hb hz => B43 sg.1 sg.2.1 sg.2.2 r hb hz)
  obtain ⟨r, hr⟩ : ∃ r, f_X6_kinds w x1 x2 = some r ∧ r = out := ⟨out, hf, rfl⟩
  replace hf := hr.1
  have hF := hr.2
  clear hr
  unfold f_X6_kinds at hf
  refine lv_aload_n hx hb dX6_kinds_0 rfl (lv_at hl 0 rfl) ?_
  refine lv_iload_n hx hb dX6_kinds_1 rfl (lv_at hl 1 rfl) ?_
  obtain ⟨q2, hq2⟩ := ob_s hf
  replace hf := hq2.2
  replace hq2 := hq2.1
  refine cW1 (rest := []) (ws1 := (bMd G a o w)) (st1 := [.int q2]) C0 hW hl.1 (c_X6_isSpoke l G a o w x1 _ hq2) cb_X6_isSpoke mm_X6_169 fst_Md 0 6 rfl rfl rfl (by decide) rfl rfl (Nat.le_of_ble_eq_true rfl) ⟨Nat.zero_le _, Nat.zero_le _⟩ dX6_kinds_2 rfl (fun H locs hW => ?_)
  refine lv_if_eq (tgt := 15) hx hb dX6_kinds_5 (by decide) (fun c5_1 => ?_) (fun c5_1 => ?_)
  · replace hf := if_t c5_1 hf
    refine lv_iconst (v := -1) hx hb dX6_kinds_15 (by decide) ?_
    have e1 := Option.some.inj hf
    subst e1
    have hF : (((-1 : Int32), w) : Int32 × Md) = out := hF
    subst hF
    exact k_iret C0 hW dX6_kinds_16
  · replace hf := if_f c5_1 hf
    refine lv_iload_n hx hb dX6_kinds_8 rfl (lv_at hl 2 rfl) ?_
    obtain ⟨q9, hq9⟩ := ob_s hf
    replace hf := hq9.2
    replace hq9 := hq9.1
    refine cS0 (rest := []) (st1 := [.int q9]) C0 hW hl.1 (c_X6_isRow l G x2 _ hq9) cb_X6_isRow mm_X6_93 [] rfl rfl (by decide) rfl rfl (Nat.le_of_ble_eq_true rfl) ⟨Nat.zero_le _, Nat.zero_le _⟩ dX6_kinds_9 rfl (fun H locs hW => ?_)
    refine lv_if_ne (tgt := 17) hx hb dX6_kinds_12 (by decide) (fun c12_2 => ?_) (fun c12_2 => ?_)
    · replace hf := if_f c12_2 hf
      refine lv_aload_n hx hb dX6_kinds_17 rfl (lv_at hl 0 rfl) ?_
      refine lv_iload_n hx hb dX6_kinds_18 rfl (lv_at hl 2 rfl) ?_
      obtain ⟨q19, hq19⟩ := ob_s hf
      replace hf := hq19.2
      replace hq19 := hq19.1
      refine cW1 (rest := []) (ws1 := (bMd G a o q19.2)) (st1 := [.int q19.1]) C0 hW hl.1 (c_X6_needLimps l G a o w x2 _ hq19) cb_X6_needLimps mm_X6_232 fst_Md 0 6 rfl rfl rfl (by decide) rfl rfl (Nat.le_of_ble_eq_true rfl) ⟨Nat.zero_le _, Nat.zero_le _⟩ dX6_kinds_19 rfl (fun H locs hW => ?_)
      refine lv_istore_n (lv' := [(3, .int q19.1), (0, .ref (a o)), (1, .int x1), (2, .int x2)]) hx hb dX6_kinds_22 rfl hl (by decide) rfl (fun ls hl => ?_)
      refine lv_iload_n hx hb dX6_kinds_23 rfl (lv_at hl 0 rfl) ?_
      refine lv_if_ge (tgt := 29) hx hb dX6_kinds_24 (by decide) (fun c24_3 => ?_) (fun c24_3 => ?_)
      · replace hf := if_t c24_3 hf
        refine lv_aload_n hx hb dX6_kinds_29 rfl (lv_at hl 1 rfl) ?_
        refine k_get C0 hW 6 21 0 (v := .ref (a (o + 12))) rfl (by decide) inX6 mf_X6_48 rfl rfl dX6_kinds_30 ?_
        refine lv_iload_n hx hb dX6_kinds_33 rfl (lv_at hl 2 rfl) ?_
        have g34_4 := (gd_some hf).1; replace hf := (gd_some hf).2
        refine k_iald C0 hW 12 (ix x1) rfl (inb_in g34_4) rfl dX6_kinds_34 ?_
        refine lv_topi (fun v35 ev35 => ?_)
        replace hf := nm_s ev35 hf
        refine lv_istore (lv' := [(4, .int v35), (3, .int q19.1), (0, .ref (a o)), (1, .int x1), (2, .int x2)]) hx hb dX6_kinds_35 hl (by decide) rfl (fun ls hl => ?_)
        refine lv_iconst (v := 0) hx hb dX6_kinds_37 (by decide) ?_
        refine lv_istore (lv' := [(5, .int (0 : Int32)), (4, .int v35), (3, .int q19.1), (0, .ref (a o)), (1, .int x1), (2, .int x2)]) hx hb dX6_kinds_38 hl (by decide) rfl (fun ls hl => ?_)
        refine lv_iconst (v := 0) hx hb dX6_kinds_40 (by decide) ?_
        refine lv_istore (lv' := [(6, .int (0 : Int32)), (5, .int (0 : Int32)), (4, .int v35), (3, .int q19.1), (0, .ref (a o)), (1, .int x1), (2, .int x2)]) hx hb dX6_kinds_41 hl (by decide) rfl (fun ls hl => ?_)
        exact L43 _ fuel ((0 : Int32), (0 : Int32), q19.2) _ hf hF _ _ _ hW (lv_sub hl [4, 5, 6, 2, 1, 0] rfl)
      · replace hf := if_f c24_3 hf
        refine lv_iload_n hx hb dX6_kinds_27 rfl (lv_at hl 0 rfl) ?_
        have e1 := Option.some.inj hf
        subst e1
        have hF : ((q19.1, q19.2) : Int32 × Md) = out := hF
        subst hF
        exact k_iret C0 hW dX6_kinds_28
    · replace hf := if_t c12_2 hf
      refine lv_iconst (v := -1) hx hb dX6_kinds_15 (by decide) ?_
      have e1 := Option.some.inj hf
      subst e1
      have hF : (((-1 : Int32), w) : Int32 × Md) = out := hF
      subst hF
      exact k_iret C0 hW dX6_kinds_16

def f_X6_remember_J34 (w : Md) : Option (Md) :=
  some (md_set_deedMany w ((md_deedMany w) + (1 : Int32)))
def f_X6_remember_B2 (x1 : Int32) (w : Md) : Option ((Int32 × Md) ⊕ (Md)) :=
  if (12 : Int32) ≤ x1 then (Option.map Sum.inr (f_X6_remember_J34 w)) else (gd (inb x1 12) (gd (inb (((12 : Int32) * (md_deedMany w)) + x1) 480) (some (Sum.inl ((x1 + (1 : Int32)), (md_set_log w (upd (md_log w) (ix (((12 : Int32) * (md_deedMany w)) + x1)) ((md_now w) (ix x1)))))))))
def f_X6_remember_L2 (sg : Int32 × Md) : Option ((Int32 × Md) ⊕ (Md)) := f_X6_remember_B2 sg.1 sg.2
def f_X6_remember (w : Md) : Option (Md) :=
  lp (f_X6_remember_L2) fuel ((0 : Int32), w)
set_option maxRecDepth 100000 in
set_option maxHeartbeats 1000000 in
theorem c_X6_remember (l : Launch) (G : GG) (a : Nat → Nat) (o : Nat) (w : Md) (out : Md) (hf : f_X6_remember w = some out) : Cn l G 0 yX6_remember cX6_remember 2 (none) [.ref (a o)] (bMd G a o w) (none) (bMd G a o out) := by
  refine cn_start (by decide) (Nat.le_of_ble_eq_true rfl) ?_
  intro p e s m below meth c A ls C0 hW hl
  have hx := C0.1
  have hb := C0.2.1
  have hl : lv_has ls 2 [(0, .ref (a o))] := hl
  have J34 : ∀ (w : Md) (r : Md), f_X6_remember_J34 w = some r → (fun (r : Md) => r = out) r → ∀ (H : Heap) (locs : List Loc) (ls : Array Slot), Wd G A s.heap H (bMd G a o w) locs → lv_has ls 2 [(0, .ref (a o))] → WW p l e 0 s m [.ref (a o)] below meth c G A (none) ((bMd G a o out)) H locs 34 ls [] := by
    intro w r hf hF H locs ls hW hl
    unfold f_X6_remember_J34 at hf
    refine lv_aload_n hx hb dX6_remember_34 rfl (lv_at hl 0 rfl) ?_
    refine lv_dup hx hb dX6_remember_35 rfl ?_
    refine k_get C0 hW 6 26 0 (v := .int (md_deedMany w)) rfl (by decide) inX6 mf_X6_148 rfl rfl dX6_remember_36 ?_
    refine lv_iconst (v := 1) hx hb dX6_remember_39 (by decide) ?_
    refine lv_iadd hx hb dX6_remember_40 ?_
    refine k_put C0 hW 6 26 0 rfl (by decide) inX6 tyX6_ok nmX6 mf_X6_148 rfl rfl rfl rfl (Nat.le_of_ble_eq_true rfl) dX6_remember_41 (fun H locs hW => ?_)
    have hW : Wd G A s.heap H (bMd G a o (md_set_deedMany w ((md_deedMany w) + (1 : Int32)))) locs := hW
    have e1 := Option.some.inj hf
    subst e1
    have hF : ((md_set_deedMany w ((md_deedMany w) + (1 : Int32))) : Md) = out := hF
    subst hF
    exact k_vret C0 hW dX6_remember_44
  have L2 : ∀ (k8 : Nat) (sg : Int32 × Md) (o9 : Md), lp (f_X6_remember_L2) k8 sg = some o9 → (fun (r : Md) => r = out) o9 → (fun (sg : Int32 × Md) => ∀ (H : Heap) (locs : List Loc) (ls : Array Slot), Wd G A s.heap H (bMd G a o sg.2) locs → lv_has ls 2 [(0, .ref (a o)), (1, .int sg.1)] → WW p l e 0 s m [.ref (a o)] below meth c G A (none) ((bMd G a o out)) H locs 2 ls []) sg := by
    have B2 : ∀ (x1 : Int32) (w : Md) (r : (Int32 × Md) ⊕ (Md)), f_X6_remember_B2 x1 w = some r → (Sum.elim (fun (sg : Int32 × Md) => ∀ (H : Heap) (locs : List Loc) (ls : Array Slot), Wd G A s.heap H (bMd G a o sg.2) locs → lv_has ls 2 [(0, .ref (a o)), (1, .int sg.1)] → WW p l e 0 s m [.ref (a o)] below meth c G A (none) ((bMd G a o out)) H locs 2 ls []) (fun (r : Md) => r = out)) r → ∀ (H : Heap) (locs : List Loc) (ls : Array Slot), Wd G A s.heap H (bMd G a o w) locs → lv_has ls 2 [(0, .ref (a o)), (1, .int x1)] → WW p l e 0 s m [.ref (a o)] below meth c G A (none) ((bMd G a o out)) H locs 2 ls [] := by
      intro x1 w r hf hF H locs ls hW hl
      unfold f_X6_remember_B2 at hf
      refine lv_iload_n hx hb dX6_remember_2 rfl (lv_at hl 1 rfl) ?_
      refine lv_bipush (v := 12) hx hb dX6_remember_3 (by decide) ?_
      refine lv_icmp_ge (tgt := 34) hx hb dX6_remember_5 (by decide) (fun c5_1 => ?_) (fun c5_1 => ?_)
      · replace hf := if_t c5_1 hf
        obtain ⟨r2, e2⟩ := om_s hf
        replace hf := e2.1
        replace e2 := e2.2
        subst e2
        replace hF := elim_r hF
        exact J34 _ _ hf hF _ _ _ hW (lv_sub hl [0] rfl)
      · replace hf := if_f c5_1 hf
        refine lv_aload_n hx hb dX6_remember_8 rfl (lv_at hl 0 rfl) ?_
        refine k_get C0 hW 6 27 0 (v := .ref (a (o + 17))) rfl (by decide) inX6 mf_X6_63 rfl rfl dX6_remember_9 ?_
        refine lv_bipush (v := 12) hx hb dX6_remember_12 (by decide) ?_
        refine lv_aload_n hx hb dX6_remember_14 rfl (lv_at hl 0 rfl) ?_
        refine k_get C0 hW 6 26 0 (v := .int (md_deedMany w)) rfl (by decide) inX6 mf_X6_148 rfl rfl dX6_remember_15 ?_
        refine lv_imul hx hb dX6_remember_18 ?_
        refine lv_iload_n hx hb dX6_remember_19 rfl (lv_at hl 1 rfl) ?_
        refine lv_iadd hx hb dX6_remember_20 ?_
        refine lv_aload_n hx hb dX6_remember_21 rfl (lv_at hl 0 rfl) ?_
        refine k_get C0 hW 6 24 0 (v := .ref (a (o + 15))) rfl (by decide) inX6 mf_X6_57 rfl rfl dX6_remember_22 ?_
        refine lv_iload_n hx hb dX6_remember_25 rfl (lv_at hl 1 rfl) ?_
        have g26_2 := (gd_some hf).1; replace hf := (gd_some hf).2
        refine k_iald C0 hW 15 (ix x1) rfl (inb_in g26_2) rfl dX6_remember_26 ?_
        have g27_3 := (gd_some hf).1; replace hf := (gd_some hf).2
        refine k_iast C0 hW 17 (ix (((12 : Int32) * (md_deedMany w)) + x1)) rfl (inb_in g27_3) rfl dX6_remember_27 (fun H locs hW => ?_)
        have hW : Wd G A s.heap H (bMd G a o (md_set_log w (upd (md_log w) (ix (((12 : Int32) * (md_deedMany w)) + x1)) ((md_now w) (ix x1))))) locs := hW
        refine lv_iinc (v := (x1 + (1 : Int32))) (lv' := [(1, .int (x1 + (1 : Int32))), (0, .ref (a o))]) hx hb dX6_remember_28 hl (k := 1) rfl rfl (by decide) rfl (fun ls hl => ?_)
        refine lv_goto (tgt := 2) hx hb dX6_remember_31 (by decide) ?_
        have e1 := Option.some.inj hf
        subst e1
        exact (elim_l hF) _ _ _ hW (lv_sub hl [1, 0] rfl)
    exact lp_sound (fun sg r hb hz => B2 sg.1 sg.2 r hb hz)
  obtain ⟨r, hr⟩ : ∃ r, f_X6_remember w = some r ∧ r = out := ⟨out, hf, rfl⟩
  replace hf := hr.1
  have hF := hr.2
  clear hr
  unfold f_X6_remember at hf
  refine lv_iconst (v := 0) hx hb dX6_remember_0 (by decide) ?_
  refine lv_istore_n (lv' := [(1, .int (0 : Int32)), (0, .ref (a o))]) hx hb dX6_remember_1 rfl hl (by decide) rfl (fun ls hl => ?_)
  exact L2  fuel ((0 : Int32), w) _ hf hF _ _ _ hW (lv_sub hl [1, 0] rfl)

def f_X6_knock (w : Md) (x1 : Int32) : Option (Int32 × Md) :=
  Option.bind (f_X6_isSpoke w x1) (fun q2 => if q2 = 0 then (some ((-1 : Int32), w)) else (Option.bind (f_X6_has ((md_now w) 3) x1) (fun q17 => if q17 = 0 then (some ((-4 : Int32), w)) else (if (md_deedMany w) = (40 : Int32) then (some ((-2 : Int32), w)) else (Option.bind (f_X6_remember w) (fun q39 => gd (inb ((4 : Int32) + x1) 12) (some (((upd (md_now q39) 3 (((md_now q39) 3) &&& ((jshl (1 : Int32) x1) ^^^ (-1 : Int32)))) (ix ((4 : Int32) + x1))), (md_set_now q39 (upd (md_now q39) 3 (((md_now q39) 3) &&& ((jshl (1 : Int32) x1) ^^^ (-1 : Int32)))))))))))))
set_option maxRecDepth 100000 in
set_option maxHeartbeats 1000000 in
theorem c_X6_knock (l : Launch) (G : GG) (a : Nat → Nat) (o : Nat) (w : Md) (x1 : Int32) (out : Int32 × Md) (hf : f_X6_knock w x1 = some out) : Cn l G 2 yX6_knock cX6_knock 2 (some .int) [.ref (a o), .int x1] (bMd G a o w) (some (.int out.1)) (bMd G a o out.2) := by
  refine cn_start (by decide) (Nat.le_of_ble_eq_true rfl) ?_
  intro p e s m below meth c A ls C0 hW hl
  have hx := C0.1
  have hb := C0.2.1
  have hl : lv_has ls 2 [(0, .ref (a o)), (1, .int x1)] := hl
  obtain ⟨r, hr⟩ : ∃ r, f_X6_knock w x1 = some r ∧ r = out := ⟨out, hf, rfl⟩
  replace hf := hr.1
  have hF := hr.2
  clear hr
  unfold f_X6_knock at hf
  refine lv_aload_n hx hb dX6_knock_0 rfl (lv_at hl 0 rfl) ?_
  refine lv_iload_n hx hb dX6_knock_1 rfl (lv_at hl 1 rfl) ?_
  obtain ⟨q2, hq2⟩ := ob_s hf
  replace hf := hq2.2
  replace hq2 := hq2.1
  refine cW1 (rest := []) (ws1 := (bMd G a o w)) (st1 := [.int q2]) C0 hW hl.1 (c_X6_isSpoke l G a o w x1 _ hq2) cb_X6_isSpoke mm_X6_169 fst_Md 0 6 rfl rfl rfl (by decide) rfl rfl (Nat.le_of_ble_eq_true rfl) ⟨Nat.zero_le _, Nat.zero_le _⟩ dX6_knock_2 rfl (fun H locs hW => ?_)
  refine lv_if_ne (tgt := 10) hx hb dX6_knock_5 (by decide) (fun c5_1 => ?_) (fun c5_1 => ?_)
  · replace hf := if_f c5_1 hf
    refine lv_aload_n hx hb dX6_knock_10 rfl (lv_at hl 0 rfl) ?_
    refine k_get C0 hW 6 24 0 (v := .ref (a (o + 15))) rfl (by decide) inX6 mf_X6_57 rfl rfl dX6_knock_11 ?_
    refine lv_iconst (v := 3) hx hb dX6_knock_14 (by decide) ?_
    refine k_iald C0 hW 15 3 rfl (inb_in rfl) rfl dX6_knock_15 ?_
    refine lv_iload_n hx hb dX6_knock_16 rfl (lv_at hl 1 rfl) ?_
    obtain ⟨q17, hq17⟩ := ob_s hf
    replace hf := hq17.2
    replace hq17 := hq17.1
    refine cS0 (rest := []) (st1 := [.int q17]) C0 hW hl.1 (c_X6_has l G ((md_now w) 3) x1 _ hq17) cb_X6_has mm_X6_158 [] rfl rfl (by decide) rfl rfl (Nat.le_of_ble_eq_true rfl) ⟨Nat.zero_le _, Nat.zero_le _⟩ dX6_knock_17 rfl (fun H locs hW => ?_)
    refine lv_if_ne (tgt := 26) hx hb dX6_knock_20 (by decide) (fun c20_2 => ?_) (fun c20_2 => ?_)
    · replace hf := if_f c20_2 hf
      refine lv_aload_n hx hb dX6_knock_26 rfl (lv_at hl 0 rfl) ?_
      refine k_get C0 hW 6 26 0 (v := .int (md_deedMany w)) rfl (by decide) inX6 mf_X6_148 rfl rfl dX6_knock_27 ?_
      refine lv_bipush (v := 40) hx hb dX6_knock_30 (by decide) ?_
      refine lv_icmp_ne (tgt := 38) hx hb dX6_knock_32 (by decide) (fun c32_3 => ?_) (fun c32_3 => ?_)
      · replace hf := if_f c32_3 hf
        refine lv_aload_n hx hb dX6_knock_38 rfl (lv_at hl 0 rfl) ?_
        obtain ⟨q39, hq39⟩ := ob_s hf
        replace hf := hq39.2
        replace hq39 := hq39.1
        refine cW1 (rest := []) (ws1 := (bMd G a o q39)) (st1 := []) C0 hW hl.1 (c_X6_remember l G a o w _ hq39) cb_X6_remember mm_X6_185 fst_Md 0 6 rfl rfl rfl (by decide) rfl rfl (Nat.le_of_ble_eq_true rfl) ⟨Nat.zero_le _, Nat.zero_le _⟩ dX6_knock_39 rfl (fun H locs hW => ?_)
        refine lv_aload_n hx hb dX6_knock_42 rfl (lv_at hl 0 rfl) ?_
        refine k_get C0 hW 6 24 0 (v := .ref (a (o + 15))) rfl (by decide) inX6 mf_X6_57 rfl rfl dX6_knock_43 ?_
        refine lv_iconst (v := 3) hx hb dX6_knock_46 (by decide) ?_
        refine lv_dup2_11 hx hb dX6_knock_47 rfl rfl ?_
        refine k_iald C0 hW 15 3 rfl (inb_in rfl) rfl dX6_knock_48 ?_
        refine lv_iconst (v := 1) hx hb dX6_knock_49 (by decide) ?_
        refine lv_iload_n hx hb dX6_knock_50 rfl (lv_at hl 1 rfl) ?_
        refine lv_ishl hx hb dX6_knock_51 ?_
        refine lv_iconst (v := -1) hx hb dX6_knock_52 (by decide) ?_
        refine lv_ixor hx hb dX6_knock_53 ?_
        refine lv_iand hx hb dX6_knock_54 ?_
        refine k_iast C0 hW 15 3 rfl (inb_in rfl) rfl dX6_knock_55 (fun H locs hW => ?_)
        have hW : Wd G A s.heap H (bMd G a o (md_set_now q39 (upd (md_now q39) 3 (((md_now q39) 3) &&& ((jshl (1 : Int32) x1) ^^^ (-1 : Int32)))))) locs := hW
        refine lv_aload_n hx hb dX6_knock_56 rfl (lv_at hl 0 rfl) ?_
        refine k_get C0 hW 6 24 0 (v := .ref (a (o + 15))) rfl (by decide) inX6 mf_X6_57 rfl rfl dX6_knock_57 ?_
        refine lv_iconst (v := 4) hx hb dX6_knock_60 (by decide) ?_
        refine lv_iload_n hx hb dX6_knock_61 rfl (lv_at hl 1 rfl) ?_
        refine lv_iadd hx hb dX6_knock_62 ?_
        have g63_4 := (gd_some hf).1; replace hf := (gd_some hf).2
        refine k_iald C0 hW 15 (ix ((4 : Int32) + x1)) rfl (inb_in g63_4) rfl dX6_knock_63 ?_
        have e1 := Option.some.inj hf
        subst e1
        have hF : ((((upd (md_now q39) 3 (((md_now q39) 3) &&& ((jshl (1 : Int32) x1) ^^^ (-1 : Int32)))) (ix ((4 : Int32) + x1))), (md_set_now q39 (upd (md_now q39) 3 (((md_now q39) 3) &&& ((jshl (1 : Int32) x1) ^^^ (-1 : Int32)))))) : Int32 × Md) = out := hF
        subst hF
        exact k_iret C0 hW dX6_knock_64
      · replace hf := if_t c32_3 hf
        refine lv_bipush (v := -2) hx hb dX6_knock_35 (by decide) ?_
        have e1 := Option.some.inj hf
        subst e1
        have hF : (((-2 : Int32), w) : Int32 × Md) = out := hF
        subst hF
        exact k_iret C0 hW dX6_knock_37
    · replace hf := if_t c20_2 hf
      refine lv_bipush (v := -4) hx hb dX6_knock_23 (by decide) ?_
      have e1 := Option.some.inj hf
      subst e1
      have hF : (((-4 : Int32), w) : Int32 × Md) = out := hF
      subst hF
      exact k_iret C0 hW dX6_knock_25
  · replace hf := if_t c5_1 hf
    refine lv_iconst (v := -1) hx hb dX6_knock_8 (by decide) ?_
    have e1 := Option.some.inj hf
    subst e1
    have hF : (((-1 : Int32), w) : Int32 × Md) = out := hF
    subst hF
    exact k_iret C0 hW dX6_knock_9

def f_X6_lay (w : Md) (x1 : Int32) (x2 : Int32) (x3 : Int32) : Option (Int32 × Md) :=
  Option.bind (f_X6_isRow x1) (fun q1 => if q1 = 0 then (some ((-1 : Int32), w)) else (gd (inb x1 6) (if 0 ≤ ((md_sizes w) (ix x1)) then (gd (inb x1 6) (Option.bind (f_X6_in x2 (0 : Int32) (((md_sizes w) (ix x1)) - (1 : Int32))) (fun q34 => if q34 = 0 then (Option.bind (f_X6_meets w (2 : Int32)) (fun q42 => some (q42.1, q42.2))) else (Option.bind (f_X6_rowAt w x1 x2) (fun q49 => gd (inb (((40 : Int32) * x1) + x2) 240) (Option.bind (f_X6_tells (md_set_rows w (upd (md_rows w) (ix (((40 : Int32) * x1) + x2)) x3)) q49 (1 : Int32)) (fun q70 => some (q70.1, q70.2)))))))) else (Option.bind (f_X6_meets w (1 : Int32)) (fun q20 => some (q20.1, q20.2))))))
set_option maxRecDepth 100000 in
set_option maxHeartbeats 1000000 in
theorem c_X6_lay (l : Launch) (G : GG) (a : Nat → Nat) (o : Nat) (w : Md) (x1 : Int32) (x2 : Int32) (x3 : Int32) (out : Int32 × Md) (hf : f_X6_lay w x1 x2 x3 = some out) : Cn l G 2 yX6_lay cX6_lay 5 (some .int) [.ref (a o), .int x1, .int x2, .int x3] (bMd G a o w) (some (.int out.1)) (bMd G a o out.2) := by
  refine cn_start (by decide) (Nat.le_of_ble_eq_true rfl) ?_
  intro p e s m below meth c A ls C0 hW hl
  have hx := C0.1
  have hb := C0.2.1
  have hl : lv_has ls 5 [(0, .ref (a o)), (1, .int x1), (2, .int x2), (3, .int x3)] := hl
  obtain ⟨r, hr⟩ : ∃ r, f_X6_lay w x1 x2 x3 = some r ∧ r = out := ⟨out, hf, rfl⟩
  replace hf := hr.1
  have hF := hr.2
  clear hr
  unfold f_X6_lay at hf
  refine lv_iload_n hx hb dX6_lay_0 rfl (lv_at hl 1 rfl) ?_
  obtain ⟨q1, hq1⟩ := ob_s hf
  replace hf := hq1.2
  replace hq1 := hq1.1
  refine cS0 (rest := []) (st1 := [.int q1]) C0 hW hl.1 (c_X6_isRow l G x1 _ hq1) cb_X6_isRow mm_X6_93 [] rfl rfl (by decide) rfl rfl (Nat.le_of_ble_eq_true rfl) ⟨Nat.zero_le _, Nat.zero_le _⟩ dX6_lay_1 rfl (fun H locs hW => ?_)
  refine lv_if_ne (tgt := 9) hx hb dX6_lay_4 (by decide) (fun c4_1 => ?_) (fun c4_1 => ?_)
  · replace hf := if_f c4_1 hf
    refine lv_aload_n hx hb dX6_lay_9 rfl (lv_at hl 0 rfl) ?_
    refine k_get C0 hW 6 5 0 (v := .ref (a (o + 2))) rfl (by decide) inX6 mf_X6_17 rfl rfl dX6_lay_10 ?_
    refine lv_iload_n hx hb dX6_lay_13 rfl (lv_at hl 1 rfl) ?_
    have g14_2 := (gd_some hf).1; replace hf := (gd_some hf).2
    refine k_iald C0 hW 2 (ix x1) rfl (inb_in g14_2) rfl dX6_lay_14 ?_
    refine lv_if_ge (tgt := 24) hx hb dX6_lay_15 (by decide) (fun c15_3 => ?_) (fun c15_3 => ?_)
    · replace hf := if_t c15_3 hf
      refine lv_iload_n hx hb dX6_lay_24 rfl (lv_at hl 2 rfl) ?_
      refine lv_iconst (v := 0) hx hb dX6_lay_25 (by decide) ?_
      refine lv_aload_n hx hb dX6_lay_26 rfl (lv_at hl 0 rfl) ?_
      refine k_get C0 hW 6 5 0 (v := .ref (a (o + 2))) rfl (by decide) inX6 mf_X6_17 rfl rfl dX6_lay_27 ?_
      refine lv_iload_n hx hb dX6_lay_30 rfl (lv_at hl 1 rfl) ?_
      have g31_4 := (gd_some hf).1; replace hf := (gd_some hf).2
      refine k_iald C0 hW 2 (ix x1) rfl (inb_in g31_4) rfl dX6_lay_31 ?_
      refine lv_iconst (v := 1) hx hb dX6_lay_32 (by decide) ?_
      refine lv_isub hx hb dX6_lay_33 ?_
      obtain ⟨q34, hq34⟩ := ob_s hf
      replace hf := hq34.2
      replace hq34 := hq34.1
      refine cS0 (rest := []) (st1 := [.int q34]) C0 hW hl.1 (c_X6_in l G x2 (0 : Int32) (((md_sizes w) (ix x1)) - (1 : Int32)) _ hq34) cb_X6_in mm_X6_89 [] rfl rfl (by decide) rfl rfl (Nat.le_of_ble_eq_true rfl) ⟨Nat.zero_le _, Nat.zero_le _⟩ dX6_lay_34 rfl (fun H locs hW => ?_)
      refine lv_if_ne (tgt := 46) hx hb dX6_lay_37 (by decide) (fun c37_5 => ?_) (fun c37_5 => ?_)
      · replace hf := if_f c37_5 hf
        refine lv_aload_n hx hb dX6_lay_46 rfl (lv_at hl 0 rfl) ?_
        refine lv_iload_n hx hb dX6_lay_47 rfl (lv_at hl 1 rfl) ?_
        refine lv_iload_n hx hb dX6_lay_48 rfl (lv_at hl 2 rfl) ?_
        obtain ⟨q49, hq49⟩ := ob_s hf
        replace hf := hq49.2
        replace hq49 := hq49.1
        refine cW1 (rest := []) (ws1 := (bMd G a o w)) (st1 := [.int q49]) C0 hW hl.1 (c_X6_rowAt l G a o w x1 x2 _ hq49) cb_X6_rowAt mm_X6_101 fst_Md 0 6 rfl rfl rfl (by decide) rfl rfl (Nat.le_of_ble_eq_true rfl) ⟨Nat.zero_le _, Nat.zero_le _⟩ dX6_lay_49 rfl (fun H locs hW => ?_)
        refine lv_istore (lv' := [(4, .int q49), (0, .ref (a o)), (1, .int x1), (2, .int x2), (3, .int x3)]) hx hb dX6_lay_52 hl (by decide) rfl (fun ls hl => ?_)
        refine lv_aload_n hx hb dX6_lay_54 rfl (lv_at hl 1 rfl) ?_
        refine k_get C0 hW 6 6 0 (v := .ref (a (o + 3))) rfl (by decide) inX6 mf_X6_20 rfl rfl dX6_lay_55 ?_
        refine lv_bipush (v := 40) hx hb dX6_lay_58 (by decide) ?_
        refine lv_iload_n hx hb dX6_lay_60 rfl (lv_at hl 2 rfl) ?_
        refine lv_imul hx hb dX6_lay_61 ?_
        refine lv_iload_n hx hb dX6_lay_62 rfl (lv_at hl 3 rfl) ?_
        refine lv_iadd hx hb dX6_lay_63 ?_
        refine lv_iload_n hx hb dX6_lay_64 rfl (lv_at hl 4 rfl) ?_
        have g65_6 := (gd_some hf).1; replace hf := (gd_some hf).2
        refine k_iast C0 hW 3 (ix (((40 : Int32) * x1) + x2)) rfl (inb_in g65_6) rfl dX6_lay_65 (fun H locs hW => ?_)
        have hW : Wd G A s.heap H (bMd G a o (md_set_rows w (upd (md_rows w) (ix (((40 : Int32) * x1) + x2)) x3))) locs := hW
        refine lv_aload_n hx hb dX6_lay_66 rfl (lv_at hl 1 rfl) ?_
        refine lv_iload hx hb dX6_lay_67 (lv_at hl 0 rfl) ?_
        refine lv_iconst (v := 1) hx hb dX6_lay_69 (by decide) ?_
        obtain ⟨q70, hq70⟩ := ob_s hf
        replace hf := hq70.2
        replace hq70 := hq70.1
        refine cW1 (rest := []) (ws1 := (bMd G a o q70.2)) (st1 := [.int q70.1]) C0 hW hl.1 (c_X6_tells l G a o (md_set_rows w (upd (md_rows w) (ix (((40 : Int32) * x1) + x2)) x3)) q49 (1 : Int32) _ hq70) cb_X6_tells mm_X6_105 fst_Md 0 6 rfl rfl rfl (by decide) rfl rfl (Nat.le_of_ble_eq_true rfl) ⟨Nat.zero_le _, Nat.zero_le _⟩ dX6_lay_70 rfl (fun H locs hW => ?_)
        have e1 := Option.some.inj hf
        subst e1
        have hF : ((q70.1, q70.2) : Int32 × Md) = out := hF
        subst hF
        exact k_iret C0 hW dX6_lay_73
      · replace hf := if_t c37_5 hf
        refine lv_aload_n hx hb dX6_lay_40 rfl (lv_at hl 0 rfl) ?_
        refine lv_iconst (v := 2) hx hb dX6_lay_41 (by decide) ?_
        obtain ⟨q42, hq42⟩ := ob_s hf
        replace hf := hq42.2
        replace hq42 := hq42.1
        refine cW1 (rest := []) (ws1 := (bMd G a o q42.2)) (st1 := [.int q42.1]) C0 hW hl.1 (c_X6_meets l G a o w (2 : Int32) _ hq42) cb_X6_meets mm_X6_97 fst_Md 0 6 rfl rfl rfl (by decide) rfl rfl (Nat.le_of_ble_eq_true rfl) ⟨Nat.zero_le _, Nat.zero_le _⟩ dX6_lay_42 rfl (fun H locs hW => ?_)
        have e1 := Option.some.inj hf
        subst e1
        have hF : ((q42.1, q42.2) : Int32 × Md) = out := hF
        subst hF
        exact k_iret C0 hW dX6_lay_45
    · replace hf := if_f c15_3 hf
      refine lv_aload_n hx hb dX6_lay_18 rfl (lv_at hl 0 rfl) ?_
      refine lv_iconst (v := 1) hx hb dX6_lay_19 (by decide) ?_
      obtain ⟨q20, hq20⟩ := ob_s hf
      replace hf := hq20.2
      replace hq20 := hq20.1
      refine cW1 (rest := []) (ws1 := (bMd G a o q20.2)) (st1 := [.int q20.1]) C0 hW hl.1 (c_X6_meets l G a o w (1 : Int32) _ hq20) cb_X6_meets mm_X6_97 fst_Md 0 6 rfl rfl rfl (by decide) rfl rfl (Nat.le_of_ble_eq_true rfl) ⟨Nat.zero_le _, Nat.zero_le _⟩ dX6_lay_20 rfl (fun H locs hW => ?_)
      have e1 := Option.some.inj hf
      subst e1
      have hF : ((q20.1, q20.2) : Int32 × Md) = out := hF
      subst hF
      exact k_iret C0 hW dX6_lay_23
  · replace hf := if_t c4_1 hf
    refine lv_iconst (v := -1) hx hb dX6_lay_7 (by decide) ?_
    have e1 := Option.some.inj hf
    subst e1
    have hF : (((-1 : Int32), w) : Int32 × Md) = out := hF
    subst hF
    exact k_iret C0 hW dX6_lay_8

def f_X6_layParts_J188 (w : Md) (x1 : Int32) (x2 : Int32) : Option ((Int32 × Md) ⊕ (Md)) :=
  some (Sum.inl ((x2 + (1 : Int32)), w))
def f_X6_layParts_J156 (w : Md) (x1 : Int32) (x2 : Int32) (x3 : Int64) : Option ((Int32 × Md) ⊕ (Md)) :=
  Option.bind (f_X6_copyNow w) (fun q157 => Option.bind (f_X6_limpsIn (md_set_tried q157 (upd (md_tried q157) 3 (((md_tried q157) 3) &&& (x2 ^^^ (-1 : Int32))))) (12 : Int32) (1 : Int32)) (fun q180 => gd (inb q180.1 13) (gd (inb q180.1 13) (f_X6_layParts_J188 (md_set_parts q180.2 (vp_updL (md_parts q180.2) (ix q180.1) (((md_parts q180.2) (ix q180.1)) + x3))) x1 x2))))
def f_X6_layParts_J148 (w : Md) (x1 : Int32) (x2 : Int32) (x5 : Int32) (t0 : Int64) (t1 : Int64) : Option ((Int64 × Int32) ⊕ ((Int32 × Md) ⊕ (Md))) :=
  some (Sum.inl ((t0 * t1), (x5 + (1 : Int32))))
def f_X6_layParts_B101 (w : Md) (x1 : Int32) (x2 : Int32) (x3 : Int64) (x5 : Int32) : Option ((Int64 × Int32) ⊕ ((Int32 × Md) ⊕ (Md))) :=
  if (md_n w) ≤ x5 then (Option.map Sum.inr (f_X6_layParts_J156 w x1 x2 x3)) else (Option.bind (f_X6_has ((md_now w) 3) x5) (fun q119 => if q119 = 0 then (f_X6_layParts_J148 w x1 x2 x5 x3 (1 : Int64)) else (Option.bind (f_X6_has x2 x5) (fun q132 => if q132 = 0 then (f_X6_layParts_J148 w x1 x2 x5 x3 (((12 : Int32) - x1).toInt64)) else (f_X6_layParts_J148 w x1 x2 x5 x3 (x1.toInt64))))))
def f_X6_layParts_L101 (w : Md) (x1 : Int32) (x2 : Int32) (sg : Int64 × Int32) : Option ((Int64 × Int32) ⊕ ((Int32 × Md) ⊕ (Md))) := f_X6_layParts_B101 w x1 x2 sg.1 sg.2
def f_X6_layParts_B73 (x1 : Int32) (x2 : Int32) (w : Md) : Option ((Int32 × Md) ⊕ (Md)) :=
  if ((md_now w) 3) < x2 then (Option.map Sum.inr (some w)) else (if (x2 &&& (((md_now w) 3) ^^^ (-1 : Int32))) = 0 then (lp (f_X6_layParts_L101 w x1 x2) fuel ((1 : Int64), (0 : Int32))) else (f_X6_layParts_J188 w x1 x2))
def f_X6_layParts_L73 (x1 : Int32) (sg : Int32 × Md) : Option ((Int32 × Md) ⊕ (Md)) := f_X6_layParts_B73 x1 sg.1 sg.2
def f_X6_layParts_J71 (w : Md) (x1 : Int32) : Option (Md) :=
  lp (f_X6_layParts_L73 x1) fuel ((0 : Int32), w)
def f_X6_layParts_B52 (x1 : Int32) (x2 : Int32) (w : Md) : Option ((Int32 × Md) ⊕ (Md)) :=
  if (12 : Int32) < x2 then (Option.map Sum.inr (f_X6_layParts_J71 w x1)) else (gd (inb x2 13) (some (Sum.inl ((x2 + (1 : Int32)), (md_set_parts w (vp_updL (md_parts w) (ix x2) (0 : Int64)))))))
def f_X6_layParts_L52 (x1 : Int32) (sg : Int32 × Md) : Option ((Int32 × Md) ⊕ (Md)) := f_X6_layParts_B52 x1 sg.1 sg.2
def f_X6_layParts_J50 (w : Md) (x1 : Int32) : Option (Md) :=
  lp (f_X6_layParts_L52 x1) fuel ((0 : Int32), w)
def f_X6_layParts_J40 (w : Md) (x1 : Int32) (x2 : Int32) (t1 : Int64) (t2 : Int64) : Option ((Int32 × Md) ⊕ (Md)) :=
  some (Sum.inl ((x2 + (1 : Int32)), (md_set_whole w (t1 * t2))))
def f_X6_layParts_B7 (x1 : Int32) (x2 : Int32) (w : Md) : Option ((Int32 × Md) ⊕ (Md)) :=
  if (md_n w) ≤ x2 then (Option.map Sum.inr (f_X6_layParts_J50 w x1)) else (Option.bind (f_X6_has ((md_now w) 3) x2) (fun q27 => if q27 = 0 then (f_X6_layParts_J40 w x1 x2 (md_whole w) (1 : Int64)) else (f_X6_layParts_J40 w x1 x2 (md_whole w) (12 : Int64))))
def f_X6_layParts_L7 (x1 : Int32) (sg : Int32 × Md) : Option ((Int32 × Md) ⊕ (Md)) := f_X6_layParts_B7 x1 sg.1 sg.2
def f_X6_layParts (w : Md) (x1 : Int32) : Option (Md) :=
  lp (f_X6_layParts_L7 x1) fuel ((0 : Int32), (md_set_whole w (1 : Int64)))
set_option maxRecDepth 100000 in
set_option maxHeartbeats 1000000 in
theorem c_X6_layParts (l : Launch) (G : GG) (a : Nat → Nat) (o : Nat) (w : Md) (x1 : Int32) (out : Md) (hf : f_X6_layParts w x1 = some out) : Cn l G 5 yX6_layParts cX6_layParts 6 (none) [.ref (a o), .int x1] (bMd G a o w) (none) (bMd G a o out) := by
  refine cn_start (by decide) (Nat.le_of_ble_eq_true rfl) ?_
  intro p e s m below meth c A ls C0 hW hl
  have hx := C0.1
  have hb := C0.2.1
  have hl : lv_has ls 6 [(0, .ref (a o)), (1, .int x1)] := hl
  have L73 : ∀ (k8 : Nat) (sg : Int32 × Md) (o9 : Md), lp (f_X6_layParts_L73 x1) k8 sg = some o9 → (fun (r : Md) => r = out) o9 → (fun (sg : Int32 × Md) => ∀ (H : Heap) (locs : List Loc) (ls : Array Slot), Wd G A s.heap H (bMd G a o sg.2) locs → lv_has ls 6 [(0, .ref (a o)), (1, .int x1), (2, .int sg.1)] → WW p l e 5 s m [.ref (a o), .int x1] below meth c G A (none) ((bMd G a o out)) H locs 73 ls []) sg := by
    have J188 : ∀ (x2 : Int32) (w : Md) (r : (Int32 × Md) ⊕ (Md)), f_X6_layParts_J188 w x1 x2 = some r → (Sum.elim (fun (sg : Int32 × Md) => ∀ (H : Heap) (locs : List Loc) (ls : Array Slot), Wd G A s.heap H (bMd G a o sg.2) locs → lv_has ls 6 [(0, .ref (a o)), (1, .int x1), (2, .int sg.1)] → WW p l e 5 s m [.ref (a o), .int x1] below meth c G A (none) ((bMd G a o out)) H locs 73 ls []) (fun (r : Md) => r = out)) r → ∀ (H : Heap) (locs : List Loc) (ls : Array Slot), Wd G A s.heap H (bMd G a o w) locs → lv_has ls 6 [(0, .ref (a o)), (1, .int x1), (2, .int x2)] → WW p l e 5 s m [.ref (a o), .int x1] below meth c G A (none) ((bMd G a o out)) H locs 188 ls [] := by
      intro x2 w r hf hF H locs ls hW hl
      unfold f_X6_layParts_J188 at hf
      refine lv_iinc (v := (x2 + (1 : Int32))) (lv' := [(2, .int (x2 + (1 : Int32))), (0, .ref (a o)), (1, .int x1)]) hx hb dX6_layParts_188 hl (k := 2) rfl rfl (by decide) rfl (fun ls hl => ?_)
      refine lv_goto (tgt := 73) hx hb dX6_layParts_191 (by decide) ?_
      have e1 := Option.some.inj hf
      subst e1
      exact (elim_l hF) _ _ _ hW (lv_sub hl [1, 2, 0] rfl)
    have J156 : ∀ (x2 : Int32) (x3 : Int64) (w : Md) (r : (Int32 × Md) ⊕ (Md)), f_X6_layParts_J156 w x1 x2 x3 = some r → (Sum.elim (fun (sg : Int32 × Md) => ∀ (H : Heap) (locs : List Loc) (ls : Array Slot), Wd G A s.heap H (bMd G a o sg.2) locs → lv_has ls 6 [(0, .ref (a o)), (1, .int x1), (2, .int sg.1)] → WW p l e 5 s m [.ref (a o), .int x1] below meth c G A (none) ((bMd G a o out)) H locs 73 ls []) (fun (r : Md) => r = out)) r → ∀ (H : Heap) (locs : List Loc) (ls : Array Slot), Wd G A s.heap H (bMd G a o w) locs → lv_has ls 6 [(0, .ref (a o)), (1, .int x1), (2, .int x2), (3, .long x3)] → WW p l e 5 s m [.ref (a o), .int x1] below meth c G A (none) ((bMd G a o out)) H locs 156 ls [] := by
      intro x2 x3 w r hf hF H locs ls hW hl
      unfold f_X6_layParts_J156 at hf
      refine lv_aload_n hx hb dX6_layParts_156 rfl (lv_at hl 0 rfl) ?_
      obtain ⟨q157, hq157⟩ := ob_s hf
      replace hf := hq157.2
      replace hq157 := hq157.1
      refine cW1 (rest := []) (ws1 := (bMd G a o q157)) (st1 := []) C0 hW hl.1 (c_X6_copyNow l G a o w _ hq157) cb_X6_copyNow mm_X6_203 fst_Md 0 6 rfl rfl rfl (by decide) rfl rfl (Nat.le_of_ble_eq_true rfl) ⟨Nat.zero_le _, Nat.zero_le _⟩ dX6_layParts_157 rfl (fun H locs hW => ?_)
      refine lv_aload_n hx hb dX6_layParts_160 rfl (lv_at hl 0 rfl) ?_
      refine k_get C0 hW 6 25 0 (v := .ref (a (o + 16))) rfl (by decide) inX6 mf_X6_60 rfl rfl dX6_layParts_161 ?_
      refine lv_iconst (v := 3) hx hb dX6_layParts_164 (by decide) ?_
      refine lv_dup2_11 hx hb dX6_layParts_165 rfl rfl ?_
      refine k_iald C0 hW 16 3 rfl (inb_in rfl) rfl dX6_layParts_166 ?_
      refine lv_iload_n hx hb dX6_layParts_167 rfl (lv_at hl 2 rfl) ?_
      refine lv_iconst (v := -1) hx hb dX6_layParts_168 (by decide) ?_
      refine lv_ixor hx hb dX6_layParts_169 ?_
      refine lv_iand hx hb dX6_layParts_170 ?_
      refine k_iast C0 hW 16 3 rfl (inb_in rfl) rfl dX6_layParts_171 (fun H locs hW => ?_)
      have hW : Wd G A s.heap H (bMd G a o (md_set_tried q157 (upd (md_tried q157) 3 (((md_tried q157) 3) &&& (x2 ^^^ (-1 : Int32)))))) locs := hW
      refine lv_aload_n hx hb dX6_layParts_172 rfl (lv_at hl 0 rfl) ?_
      refine k_get C0 hW 6 31 0 (v := .ref (a (o + 21))) rfl (by decide) inX6 mf_X6_75 rfl rfl dX6_layParts_173 ?_
      refine lv_aload_n hx hb dX6_layParts_176 rfl (lv_at hl 0 rfl) ?_
      refine lv_bipush (v := 12) hx hb dX6_layParts_177 (by decide) ?_
      refine lv_iconst (v := 1) hx hb dX6_layParts_179 (by decide) ?_
      obtain ⟨q180, hq180⟩ := ob_s hf
      replace hf := hq180.2
      replace hq180 := hq180.1
      refine cW1 (rest := [.ref (a (o + 21))]) (ws1 := (bMd G a o q180.2)) (st1 := [.int q180.1, .ref (a (o + 21))]) C0 hW hl.1 (c_X6_limpsIn l G a o (md_set_tried q157 (upd (md_tried q157) 3 (((md_tried q157) 3) &&& (x2 ^^^ (-1 : Int32))))) (12 : Int32) (1 : Int32) _ hq180) cb_X6_limpsIn mm_X6_206 fst_Md 0 6 rfl rfl rfl (by decide) rfl rfl (Nat.le_of_ble_eq_true rfl) ⟨Nat.zero_le _, Nat.zero_le _⟩ dX6_layParts_180 rfl (fun H locs hW => ?_)
      refine lv_dup2_11 hx hb dX6_layParts_183 rfl rfl ?_
      have g184_6 := (gd_some hf).1; replace hf := (gd_some hf).2
      refine k_lald C0 hW 21 (ix q180.1) rfl (inb_in g184_6) rfl dX6_layParts_184 ?_
      refine lv_lload_n hx hb dX6_layParts_185 rfl (lv_at hl 3 rfl) ?_
      refine lv_ladd hx hb dX6_layParts_186 ?_
      have g187_7 := (gd_some hf).1; replace hf := (gd_some hf).2
      refine k_last C0 hW 21 (ix q180.1) rfl (inb_in g187_7) rfl dX6_layParts_187 (fun H locs hW => ?_)
      have hW : Wd G A s.heap H (bMd G a o (md_set_parts q180.2 (vp_updL (md_parts q180.2) (ix q180.1) (((md_parts q180.2) (ix q180.1)) + x3)))) locs := hW
      exact J188 _ _ _ hf hF _ _ _ hW (lv_sub hl [0, 1, 2] rfl)
    have L101 : ∀ (x2 : Int32) (w : Md) (k8 : Nat) (sg : Int64 × Int32) (o9 : (Int32 × Md) ⊕ (Md)), lp (f_X6_layParts_L101 w x1 x2) k8 sg = some o9 → (Sum.elim (fun (sg : Int32 × Md) => ∀ (H : Heap) (locs : List Loc) (ls : Array Slot), Wd G A s.heap H (bMd G a o sg.2) locs → lv_has ls 6 [(0, .ref (a o)), (1, .int x1), (2, .int sg.1)] → WW p l e 5 s m [.ref (a o), .int x1] below meth c G A (none) ((bMd G a o out)) H locs 73 ls []) (fun (r : Md) => r = out)) o9 → (fun (sg : Int64 × Int32) => ∀ (H : Heap) (locs : List Loc) (ls : Array Slot), Wd G A s.heap H (bMd G a o w) locs → lv_has ls 6 [(0, .ref (a o)), (1, .int x1), (2, .int x2), (3, .long sg.1), (5, .int sg.2)] → WW p l e 5 s m [.ref (a o), .int x1] below meth c G A (none) ((bMd G a o out)) H locs 101 ls []) sg := by
      intro x2 w
      have J148 : ∀ (x5 : Int32) (t0 : Int64) (t1 : Int64) (r : (Int64 × Int32) ⊕ ((Int32 × Md) ⊕ (Md))), f_X6_layParts_J148 w x1 x2 x5 t0 t1 = some r → (Sum.elim (fun (sg : Int64 × Int32) => ∀ (H : Heap) (locs : List Loc) (ls : Array Slot), Wd G A s.heap H (bMd G a o w) locs → lv_has ls 6 [(0, .ref (a o)), (1, .int x1), (2, .int x2), (3, .long sg.1), (5, .int sg.2)] → WW p l e 5 s m [.ref (a o), .int x1] below meth c G A (none) ((bMd G a o out)) H locs 101 ls []) (Sum.elim (fun (sg : Int32 × Md) => ∀ (H : Heap) (locs : List Loc) (ls : Array Slot), Wd G A s.heap H (bMd G a o sg.2) locs → lv_has ls 6 [(0, .ref (a o)), (1, .int x1), (2, .int sg.1)] → WW p l e 5 s m [.ref (a o), .int x1] below meth c G A (none) ((bMd G a o out)) H locs 73 ls []) (fun (r : Md) => r = out))) r → ∀ (H : Heap) (locs : List Loc) (ls : Array Slot), Wd G A s.heap H (bMd G a o w) locs → lv_has ls 6 [(0, .ref (a o)), (1, .int x1), (2, .int x2), (5, .int x5)] → WW p l e 5 s m [.ref (a o), .int x1] below meth c G A (none) ((bMd G a o out)) H locs 148 ls [.long t1, .long t0] := by
        intro x5 t0 t1 r hf hF H locs ls hW hl
        unfold f_X6_layParts_J148 at hf
        refine lv_lmul hx hb dX6_layParts_148 ?_
        refine lv_lstore_n (lv' := [(3, .long (t0 * t1)), (0, .ref (a o)), (1, .int x1), (2, .int x2), (5, .int x5)]) hx hb dX6_layParts_149 rfl hl (by decide) rfl (fun ls hl => ?_)
        refine lv_iinc (v := (x5 + (1 : Int32))) (lv' := [(5, .int (x5 + (1 : Int32))), (3, .long (t0 * t1)), (0, .ref (a o)), (1, .int x1), (2, .int x2)]) hx hb dX6_layParts_150 hl (k := 4) rfl rfl (by decide) rfl (fun ls hl => ?_)
        refine lv_goto (tgt := 101) hx hb dX6_layParts_153 (by decide) ?_
        have e1 := Option.some.inj hf
        subst e1
        exact (elim_l hF) _ _ _ hW (lv_sub hl [2, 3, 4, 1, 0] rfl)
      have B101 : ∀ (x3 : Int64) (x5 : Int32) (r : (Int64 × Int32) ⊕ ((Int32 × Md) ⊕ (Md))), f_X6_layParts_B101 w x1 x2 x3 x5 = some r → (Sum.elim (fun (sg : Int64 × Int32) => ∀ (H : Heap) (locs : List Loc) (ls : Array Slot), Wd G A s.heap H (bMd G a o w) locs → lv_has ls 6 [(0, .ref (a o)), (1, .int x1), (2, .int x2), (3, .long sg.1), (5, .int sg.2)] → WW p l e 5 s m [.ref (a o), .int x1] below meth c G A (none) ((bMd G a o out)) H locs 101 ls []) (Sum.elim (fun (sg : Int32 × Md) => ∀ (H : Heap) (locs : List Loc) (ls : Array Slot), Wd G A s.heap H (bMd G a o sg.2) locs → lv_has ls 6 [(0, .ref (a o)), (1, .int x1), (2, .int sg.1)] → WW p l e 5 s m [.ref (a o), .int x1] below meth c G A (none) ((bMd G a o out)) H locs 73 ls []) (fun (r : Md) => r = out))) r → ∀ (H : Heap) (locs : List Loc) (ls : Array Slot), Wd G A s.heap H (bMd G a o w) locs → lv_has ls 6 [(0, .ref (a o)), (1, .int x1), (2, .int x2), (3, .long x3), (5, .int x5)] → WW p l e 5 s m [.ref (a o), .int x1] below meth c G A (none) ((bMd G a o out)) H locs 101 ls [] := by
        intro x3 x5 r hf hF H locs ls hW hl
        unfold f_X6_layParts_B101 at hf
        refine lv_iload hx hb dX6_layParts_101 (lv_at hl 4 rfl) ?_
        refine lv_aload_n hx hb dX6_layParts_103 rfl (lv_at hl 0 rfl) ?_
        refine k_get C0 hW 6 18 0 (v := .int (md_n w)) rfl (by decide) inX6 mf_X6_142 rfl rfl dX6_layParts_104 ?_
        refine lv_icmp_ge (tgt := 156) hx hb dX6_layParts_107 (by decide) (fun c107_5 => ?_) (fun c107_5 => ?_)
        · replace hf := if_t c107_5 hf
          obtain ⟨r2, e2⟩ := om_s hf
          replace hf := e2.1
          replace e2 := e2.2
          subst e2
          replace hF := elim_r hF
          exact J156 _ _ _ _ hf hF _ _ _ hW (lv_sub hl [0, 1, 2, 3] rfl)
        · replace hf := if_f c107_5 hf
          refine lv_lload_n hx hb dX6_layParts_110 rfl (lv_at hl 3 rfl) ?_
          refine lv_aload_n hx hb dX6_layParts_111 rfl (lv_at hl 0 rfl) ?_
          refine k_get C0 hW 6 24 0 (v := .ref (a (o + 15))) rfl (by decide) inX6 mf_X6_57 rfl rfl dX6_layParts_112 ?_
          refine lv_iconst (v := 3) hx hb dX6_layParts_115 (by decide) ?_
          refine k_iald C0 hW 15 3 rfl (inb_in rfl) rfl dX6_layParts_116 ?_
          refine lv_iload hx hb dX6_layParts_117 (lv_at hl 4 rfl) ?_
          obtain ⟨q119, hq119⟩ := ob_s hf
          replace hf := hq119.2
          replace hq119 := hq119.1
          refine cS0 (rest := [.long x3]) (st1 := [.int q119, .long x3]) C0 hW hl.1 (c_X6_has l G ((md_now w) 3) x5 _ hq119) cb_X6_has mm_X6_158 [] rfl rfl (by decide) rfl rfl (Nat.le_of_ble_eq_true rfl) ⟨Nat.zero_le _, Nat.zero_le _⟩ dX6_layParts_119 rfl (fun H locs hW => ?_)
          refine lv_if_ne (tgt := 129) hx hb dX6_layParts_122 (by decide) (fun c122_8 => ?_) (fun c122_8 => ?_)
          · replace hf := if_f c122_8 hf
            refine lv_iload_n hx hb dX6_layParts_129 rfl (lv_at hl 2 rfl) ?_
            refine lv_iload hx hb dX6_layParts_130 (lv_at hl 4 rfl) ?_
            obtain ⟨q132, hq132⟩ := ob_s hf
            replace hf := hq132.2
            replace hq132 := hq132.1
            refine cS0 (rest := [.long x3]) (st1 := [.int q132, .long x3]) C0 hW hl.1 (c_X6_has l G x2 x5 _ hq132) cb_X6_has mm_X6_158 [] rfl rfl (by decide) rfl rfl (Nat.le_of_ble_eq_true rfl) ⟨Nat.zero_le _, Nat.zero_le _⟩ dX6_layParts_132 rfl (fun H locs hW => ?_)
            refine lv_if_eq (tgt := 143) hx hb dX6_layParts_135 (by decide) (fun c135_9 => ?_) (fun c135_9 => ?_)
            · replace hf := if_t c135_9 hf
              refine lv_bipush (v := 12) hx hb dX6_layParts_143 (by decide) ?_
              refine lv_iload_n hx hb dX6_layParts_145 rfl (lv_at hl 1 rfl) ?_
              refine lv_isub hx hb dX6_layParts_146 ?_
              refine lv_i2l (v := ((12 : Int32) - x1).toInt64) hx hb dX6_layParts_147 rfl ?_
              exact J148 _ _ _ _ hf hF _ _ _ hW (lv_sub hl [0, 1, 2, 4] rfl)
            · replace hf := if_f c135_9 hf
              refine lv_iload_n hx hb dX6_layParts_138 rfl (lv_at hl 1 rfl) ?_
              refine lv_i2l (v := x1.toInt64) hx hb dX6_layParts_139 rfl ?_
              refine lv_goto (tgt := 148) hx hb dX6_layParts_140 (by decide) ?_
              exact J148 _ _ _ _ hf hF _ _ _ hW (lv_sub hl [0, 1, 2, 4] rfl)
          · replace hf := if_t c122_8 hf
            refine lv_lconst (v := 1) hx hb dX6_layParts_125 (by decide) ?_
            refine lv_goto (tgt := 148) hx hb dX6_layParts_126 (by decide) ?_
            exact J148 _ _ _ _ hf hF _ _ _ hW (lv_sub hl [0, 1, 2, 4] rfl)
      exact lp_sound (fun sg r hb hz => B101 sg.1 sg.2 r hb hz)
    have B73 : ∀ (x2 : Int32) (w : Md) (r : (Int32 × Md) ⊕ (Md)), f_X6_layParts_B73 x1 x2 w = some r → (Sum.elim (fun (sg : Int32 × Md) => ∀ (H : Heap) (locs : List Loc) (ls : Array Slot), Wd G A s.heap H (bMd G a o sg.2) locs → lv_has ls 6 [(0, .ref (a o)), (1, .int x1), (2, .int sg.1)] → WW p l e 5 s m [.ref (a o), .int x1] below meth c G A (none) ((bMd G a o out)) H locs 73 ls []) (fun (r : Md) => r = out)) r → ∀ (H : Heap) (locs : List Loc) (ls : Array Slot), Wd G A s.heap H (bMd G a o w) locs → lv_has ls 6 [(0, .ref (a o)), (1, .int x1), (2, .int x2)] → WW p l e 5 s m [.ref (a o), .int x1] below meth c G A (none) ((bMd G a o out)) H locs 73 ls [] := by
      intro x2 w r hf hF H locs ls hW hl
      unfold f_X6_layParts_B73 at hf
      refine lv_iload_n hx hb dX6_layParts_73 rfl (lv_at hl 2 rfl) ?_
      refine lv_aload_n hx hb dX6_layParts_74 rfl (lv_at hl 0 rfl) ?_
      refine k_get C0 hW 6 24 0 (v := .ref (a (o + 15))) rfl (by decide) inX6 mf_X6_57 rfl rfl dX6_layParts_75 ?_
      refine lv_iconst (v := 3) hx hb dX6_layParts_78 (by decide) ?_
      refine k_iald C0 hW 15 3 rfl (inb_in rfl) rfl dX6_layParts_79 ?_
      refine lv_icmp_gt (tgt := 194) hx hb dX6_layParts_80 (by decide) (fun c80_3 => ?_) (fun c80_3 => ?_)
      · replace hf := if_t c80_3 hf
        obtain ⟨r2, e2⟩ := om_s hf
        replace hf := e2.1
        replace e2 := e2.2
        subst e2
        replace hF := elim_r hF
        have e1 := Option.some.inj hf
        subst e1
        have hF : (w : Md) = out := hF
        subst hF
        exact k_vret C0 hW dX6_layParts_194
      · replace hf := if_f c80_3 hf
        refine lv_iload_n hx hb dX6_layParts_83 rfl (lv_at hl 2 rfl) ?_
        refine lv_aload_n hx hb dX6_layParts_84 rfl (lv_at hl 0 rfl) ?_
        refine k_get C0 hW 6 24 0 (v := .ref (a (o + 15))) rfl (by decide) inX6 mf_X6_57 rfl rfl dX6_layParts_85 ?_
        refine lv_iconst (v := 3) hx hb dX6_layParts_88 (by decide) ?_
        refine k_iald C0 hW 15 3 rfl (inb_in rfl) rfl dX6_layParts_89 ?_
        refine lv_iconst (v := -1) hx hb dX6_layParts_90 (by decide) ?_
        refine lv_ixor hx hb dX6_layParts_91 ?_
        refine lv_iand hx hb dX6_layParts_92 ?_
        refine lv_if_ne (tgt := 188) hx hb dX6_layParts_93 (by decide) (fun c93_4 => ?_) (fun c93_4 => ?_)
        · replace hf := if_f c93_4 hf
          exact J188 _ _ _ hf hF _ _ _ hW (lv_sub hl [0, 1, 2] rfl)
        · replace hf := if_t c93_4 hf
          refine lv_lconst (v := 1) hx hb dX6_layParts_96 (by decide) ?_
          refine lv_lstore_n (lv' := [(3, .long (1 : Int64)), (0, .ref (a o)), (1, .int x1), (2, .int x2)]) hx hb dX6_layParts_97 rfl hl (by decide) rfl (fun ls hl => ?_)
          refine lv_iconst (v := 0) hx hb dX6_layParts_98 (by decide) ?_
          refine lv_istore (lv' := [(5, .int (0 : Int32)), (3, .long (1 : Int64)), (0, .ref (a o)), (1, .int x1), (2, .int x2)]) hx hb dX6_layParts_99 hl (by decide) rfl (fun ls hl => ?_)
          exact L101 _ _ fuel ((1 : Int64), (0 : Int32)) _ hf hF _ _ _ hW (lv_sub hl [2, 3, 4, 1, 0] rfl)
    exact lp_sound (fun sg r hb hz => B73 sg.1 sg.2 r hb hz)
  have J71 : ∀ (w : Md) (r : Md), f_X6_layParts_J71 w x1 = some r → (fun (r : Md) => r = out) r → ∀ (H : Heap) (locs : List Loc) (ls : Array Slot), Wd G A s.heap H (bMd G a o w) locs → lv_has ls 6 [(0, .ref (a o)), (1, .int x1)] → WW p l e 5 s m [.ref (a o), .int x1] below meth c G A (none) ((bMd G a o out)) H locs 71 ls [] := by
    intro w r hf hF H locs ls hW hl
    unfold f_X6_layParts_J71 at hf
    refine lv_iconst (v := 0) hx hb dX6_layParts_71 (by decide) ?_
    refine lv_istore_n (lv' := [(2, .int (0 : Int32)), (0, .ref (a o)), (1, .int x1)]) hx hb dX6_layParts_72 rfl hl (by decide) rfl (fun ls hl => ?_)
    exact L73  fuel ((0 : Int32), w) _ hf hF _ _ _ hW (lv_sub hl [1, 2, 0] rfl)
  have L52 : ∀ (k8 : Nat) (sg : Int32 × Md) (o9 : Md), lp (f_X6_layParts_L52 x1) k8 sg = some o9 → (fun (r : Md) => r = out) o9 → (fun (sg : Int32 × Md) => ∀ (H : Heap) (locs : List Loc) (ls : Array Slot), Wd G A s.heap H (bMd G a o sg.2) locs → lv_has ls 6 [(0, .ref (a o)), (1, .int x1), (2, .int sg.1)] → WW p l e 5 s m [.ref (a o), .int x1] below meth c G A (none) ((bMd G a o out)) H locs 52 ls []) sg := by
    have B52 : ∀ (x2 : Int32) (w : Md) (r : (Int32 × Md) ⊕ (Md)), f_X6_layParts_B52 x1 x2 w = some r → (Sum.elim (fun (sg : Int32 × Md) => ∀ (H : Heap) (locs : List Loc) (ls : Array Slot), Wd G A s.heap H (bMd G a o sg.2) locs → lv_has ls 6 [(0, .ref (a o)), (1, .int x1), (2, .int sg.1)] → WW p l e 5 s m [.ref (a o), .int x1] below meth c G A (none) ((bMd G a o out)) H locs 52 ls []) (fun (r : Md) => r = out)) r → ∀ (H : Heap) (locs : List Loc) (ls : Array Slot), Wd G A s.heap H (bMd G a o w) locs → lv_has ls 6 [(0, .ref (a o)), (1, .int x1), (2, .int x2)] → WW p l e 5 s m [.ref (a o), .int x1] below meth c G A (none) ((bMd G a o out)) H locs 52 ls [] := by
      intro x2 w r hf hF H locs ls hW hl
      unfold f_X6_layParts_B52 at hf
      refine lv_iload_n hx hb dX6_layParts_52 rfl (lv_at hl 2 rfl) ?_
      refine lv_bipush (v := 12) hx hb dX6_layParts_53 (by decide) ?_
      refine lv_icmp_gt (tgt := 71) hx hb dX6_layParts_55 (by decide) (fun c55_2 => ?_) (fun c55_2 => ?_)
      · replace hf := if_t c55_2 hf
        obtain ⟨r2, e2⟩ := om_s hf
        replace hf := e2.1
        replace e2 := e2.2
        subst e2
        replace hF := elim_r hF
        exact J71 _ _ hf hF _ _ _ hW (lv_sub hl [0, 1] rfl)
      · replace hf := if_f c55_2 hf
        refine lv_aload_n hx hb dX6_layParts_58 rfl (lv_at hl 0 rfl) ?_
        refine k_get C0 hW 6 31 0 (v := .ref (a (o + 21))) rfl (by decide) inX6 mf_X6_75 rfl rfl dX6_layParts_59 ?_
        refine lv_iload_n hx hb dX6_layParts_62 rfl (lv_at hl 2 rfl) ?_
        refine lv_lconst (v := 0) hx hb dX6_layParts_63 (by decide) ?_
        have g64_10 := (gd_some hf).1; replace hf := (gd_some hf).2
        refine k_last C0 hW 21 (ix x2) rfl (inb_in g64_10) rfl dX6_layParts_64 (fun H locs hW => ?_)
        have hW : Wd G A s.heap H (bMd G a o (md_set_parts w (vp_updL (md_parts w) (ix x2) (0 : Int64)))) locs := hW
        refine lv_iinc (v := (x2 + (1 : Int32))) (lv' := [(2, .int (x2 + (1 : Int32))), (0, .ref (a o)), (1, .int x1)]) hx hb dX6_layParts_65 hl (k := 2) rfl rfl (by decide) rfl (fun ls hl => ?_)
        refine lv_goto (tgt := 52) hx hb dX6_layParts_68 (by decide) ?_
        have e1 := Option.some.inj hf
        subst e1
        exact (elim_l hF) _ _ _ hW (lv_sub hl [1, 2, 0] rfl)
    exact lp_sound (fun sg r hb hz => B52 sg.1 sg.2 r hb hz)
  have J50 : ∀ (w : Md) (r : Md), f_X6_layParts_J50 w x1 = some r → (fun (r : Md) => r = out) r → ∀ (H : Heap) (locs : List Loc) (ls : Array Slot), Wd G A s.heap H (bMd G a o w) locs → lv_has ls 6 [(0, .ref (a o)), (1, .int x1)] → WW p l e 5 s m [.ref (a o), .int x1] below meth c G A (none) ((bMd G a o out)) H locs 50 ls [] := by
    intro w r hf hF H locs ls hW hl
    unfold f_X6_layParts_J50 at hf
    refine lv_iconst (v := 0) hx hb dX6_layParts_50 (by decide) ?_
    refine lv_istore_n (lv' := [(2, .int (0 : Int32)), (0, .ref (a o)), (1, .int x1)]) hx hb dX6_layParts_51 rfl hl (by decide) rfl (fun ls hl => ?_)
    exact L52  fuel ((0 : Int32), w) _ hf hF _ _ _ hW (lv_sub hl [1, 2, 0] rfl)
  have L7 : ∀ (k8 : Nat) (sg : Int32 × Md) (o9 : Md), lp (f_X6_layParts_L7 x1) k8 sg = some o9 → (fun (r : Md) => r = out) o9 → (fun (sg : Int32 × Md) => ∀ (H : Heap) (locs : List Loc) (ls : Array Slot), Wd G A s.heap H (bMd G a o sg.2) locs → lv_has ls 6 [(0, .ref (a o)), (1, .int x1), (2, .int sg.1)] → WW p l e 5 s m [.ref (a o), .int x1] below meth c G A (none) ((bMd G a o out)) H locs 7 ls []) sg := by
    have J40 : ∀ (x2 : Int32) (t1 : Int64) (t2 : Int64) (w : Md) (r : (Int32 × Md) ⊕ (Md)), f_X6_layParts_J40 w x1 x2 t1 t2 = some r → (Sum.elim (fun (sg : Int32 × Md) => ∀ (H : Heap) (locs : List Loc) (ls : Array Slot), Wd G A s.heap H (bMd G a o sg.2) locs → lv_has ls 6 [(0, .ref (a o)), (1, .int x1), (2, .int sg.1)] → WW p l e 5 s m [.ref (a o), .int x1] below meth c G A (none) ((bMd G a o out)) H locs 7 ls []) (fun (r : Md) => r = out)) r → ∀ (H : Heap) (locs : List Loc) (ls : Array Slot), Wd G A s.heap H (bMd G a o w) locs → lv_has ls 6 [(0, .ref (a o)), (1, .int x1), (2, .int x2)] → WW p l e 5 s m [.ref (a o), .int x1] below meth c G A (none) ((bMd G a o out)) H locs 40 ls [.long t2, .long t1, .ref (a o)] := by
      intro x2 t1 t2 w r hf hF H locs ls hW hl
      unfold f_X6_layParts_J40 at hf
      refine lv_lmul hx hb dX6_layParts_40 ?_
      refine k_put C0 hW 6 32 0 rfl (by decide) inX6 tyX6_ok nmX6 mf_X6_241 rfl rfl rfl rfl (Nat.le_of_ble_eq_true rfl) dX6_layParts_41 (fun H locs hW => ?_)
      have hW : Wd G A s.heap H (bMd G a o (md_set_whole w (t1 * t2))) locs := hW
      refine lv_iinc (v := (x2 + (1 : Int32))) (lv' := [(2, .int (x2 + (1 : Int32))), (0, .ref (a o)), (1, .int x1)]) hx hb dX6_layParts_44 hl (k := 2) rfl rfl (by decide) rfl (fun ls hl => ?_)
      refine lv_goto (tgt := 7) hx hb dX6_layParts_47 (by decide) ?_
      have e1 := Option.some.inj hf
      subst e1
      exact (elim_l hF) _ _ _ hW (lv_sub hl [1, 2, 0] rfl)
    have B7 : ∀ (x2 : Int32) (w : Md) (r : (Int32 × Md) ⊕ (Md)), f_X6_layParts_B7 x1 x2 w = some r → (Sum.elim (fun (sg : Int32 × Md) => ∀ (H : Heap) (locs : List Loc) (ls : Array Slot), Wd G A s.heap H (bMd G a o sg.2) locs → lv_has ls 6 [(0, .ref (a o)), (1, .int x1), (2, .int sg.1)] → WW p l e 5 s m [.ref (a o), .int x1] below meth c G A (none) ((bMd G a o out)) H locs 7 ls []) (fun (r : Md) => r = out)) r → ∀ (H : Heap) (locs : List Loc) (ls : Array Slot), Wd G A s.heap H (bMd G a o w) locs → lv_has ls 6 [(0, .ref (a o)), (1, .int x1), (2, .int x2)] → WW p l e 5 s m [.ref (a o), .int x1] below meth c G A (none) ((bMd G a o out)) H locs 7 ls [] := by
      intro x2 w r hf hF H locs ls hW hl
      unfold f_X6_layParts_B7 at hf
      refine lv_iload_n hx hb dX6_layParts_7 rfl (lv_at hl 2 rfl) ?_
      refine lv_aload_n hx hb dX6_layParts_8 rfl (lv_at hl 0 rfl) ?_
      refine k_get C0 hW 6 18 0 (v := .int (md_n w)) rfl (by decide) inX6 mf_X6_142 rfl rfl dX6_layParts_9 ?_
      refine lv_icmp_ge (tgt := 50) hx hb dX6_layParts_12 (by decide) (fun c12_1 => ?_) (fun c12_1 => ?_)
      · replace hf := if_t c12_1 hf
        obtain ⟨r2, e2⟩ := om_s hf
        replace hf := e2.1
        replace e2 := e2.2
        subst e2
        replace hF := elim_r hF
        exact J50 _ _ hf hF _ _ _ hW (lv_sub hl [0, 1] rfl)
      · replace hf := if_f c12_1 hf
        refine lv_aload_n hx hb dX6_layParts_15 rfl (lv_at hl 0 rfl) ?_
        refine lv_dup hx hb dX6_layParts_16 rfl ?_
        refine k_get C0 hW 6 32 0 (v := .long (md_whole w)) rfl (by decide) inX6 mf_X6_241 rfl rfl dX6_layParts_17 ?_
        refine lv_aload_n hx hb dX6_layParts_20 rfl (lv_at hl 0 rfl) ?_
        refine k_get C0 hW 6 24 0 (v := .ref (a (o + 15))) rfl (by decide) inX6 mf_X6_57 rfl rfl dX6_layParts_21 ?_
        refine lv_iconst (v := 3) hx hb dX6_layParts_24 (by decide) ?_
        refine k_iald C0 hW 15 3 rfl (inb_in rfl) rfl dX6_layParts_25 ?_
        refine lv_iload_n hx hb dX6_layParts_26 rfl (lv_at hl 2 rfl) ?_
        obtain ⟨q27, hq27⟩ := ob_s hf
        replace hf := hq27.2
        replace hq27 := hq27.1
        refine cS0 (rest := [.long (md_whole w), .ref (a o)]) (st1 := [.int q27, .long (md_whole w), .ref (a o)]) C0 hW hl.1 (c_X6_has l G ((md_now w) 3) x2 _ hq27) cb_X6_has mm_X6_158 [] rfl rfl (by decide) rfl rfl (Nat.le_of_ble_eq_true rfl) ⟨Nat.zero_le _, Nat.zero_le _⟩ dX6_layParts_27 rfl (fun H locs hW => ?_)
        refine lv_if_eq (tgt := 39) hx hb dX6_layParts_30 (by decide) (fun c30_11 => ?_) (fun c30_11 => ?_)
        · replace hf := if_t c30_11 hf
          refine lv_lconst (v := 1) hx hb dX6_layParts_39 (by decide) ?_
          exact J40 _ _ _ _ _ hf hF _ _ _ hW (lv_sub hl [0, 1, 2] rfl)
        · replace hf := if_f c30_11 hf
          refine lv_ldc2 hx hb C0.2.2.2.2.2.1 (C0.2.2.2.2.2.2.1 _ mk_X6_244) dX6_layParts_33 ?_
          refine lv_goto (tgt := 40) hx hb dX6_layParts_36 (by decide) ?_
          exact J40 _ _ _ _ _ hf hF _ _ _ hW (lv_sub hl [0, 1, 2] rfl)
    exact lp_sound (fun sg r hb hz => B7 sg.1 sg.2 r hb hz)
  obtain ⟨r, hr⟩ : ∃ r, f_X6_layParts w x1 = some r ∧ r = out := ⟨out, hf, rfl⟩
  replace hf := hr.1
  have hF := hr.2
  clear hr
  unfold f_X6_layParts at hf
  refine lv_aload_n hx hb dX6_layParts_0 rfl (lv_at hl 0 rfl) ?_
  refine lv_lconst (v := 1) hx hb dX6_layParts_1 (by decide) ?_
  refine k_put C0 hW 6 32 0 rfl (by decide) inX6 tyX6_ok nmX6 mf_X6_241 rfl rfl rfl rfl (Nat.le_of_ble_eq_true rfl) dX6_layParts_2 (fun H locs hW => ?_)
  have hW : Wd G A s.heap H (bMd G a o (md_set_whole w (1 : Int64))) locs := hW
  refine lv_iconst (v := 0) hx hb dX6_layParts_5 (by decide) ?_
  refine lv_istore_n (lv' := [(2, .int (0 : Int32)), (0, .ref (a o)), (1, .int x1)]) hx hb dX6_layParts_6 rfl hl (by decide) rfl (fun ls hl => ?_)
  exact L7  fuel ((0 : Int32), (md_set_whole w (1 : Int64))) _ hf hF _ _ _ hW (lv_sub hl [1, 2, 0] rfl)

def f_X6_row_B34 (x1 : Int32) (x2 : Int32) (x3 : Int32) (w : Md) : Option ((Int32 × Md) ⊕ (Int32 × Md)) :=
  if (40 : Int32) ≤ x3 then (Option.map Sum.inr (some (x2, w))) else (gd (inb (((40 : Int32) * x1) + x3) 240) (some (Sum.inl ((x3 + (1 : Int32)), (md_set_rows w (upd (md_rows w) (ix (((40 : Int32) * x1) + x3)) (0 : Int32)))))))
def f_X6_row_L34 (x1 : Int32) (x2 : Int32) (sg : Int32 × Md) : Option ((Int32 × Md) ⊕ (Int32 × Md)) := f_X6_row_B34 x1 x2 sg.1 sg.2
def f_X6_row (w : Md) (x1 : Int32) (x2 : Int32) : Option (Int32 × Md) :=
  Option.bind (f_X6_isRow x1) (fun q1 => if q1 = 0 then (some ((-1 : Int32), w)) else (if x2 ≤ (40 : Int32) then (if 0 ≤ x2 then (gd (inb x1 6) (lp (f_X6_row_L34 x1 x2) fuel ((0 : Int32), (md_set_sizes w (upd (md_sizes w) (ix x1) x2))))) else (Option.bind (f_X6_meets w (5 : Int32)) (fun q21 => some (q21.1, q21.2)))) else (some ((-1 : Int32), w))))
set_option maxRecDepth 100000 in
set_option maxHeartbeats 1000000 in
theorem c_X6_row (l : Launch) (G : GG) (a : Nat → Nat) (o : Nat) (w : Md) (x1 : Int32) (x2 : Int32) (out : Int32 × Md) (hf : f_X6_row w x1 x2 = some out) : Cn l G 2 yX6_row cX6_row 4 (some .int) [.ref (a o), .int x1, .int x2] (bMd G a o w) (some (.int out.1)) (bMd G a o out.2) := by
  refine cn_start (by decide) (Nat.le_of_ble_eq_true rfl) ?_
  intro p e s m below meth c A ls C0 hW hl
  have hx := C0.1
  have hb := C0.2.1
  have hl : lv_has ls 4 [(0, .ref (a o)), (1, .int x1), (2, .int x2)] := hl
  have L34 : ∀ (k8 : Nat) (sg : Int32 × Md) (o9 : Int32 × Md), lp (f_X6_row_L34 x1 x2) k8 sg = some o9 → (fun (r : Int32 × Md) => r = out) o9 → (fun (sg : Int32 × Md) => ∀ (H : Heap) (locs : List Loc) (ls : Array Slot), Wd G A s.heap H (bMd G a o sg.2) locs → lv_has ls 4 [(0, .ref (a o)), (1, .int x1), (2, .int x2), (3, .int sg.1)] → WW p l e 2 s m [.ref (a o), .int x1, .int x2] below meth c G A (some (.int out.1)) ((bMd G a o out.2)) H locs 34 ls []) sg := by
    have B34 : ∀ (x3 : Int32) (w : Md) (r : (Int32 × Md) ⊕ (Int32 × Md)), f_X6_row_B34 x1 x2 x3 w = some r → (Sum.elim (fun (sg : Int32 × Md) => ∀ (H : Heap) (locs : List Loc) (ls : Array Slot), Wd G A s.heap H (bMd G a o sg.2) locs → lv_has ls 4 [(0, .ref (a o)), (1, .int x1), (2, .int x2), (3, .int sg.1)] → WW p l e 2 s m [.ref (a o), .int x1, .int x2] below meth c G A (some (.int out.1)) ((bMd G a o out.2)) H locs 34 ls []) (fun (r : Int32 × Md) => r = out)) r → ∀ (H : Heap) (locs : List Loc) (ls : Array Slot), Wd G A s.heap H (bMd G a o w) locs → lv_has ls 4 [(0, .ref (a o)), (1, .int x1), (2, .int x2), (3, .int x3)] → WW p l e 2 s m [.ref (a o), .int x1, .int x2] below meth c G A (some (.int out.1)) ((bMd G a o out.2)) H locs 34 ls [] := by
      intro x3 w r hf hF H locs ls hW hl
      unfold f_X6_row_B34 at hf
      refine lv_iload_n hx hb dX6_row_34 rfl (lv_at hl 3 rfl) ?_
      refine lv_bipush (v := 40) hx hb dX6_row_35 (by decide) ?_
      refine lv_icmp_ge (tgt := 58) hx hb dX6_row_37 (by decide) (fun c37_5 => ?_) (fun c37_5 => ?_)
      · replace hf := if_t c37_5 hf
        obtain ⟨r2, e2⟩ := om_s hf
        replace hf := e2.1
        replace e2 := e2.2
        subst e2
        replace hF := elim_r hF
        refine lv_iload_n hx hb dX6_row_58 rfl (lv_at hl 2 rfl) ?_
        have e1 := Option.some.inj hf
        subst e1
        have hF : ((x2, w) : Int32 × Md) = out := hF
        subst hF
        exact k_iret C0 hW dX6_row_59
      · replace hf := if_f c37_5 hf
        refine lv_aload_n hx hb dX6_row_40 rfl (lv_at hl 0 rfl) ?_
        refine k_get C0 hW 6 6 0 (v := .ref (a (o + 3))) rfl (by decide) inX6 mf_X6_20 rfl rfl dX6_row_41 ?_
        refine lv_bipush (v := 40) hx hb dX6_row_44 (by decide) ?_
        refine lv_iload_n hx hb dX6_row_46 rfl (lv_at hl 1 rfl) ?_
        refine lv_imul hx hb dX6_row_47 ?_
        refine lv_iload_n hx hb dX6_row_48 rfl (lv_at hl 3 rfl) ?_
        refine lv_iadd hx hb dX6_row_49 ?_
        refine lv_iconst (v := 0) hx hb dX6_row_50 (by decide) ?_
        have g51_6 := (gd_some hf).1; replace hf := (gd_some hf).2
        refine k_iast C0 hW 3 (ix (((40 : Int32) * x1) + x3)) rfl (inb_in g51_6) rfl dX6_row_51 (fun H locs hW => ?_)
        have hW : Wd G A s.heap H (bMd G a o (md_set_rows w (upd (md_rows w) (ix (((40 : Int32) * x1) + x3)) (0 : Int32)))) locs := hW
        refine lv_iinc (v := (x3 + (1 : Int32))) (lv' := [(3, .int (x3 + (1 : Int32))), (0, .ref (a o)), (1, .int x1), (2, .int x2)]) hx hb dX6_row_52 hl (k := 3) rfl rfl (by decide) rfl (fun ls hl => ?_)
        refine lv_goto (tgt := 34) hx hb dX6_row_55 (by decide) ?_
        have e1 := Option.some.inj hf
        subst e1
        exact (elim_l hF) _ _ _ hW (lv_sub hl [1, 2, 3, 0] rfl)
    exact lp_sound (fun sg r hb hz => B34 sg.1 sg.2 r hb hz)
  obtain ⟨r, hr⟩ : ∃ r, f_X6_row w x1 x2 = some r ∧ r = out := ⟨out, hf, rfl⟩
  replace hf := hr.1
  have hF := hr.2
  clear hr
  unfold f_X6_row at hf
  refine lv_iload_n hx hb dX6_row_0 rfl (lv_at hl 1 rfl) ?_
  obtain ⟨q1, hq1⟩ := ob_s hf
  replace hf := hq1.2
  replace hq1 := hq1.1
  refine cS0 (rest := []) (st1 := [.int q1]) C0 hW hl.1 (c_X6_isRow l G x1 _ hq1) cb_X6_isRow mm_X6_93 [] rfl rfl (by decide) rfl rfl (Nat.le_of_ble_eq_true rfl) ⟨Nat.zero_le _, Nat.zero_le _⟩ dX6_row_1 rfl (fun H locs hW => ?_)
  refine lv_if_eq (tgt := 13) hx hb dX6_row_4 (by decide) (fun c4_1 => ?_) (fun c4_1 => ?_)
  · replace hf := if_t c4_1 hf
    refine lv_iconst (v := -1) hx hb dX6_row_13 (by decide) ?_
    have e1 := Option.some.inj hf
    subst e1
    have hF : (((-1 : Int32), w) : Int32 × Md) = out := hF
    subst hF
    exact k_iret C0 hW dX6_row_14
  · replace hf := if_f c4_1 hf
    refine lv_iload_n hx hb dX6_row_7 rfl (lv_at hl 2 rfl) ?_
    refine lv_bipush (v := 40) hx hb dX6_row_8 (by decide) ?_
    refine lv_icmp_le (tgt := 15) hx hb dX6_row_10 (by decide) (fun c10_2 => ?_) (fun c10_2 => ?_)
    · replace hf := if_t c10_2 hf
      refine lv_iload_n hx hb dX6_row_15 rfl (lv_at hl 2 rfl) ?_
      refine lv_if_ge (tgt := 25) hx hb dX6_row_16 (by decide) (fun c16_3 => ?_) (fun c16_3 => ?_)
      · replace hf := if_t c16_3 hf
        refine lv_aload_n hx hb dX6_row_25 rfl (lv_at hl 0 rfl) ?_
        refine k_get C0 hW 6 5 0 (v := .ref (a (o + 2))) rfl (by decide) inX6 mf_X6_17 rfl rfl dX6_row_26 ?_
        refine lv_iload_n hx hb dX6_row_29 rfl (lv_at hl 1 rfl) ?_
        refine lv_iload_n hx hb dX6_row_30 rfl (lv_at hl 2 rfl) ?_
        have g31_4 := (gd_some hf).1; replace hf := (gd_some hf).2
        refine k_iast C0 hW 2 (ix x1) rfl (inb_in g31_4) rfl dX6_row_31 (fun H locs hW => ?_)
        have hW : Wd G A s.heap H (bMd G a o (md_set_sizes w (upd (md_sizes w) (ix x1) x2))) locs := hW
        refine lv_iconst (v := 0) hx hb dX6_row_32 (by decide) ?_
        refine lv_istore_n (lv' := [(3, .int (0 : Int32)), (0, .ref (a o)), (1, .int x1), (2, .int x2)]) hx hb dX6_row_33 rfl hl (by decide) rfl (fun ls hl => ?_)
        exact L34  fuel ((0 : Int32), (md_set_sizes w (upd (md_sizes w) (ix x1) x2))) _ hf hF _ _ _ hW (lv_sub hl [1, 2, 3, 0] rfl)
      · replace hf := if_f c16_3 hf
        refine lv_aload_n hx hb dX6_row_19 rfl (lv_at hl 0 rfl) ?_
        refine lv_iconst (v := 5) hx hb dX6_row_20 (by decide) ?_
        obtain ⟨q21, hq21⟩ := ob_s hf
        replace hf := hq21.2
        replace hq21 := hq21.1
        refine cW1 (rest := []) (ws1 := (bMd G a o q21.2)) (st1 := [.int q21.1]) C0 hW hl.1 (c_X6_meets l G a o w (5 : Int32) _ hq21) cb_X6_meets mm_X6_97 fst_Md 0 6 rfl rfl rfl (by decide) rfl rfl (Nat.le_of_ble_eq_true rfl) ⟨Nat.zero_le _, Nat.zero_le _⟩ dX6_row_21 rfl (fun H locs hW => ?_)
        have e1 := Option.some.inj hf
        subst e1
        have hF : ((q21.1, q21.2) : Int32 × Md) = out := hF
        subst hF
        exact k_iret C0 hW dX6_row_24
    · replace hf := if_f c10_2 hf
      refine lv_iconst (v := -1) hx hb dX6_row_13 (by decide) ?_
      have e1 := Option.some.inj hf
      subst e1
      have hF : (((-1 : Int32), w) : Int32 × Md) = out := hF
      subst hF
      exact k_iret C0 hW dX6_row_14

def f_X6_limps_B45 (x1 : Int32) (x2 : Int32) (x3 : Int32) (x4 : Int32) (w : Md) : Option ((Int32 × Int32 × Md) ⊕ (Int32 × Md)) :=
  if x1 ≤ x4 then (Option.map Sum.inr (some (x3, w))) else (Option.bind (f_X6_limpsIn w (1 : Int32) (0 : Int32)) (fun q54 => gd (inb (((40 : Int32) * x2) + x4) 240) (some (Sum.inl ((x3 + q54.1), (x4 + (1 : Int32)), (md_set_rows q54.2 (upd (md_rows q54.2) (ix (((40 : Int32) * x2) + x4)) q54.1)))))))
def f_X6_limps_L45 (x1 : Int32) (x2 : Int32) (sg : Int32 × Int32 × Md) : Option ((Int32 × Int32 × Md) ⊕ (Int32 × Md)) := f_X6_limps_B45 x1 x2 sg.1 sg.2.1 sg.2.2
def f_X6_limps (w : Md) (x1 : Int32) (x2 : Int32) : Option (Int32 × Md) :=
  Option.bind (f_X6_in x1 (1 : Int32) (20 : Int32)) (fun q4 => if q4 = 0 then (some ((-1 : Int32), w)) else (Option.bind (f_X6_isRow x2) (fun q11 => if q11 = 0 then (some ((-1 : Int32), w)) else (if (md_n w) = 0 then (some ((-4 : Int32), w)) else (Option.bind (f_X6_copyNow w) (fun q30 => Option.bind (f_X6_row q30 x2 x1) (fun q36 => lp (f_X6_limps_L45 x1 x2) fuel ((0 : Int32), (0 : Int32), q36.2))))))))
set_option maxRecDepth 100000 in
set_option maxHeartbeats 1000000 in
theorem c_X6_limps (l : Launch) (G : GG) (a : Nat → Nat) (o : Nat) (w : Md) (x1 : Int32) (x2 : Int32) (out : Int32 × Md) (hf : f_X6_limps w x1 x2 = some out) : Cn l G 5 yX6_limps cX6_limps 6 (some .int) [.ref (a o), .int x1, .int x2] (bMd G a o w) (some (.int out.1)) (bMd G a o out.2) := by
  refine cn_start (by decide) (Nat.le_of_ble_eq_true rfl) ?_
  intro p e s m below meth c A ls C0 hW hl
  have hx := C0.1
  have hb := C0.2.1
  have hl : lv_has ls 6 [(0, .ref (a o)), (1, .int x1), (2, .int x2)] := hl
  have L45 : ∀ (k8 : Nat) (sg : Int32 × Int32 × Md) (o9 : Int32 × Md), lp (f_X6_limps_L45 x1 x2) k8 sg = some o9 → (fun (r : Int32 × Md) => r = out) o9 → (fun (sg : Int32 × Int32 × Md) => ∀ (H : Heap) (locs : List Loc) (ls : Array Slot), Wd G A s.heap H (bMd G a o sg.2.2) locs → lv_has ls 6 [(0, .ref (a o)), (1, .int x1), (2, .int x2), (3, .int sg.1), (4, .int sg.2.1)] → WW p l e 5 s m [.ref (a o), .int x1, .int x2] below meth c G A (some (.int out.1)) ((bMd G a o out.2)) H locs 45 ls []) sg := by
    have B45 : ∀ (x3 : Int32) (x4 : Int32) (w : Md) (r : (Int32 × Int32 × Md) ⊕ (Int32 × Md)), f_X6_limps_B45 x1 x2 x3 x4 w = some r → (Sum.elim (fun (sg : Int32 × Int32 × Md) => ∀ (H : Heap) (locs : List Loc) (ls : Array Slot), Wd G A s.heap H (bMd G a o sg.2.2) locs → lv_has ls 6 [(0, .ref (a o)), (1, .int x1), (2, .int x2), (3, .int sg.1), (4, .int sg.2.1)] → WW p l e 5 s m [.ref (a o), .int x1, .int x2] below meth c G A (some (.int out.1)) ((bMd G a o out.2)) H locs 45 ls []) (fun (r : Int32 × Md) => r = out)) r → ∀ (H : Heap) (locs : List Loc) (ls : Array Slot), Wd G A s.heap H (bMd G a o w) locs → lv_has ls 6 [(0, .ref (a o)), (1, .int x1), (2, .int x2), (3, .int x3), (4, .int x4)] → WW p l e 5 s m [.ref (a o), .int x1, .int x2] below meth c G A (some (.int out.1)) ((bMd G a o out.2)) H locs 45 ls [] := by
      intro x3 x4 w r hf hF H locs ls hW hl
      unfold f_X6_limps_B45 at hf
      refine lv_iload hx hb dX6_limps_45 (lv_at hl 4 rfl) ?_
      refine lv_iload_n hx hb dX6_limps_47 rfl (lv_at hl 1 rfl) ?_
      refine lv_icmp_ge (tgt := 84) hx hb dX6_limps_48 (by decide) (fun c48_4 => ?_) (fun c48_4 => ?_)
      · replace hf := if_t c48_4 hf
        obtain ⟨r2, e2⟩ := om_s hf
        replace hf := e2.1
        replace e2 := e2.2
        subst e2
        replace hF := elim_r hF
        refine lv_iload_n hx hb dX6_limps_84 rfl (lv_at hl 3 rfl) ?_
        have e1 := Option.some.inj hf
        subst e1
        have hF : ((x3, w) : Int32 × Md) = out := hF
        subst hF
        exact k_iret C0 hW dX6_limps_85
      · replace hf := if_f c48_4 hf
        refine lv_aload_n hx hb dX6_limps_51 rfl (lv_at hl 0 rfl) ?_
        refine lv_iconst (v := 1) hx hb dX6_limps_52 (by decide) ?_
        refine lv_iconst (v := 0) hx hb dX6_limps_53 (by decide) ?_
        obtain ⟨q54, hq54⟩ := ob_s hf
        replace hf := hq54.2
        replace hq54 := hq54.1
        refine cW1 (rest := []) (ws1 := (bMd G a o q54.2)) (st1 := [.int q54.1]) C0 hW hl.1 (c_X6_limpsIn l G a o w (1 : Int32) (0 : Int32) _ hq54) cb_X6_limpsIn mm_X6_206 fst_Md 0 6 rfl rfl rfl (by decide) rfl rfl (Nat.le_of_ble_eq_true rfl) ⟨Nat.zero_le _, Nat.zero_le _⟩ dX6_limps_54 rfl (fun H locs hW => ?_)
        refine lv_istore (lv' := [(5, .int q54.1), (0, .ref (a o)), (1, .int x1), (2, .int x2), (3, .int x3), (4, .int x4)]) hx hb dX6_limps_57 hl (by decide) rfl (fun ls hl => ?_)
        refine lv_aload_n hx hb dX6_limps_59 rfl (lv_at hl 1 rfl) ?_
        refine k_get C0 hW 6 6 0 (v := .ref (a (o + 3))) rfl (by decide) inX6 mf_X6_20 rfl rfl dX6_limps_60 ?_
        refine lv_bipush (v := 40) hx hb dX6_limps_63 (by decide) ?_
        refine lv_iload_n hx hb dX6_limps_65 rfl (lv_at hl 3 rfl) ?_
        refine lv_imul hx hb dX6_limps_66 ?_
        refine lv_iload hx hb dX6_limps_67 (lv_at hl 5 rfl) ?_
        refine lv_iadd hx hb dX6_limps_69 ?_
        refine lv_iload hx hb dX6_limps_70 (lv_at hl 0 rfl) ?_
        have g72_5 := (gd_some hf).1; replace hf := (gd_some hf).2
        refine k_iast C0 hW 3 (ix (((40 : Int32) * x2) + x4)) rfl (inb_in g72_5) rfl dX6_limps_72 (fun H locs hW => ?_)
        have hW : Wd G A s.heap H (bMd G a o (md_set_rows q54.2 (upd (md_rows q54.2) (ix (((40 : Int32) * x2) + x4)) q54.1))) locs := hW
        refine lv_iload_n hx hb dX6_limps_73 rfl (lv_at hl 4 rfl) ?_
        refine lv_iload hx hb dX6_limps_74 (lv_at hl 0 rfl) ?_
        refine lv_iadd hx hb dX6_limps_76 ?_
        refine lv_istore_n (lv' := [(3, .int (x3 + q54.1)), (5, .int q54.1), (0, .ref (a o)), (1, .int x1), (2, .int x2), (4, .int x4)]) hx hb dX6_limps_77 rfl hl (by decide) rfl (fun ls hl => ?_)
        refine lv_iinc (v := (x4 + (1 : Int32))) (lv' := [(4, .int (x4 + (1 : Int32))), (3, .int (x3 + q54.1)), (5, .int q54.1), (0, .ref (a o)), (1, .int x1), (2, .int x2)]) hx hb dX6_limps_78 hl (k := 5) rfl rfl (by decide) rfl (fun ls hl => ?_)
        refine lv_goto (tgt := 45) hx hb dX6_limps_81 (by decide) ?_
        have e1 := Option.some.inj hf
        subst e1
        exact (elim_l hF) _ _ _ hW (lv_sub hl [3, 4, 5, 1, 0] rfl)
    exact lp_sound (fun sg r hb hz => B45 sg.1 sg.2.1 sg.2.2 r hb hz)
  obtain ⟨r, hr⟩ : ∃ r, f_X6_limps w x1 x2 = some r ∧ r = out := ⟨out, hf, rfl⟩
  replace hf := hr.1
  have hF := hr.2
  clear hr
  unfold f_X6_limps at hf
  refine lv_iload_n hx hb dX6_limps_0 rfl (lv_at hl 1 rfl) ?_
  refine lv_iconst (v := 1) hx hb dX6_limps_1 (by decide) ?_
  refine lv_bipush (v := 20) hx hb dX6_limps_2 (by decide) ?_
  obtain ⟨q4, hq4⟩ := ob_s hf
  replace hf := hq4.2
  replace hq4 := hq4.1
  refine cS0 (rest := []) (st1 := [.int q4]) C0 hW hl.1 (c_X6_in l G x1 (1 : Int32) (20 : Int32) _ hq4) cb_X6_in mm_X6_89 [] rfl rfl (by decide) rfl rfl (Nat.le_of_ble_eq_true rfl) ⟨Nat.zero_le _, Nat.zero_le _⟩ dX6_limps_4 rfl (fun H locs hW => ?_)
  refine lv_if_eq (tgt := 17) hx hb dX6_limps_7 (by decide) (fun c7_1 => ?_) (fun c7_1 => ?_)
  · replace hf := if_t c7_1 hf
    refine lv_iconst (v := -1) hx hb dX6_limps_17 (by decide) ?_
    have e1 := Option.some.inj hf
    subst e1
    have hF : (((-1 : Int32), w) : Int32 × Md) = out := hF
    subst hF
    exact k_iret C0 hW dX6_limps_18
  · replace hf := if_f c7_1 hf
    refine lv_iload_n hx hb dX6_limps_10 rfl (lv_at hl 2 rfl) ?_
    obtain ⟨q11, hq11⟩ := ob_s hf
    replace hf := hq11.2
    replace hq11 := hq11.1
    refine cS0 (rest := []) (st1 := [.int q11]) C0 hW hl.1 (c_X6_isRow l G x2 _ hq11) cb_X6_isRow mm_X6_93 [] rfl rfl (by decide) rfl rfl (Nat.le_of_ble_eq_true rfl) ⟨Nat.zero_le _, Nat.zero_le _⟩ dX6_limps_11 rfl (fun H locs hW => ?_)
    refine lv_if_ne (tgt := 19) hx hb dX6_limps_14 (by decide) (fun c14_2 => ?_) (fun c14_2 => ?_)
    · replace hf := if_f c14_2 hf
      refine lv_aload_n hx hb dX6_limps_19 rfl (lv_at hl 0 rfl) ?_
      refine k_get C0 hW 6 18 0 (v := .int (md_n w)) rfl (by decide) inX6 mf_X6_142 rfl rfl dX6_limps_20 ?_
      refine lv_if_ne (tgt := 29) hx hb dX6_limps_23 (by decide) (fun c23_3 => ?_) (fun c23_3 => ?_)
      · replace hf := if_f c23_3 hf
        refine lv_aload_n hx hb dX6_limps_29 rfl (lv_at hl 0 rfl) ?_
        obtain ⟨q30, hq30⟩ := ob_s hf
        replace hf := hq30.2
        replace hq30 := hq30.1
        refine cW1 (rest := []) (ws1 := (bMd G a o q30)) (st1 := []) C0 hW hl.1 (c_X6_copyNow l G a o w _ hq30) cb_X6_copyNow mm_X6_203 fst_Md 0 6 rfl rfl rfl (by decide) rfl rfl (Nat.le_of_ble_eq_true rfl) ⟨Nat.zero_le _, Nat.zero_le _⟩ dX6_limps_30 rfl (fun H locs hW => ?_)
        refine lv_aload_n hx hb dX6_limps_33 rfl (lv_at hl 0 rfl) ?_
        refine lv_iload_n hx hb dX6_limps_34 rfl (lv_at hl 2 rfl) ?_
        refine lv_iload_n hx hb dX6_limps_35 rfl (lv_at hl 1 rfl) ?_
        obtain ⟨q36, hq36⟩ := ob_s hf
        replace hf := hq36.2
        replace hq36 := hq36.1
        refine cW1 (rest := []) (ws1 := (bMd G a o q36.2)) (st1 := [.int q36.1]) C0 hW hl.1 (c_X6_row l G a o q30 x2 x1 _ hq36) cb_X6_row mm_X6_213 fst_Md 0 6 rfl rfl rfl (by decide) rfl rfl (Nat.le_of_ble_eq_true rfl) ⟨Nat.zero_le _, Nat.zero_le _⟩ dX6_limps_36 rfl (fun H locs hW => ?_)
        refine lv_pop hx hb dX6_limps_39 rfl ?_
        refine lv_iconst (v := 0) hx hb dX6_limps_40 (by decide) ?_
        refine lv_istore_n (lv' := [(3, .int (0 : Int32)), (0, .ref (a o)), (1, .int x1), (2, .int x2)]) hx hb dX6_limps_41 rfl hl (by decide) rfl (fun ls hl => ?_)
        refine lv_iconst (v := 0) hx hb dX6_limps_42 (by decide) ?_
        refine lv_istore (lv' := [(4, .int (0 : Int32)), (3, .int (0 : Int32)), (0, .ref (a o)), (1, .int x1), (2, .int x2)]) hx hb dX6_limps_43 hl (by decide) rfl (fun ls hl => ?_)
        exact L45  fuel ((0 : Int32), (0 : Int32), q36.2) _ hf hF _ _ _ hW (lv_sub hl [2, 3, 4, 1, 0] rfl)
      · replace hf := if_t c23_3 hf
        refine lv_bipush (v := -4) hx hb dX6_limps_26 (by decide) ?_
        have e1 := Option.some.inj hf
        subst e1
        have hF : (((-4 : Int32), w) : Int32 × Md) = out := hF
        subst hF
        exact k_iret C0 hW dX6_limps_28
    · replace hf := if_t c14_2 hf
      refine lv_iconst (v := -1) hx hb dX6_limps_17 (by decide) ?_
      have e1 := Option.some.inj hf
      subst e1
      have hF : (((-1 : Int32), w) : Int32 × Md) = out := hF
      subst hF
      exact k_iret C0 hW dX6_limps_18

def f_X6_look_J140 (w : Md) (x2 : Int32) (x3 : Int32) : Option (Int32 × Md) :=
  Option.bind (f_X6_tells w x3 x2) (fun q143 => some (q143.1, q143.2))
def f_X6_look_J133 (w : Md) (x1 : Int32) (x2 : Int32) (x4 : Int32) (t0 : Int32) : Option ((Int32 × Int32 × Int32) ⊕ (Int32 × Md)) :=
  some (Sum.inl (x2, t0, (x4 + (1 : Int32))))
def f_X6_look_J120 (w : Md) (x1 : Int32) (x3 : Int32) (x4 : Int32) (x6 : Int32) (t0 : Int32) : Option ((Int32 × Int32 × Int32) ⊕ (Int32 × Md)) :=
  if x3 ≤ x6 then (f_X6_look_J133 w x1 t0 x4 x3) else (f_X6_look_J133 w x1 t0 x4 x6)
def f_X6_look_J106 (w : Md) (x1 : Int32) (x2 : Int32) (x3 : Int32) (x4 : Int32) (t0 : Int32) : Option ((Int32 × Int32 × Int32) ⊕ (Int32 × Md)) :=
  if x3 ≤ t0 then (f_X6_look_J120 w x1 x3 x4 t0 x2) else (f_X6_look_J120 w x1 x3 x4 t0 x4)
def f_X6_look_J86 (w : Md) (x1 : Int32) (x2 : Int32) (x3 : Int32) (x4 : Int32) (x5 : Int32) : Option ((Int32 × Int32 × Int32) ⊕ (Int32 × Md)) :=
  if x5 ≤ ((6 : Int32) - x5) then (f_X6_look_J106 w x1 x2 x3 x4 ((6 : Int32) - x5)) else (f_X6_look_J106 w x1 x2 x3 x4 x5)
def f_X6_look_J77 (w : Md) (x1 : Int32) (x2 : Int32) (x3 : Int32) (x4 : Int32) (x6 : Int32) (t0 : Int32) (t1 : Int32) : Option ((Int32 × Int32) ⊕ ((Int32 × Int32 × Int32) ⊕ (Int32 × Md))) :=
  some (Sum.inl ((t0 + t1), (x6 + (1 : Int32))))
def f_X6_look_B31 (w : Md) (x1 : Int32) (x2 : Int32) (x3 : Int32) (x4 : Int32) (x5 : Int32) (x6 : Int32) : Option ((Int32 × Int32) ⊕ ((Int32 × Int32 × Int32) ⊕ (Int32 × Md))) :=
  if (6 : Int32) ≤ x6 then (Option.map Sum.inr (f_X6_look_J86 w x1 x2 x3 x4 x5)) else (gd (inb x1 8) (gd (inb ((4 : Int32) + x1) 12) (Option.bind (f_X6_bearsAs x6 ((md_strongs w) (ix x1)) x4 ((md_now w) (ix ((4 : Int32) + x1))) ((md_now w) 2)) (fun q64 => if q64 < x4 then (f_X6_look_J77 w x1 x2 x3 x4 x6 x5 (0 : Int32)) else (f_X6_look_J77 w x1 x2 x3 x4 x6 x5 (1 : Int32))))))
def f_X6_look_L31 (w : Md) (x1 : Int32) (x2 : Int32) (x3 : Int32) (x4 : Int32) (sg : Int32 × Int32) : Option ((Int32 × Int32) ⊕ ((Int32 × Int32 × Int32) ⊕ (Int32 × Md))) := f_X6_look_B31 w x1 x2 x3 x4 sg.1 sg.2
def f_X6_look_B18 (w : Md) (x1 : Int32) (x2 : Int32) (x3 : Int32) (x4 : Int32) : Option ((Int32 × Int32 × Int32) ⊕ (Int32 × Md)) :=
  if (10 : Int32) ≤ x4 then (Option.map Sum.inr (f_X6_look_J140 w x2 x3)) else (lp (f_X6_look_L31 w x1 x2 x3 x4) fuel ((0 : Int32), (0 : Int32)))
def f_X6_look_L18 (w : Md) (x1 : Int32) (sg : Int32 × Int32 × Int32) : Option ((Int32 × Int32 × Int32) ⊕ (Int32 × Md)) := f_X6_look_B18 w x1 sg.1 sg.2.1 sg.2.2
def f_X6_look (w : Md) (x1 : Int32) : Option (Int32 × Md) :=
  Option.bind (f_X6_isSpoke w x1) (fun q2 => if q2 = 0 then (some ((-1 : Int32), w)) else (lp (f_X6_look_L18 w x1) fuel ((0 : Int32), (1000000 : Int32), (0 : Int32))))
set_option maxRecDepth 100000 in
set_option maxHeartbeats 1000000 in
theorem c_X6_look (l : Launch) (G : GG) (a : Nat → Nat) (o : Nat) (w : Md) (x1 : Int32) (out : Int32 × Md) (hf : f_X6_look w x1 = some out) : Cn l G 2 yX6_look cX6_look 7 (some .int) [.ref (a o), .int x1] (bMd G a o w) (some (.int out.1)) (bMd G a o out.2) := by
  refine cn_start (by decide) (Nat.le_of_ble_eq_true rfl) ?_
  intro p e s m below meth c A ls C0 hW hl
  have hx := C0.1
  have hb := C0.2.1
  have hl : lv_has ls 7 [(0, .ref (a o)), (1, .int x1)] := hl
  have J140 : ∀ (x2 : Int32) (x3 : Int32) (w : Md) (r : Int32 × Md), f_X6_look_J140 w x2 x3 = some r → (fun (r : Int32 × Md) => r = out) r → ∀ (H : Heap) (locs : List Loc) (ls : Array Slot), Wd G A s.heap H (bMd G a o w) locs → lv_has ls 7 [(0, .ref (a o)), (2, .int x2), (3, .int x3)] → WW p l e 2 s m [.ref (a o), .int x1] below meth c G A (some (.int out.1)) ((bMd G a o out.2)) H locs 140 ls [] := by
    intro x2 x3 w r hf hF H locs ls hW hl
    unfold f_X6_look_J140 at hf
    refine lv_aload_n hx hb dX6_look_140 rfl (lv_at hl 0 rfl) ?_
    refine lv_iload_n hx hb dX6_look_141 rfl (lv_at hl 2 rfl) ?_
    refine lv_iload_n hx hb dX6_look_142 rfl (lv_at hl 1 rfl) ?_
    obtain ⟨q143, hq143⟩ := ob_s hf
    replace hf := hq143.2
    replace hq143 := hq143.1
    refine cW1 (rest := []) (ws1 := (bMd G a o q143.2)) (st1 := [.int q143.1]) C0 hW hl.1 (c_X6_tells l G a o w x3 x2 _ hq143) cb_X6_tells mm_X6_105 fst_Md 0 6 rfl rfl rfl (by decide) rfl rfl (Nat.le_of_ble_eq_true rfl) ⟨Nat.zero_le _, Nat.zero_le _⟩ dX6_look_143 rfl (fun H locs hW => ?_)
    have e1 := Option.some.inj hf
    subst e1
    have hF : ((q143.1, q143.2) : Int32 × Md) = out := hF
    subst hF
    exact k_iret C0 hW dX6_look_146
  have L18 : ∀ (w : Md) (k8 : Nat) (sg : Int32 × Int32 × Int32) (o9 : Int32 × Md), lp (f_X6_look_L18 w x1) k8 sg = some o9 → (fun (r : Int32 × Md) => r = out) o9 → (fun (sg : Int32 × Int32 × Int32) => ∀ (H : Heap) (locs : List Loc) (ls : Array Slot), Wd G A s.heap H (bMd G a o w) locs → lv_has ls 7 [(0, .ref (a o)), (1, .int x1), (2, .int sg.1), (3, .int sg.2.1), (4, .int sg.2.2)] → WW p l e 2 s m [.ref (a o), .int x1] below meth c G A (some (.int out.1)) ((bMd G a o out.2)) H locs 18 ls []) sg := by
    intro w
    have J133 : ∀ (x2 : Int32) (x4 : Int32) (t0 : Int32) (r : (Int32 × Int32 × Int32) ⊕ (Int32 × Md)), f_X6_look_J133 w x1 x2 x4 t0 = some r → (Sum.elim (fun (sg : Int32 × Int32 × Int32) => ∀ (H : Heap) (locs : List Loc) (ls : Array Slot), Wd G A s.heap H (bMd G a o w) locs → lv_has ls 7 [(0, .ref (a o)), (1, .int x1), (2, .int sg.1), (3, .int sg.2.1), (4, .int sg.2.2)] → WW p l e 2 s m [.ref (a o), .int x1] below meth c G A (some (.int out.1)) ((bMd G a o out.2)) H locs 18 ls []) (fun (r : Int32 × Md) => r = out)) r → ∀ (H : Heap) (locs : List Loc) (ls : Array Slot), Wd G A s.heap H (bMd G a o w) locs → lv_has ls 7 [(0, .ref (a o)), (1, .int x1), (2, .int x2), (4, .int x4)] → WW p l e 2 s m [.ref (a o), .int x1] below meth c G A (some (.int out.1)) ((bMd G a o out.2)) H locs 133 ls [.int t0] := by
      intro x2 x4 t0 r hf hF H locs ls hW hl
      unfold f_X6_look_J133 at hf
      refine lv_istore_n (lv' := [(3, .int t0), (0, .ref (a o)), (1, .int x1), (2, .int x2), (4, .int x4)]) hx hb dX6_look_133 rfl hl (by decide) rfl (fun ls hl => ?_)
      refine lv_iinc (v := (x4 + (1 : Int32))) (lv' := [(4, .int (x4 + (1 : Int32))), (3, .int t0), (0, .ref (a o)), (1, .int x1), (2, .int x2)]) hx hb dX6_look_134 hl (k := 4) rfl rfl (by decide) rfl (fun ls hl => ?_)
      refine lv_goto (tgt := 18) hx hb dX6_look_137 (by decide) ?_
      have e1 := Option.some.inj hf
      subst e1
      exact (elim_l hF) _ _ _ hW (lv_sub hl [2, 3, 4, 1, 0] rfl)
    have J120 : ∀ (x3 : Int32) (x4 : Int32) (x6 : Int32) (t0 : Int32) (r : (Int32 × Int32 × Int32) ⊕ (Int32 × Md)), f_X6_look_J120 w x1 x3 x4 x6 t0 = some r → (Sum.elim (fun (sg : Int32 × Int32 × Int32) => ∀ (H : Heap) (locs : List Loc) (ls : Array Slot), Wd G A s.heap H (bMd G a o w) locs → lv_has ls 7 [(0, .ref (a o)), (1, .int x1), (2, .int sg.1), (3, .int sg.2.1), (4, .int sg.2.2)] → WW p l e 2 s m [.ref (a o), .int x1] below meth c G A (some (.int out.1)) ((bMd G a o out.2)) H locs 18 ls []) (fun (r : Int32 × Md) => r = out)) r → ∀ (H : Heap) (locs : List Loc) (ls : Array Slot), Wd G A s.heap H (bMd G a o w) locs → lv_has ls 7 [(0, .ref (a o)), (1, .int x1), (3, .int x3), (4, .int x4), (6, .int x6)] → WW p l e 2 s m [.ref (a o), .int x1] below meth c G A (some (.int out.1)) ((bMd G a o out.2)) H locs 120 ls [.int t0] := by
      intro x3 x4 x6 t0 r hf hF H locs ls hW hl
      unfold f_X6_look_J120 at hf
      refine lv_istore_n (lv' := [(2, .int t0), (0, .ref (a o)), (1, .int x1), (3, .int x3), (4, .int x4), (6, .int x6)]) hx hb dX6_look_120 rfl hl (by decide) rfl (fun ls hl => ?_)
      refine lv_iload hx hb dX6_look_121 (lv_at hl 5 rfl) ?_
      refine lv_iload_n hx hb dX6_look_123 rfl (lv_at hl 3 rfl) ?_
      refine lv_icmp_ge (tgt := 132) hx hb dX6_look_124 (by decide) (fun c124_6 => ?_) (fun c124_6 => ?_)
      · replace hf := if_t c124_6 hf
        refine lv_iload_n hx hb dX6_look_132 rfl (lv_at hl 3 rfl) ?_
        exact J133 _ _ _ _ hf hF _ _ _ hW (lv_sub hl [1, 2, 0, 4] rfl)
      · replace hf := if_f c124_6 hf
        refine lv_iload hx hb dX6_look_127 (lv_at hl 5 rfl) ?_
        refine lv_goto (tgt := 133) hx hb dX6_look_129 (by decide) ?_
        exact J133 _ _ _ _ hf hF _ _ _ hW (lv_sub hl [1, 2, 0, 4] rfl)
    have J106 : ∀ (x2 : Int32) (x3 : Int32) (x4 : Int32) (t0 : Int32) (r : (Int32 × Int32 × Int32) ⊕ (Int32 × Md)), f_X6_look_J106 w x1 x2 x3 x4 t0 = some r → (Sum.elim (fun (sg : Int32 × Int32 × Int32) => ∀ (H : Heap) (locs : List Loc) (ls : Array Slot), Wd G A s.heap H (bMd G a o w) locs → lv_has ls 7 [(0, .ref (a o)), (1, .int x1), (2, .int sg.1), (3, .int sg.2.1), (4, .int sg.2.2)] → WW p l e 2 s m [.ref (a o), .int x1] below meth c G A (some (.int out.1)) ((bMd G a o out.2)) H locs 18 ls []) (fun (r : Int32 × Md) => r = out)) r → ∀ (H : Heap) (locs : List Loc) (ls : Array Slot), Wd G A s.heap H (bMd G a o w) locs → lv_has ls 7 [(0, .ref (a o)), (1, .int x1), (2, .int x2), (3, .int x3), (4, .int x4)] → WW p l e 2 s m [.ref (a o), .int x1] below meth c G A (some (.int out.1)) ((bMd G a o out.2)) H locs 106 ls [.int t0] := by
      intro x2 x3 x4 t0 r hf hF H locs ls hW hl
      unfold f_X6_look_J106 at hf
      refine lv_istore (lv' := [(6, .int t0), (0, .ref (a o)), (1, .int x1), (2, .int x2), (3, .int x3), (4, .int x4)]) hx hb dX6_look_106 hl (by decide) rfl (fun ls hl => ?_)
      refine lv_iload hx hb dX6_look_108 (lv_at hl 0 rfl) ?_
      refine lv_iload_n hx hb dX6_look_110 rfl (lv_at hl 4 rfl) ?_
      refine lv_icmp_ge (tgt := 119) hx hb dX6_look_111 (by decide) (fun c111_5 => ?_) (fun c111_5 => ?_)
      · replace hf := if_t c111_5 hf
        refine lv_iload_n hx hb dX6_look_119 rfl (lv_at hl 3 rfl) ?_
        exact J120 _ _ _ _ _ hf hF _ _ _ hW (lv_sub hl [1, 2, 4, 5, 0] rfl)
      · replace hf := if_f c111_5 hf
        refine lv_iload hx hb dX6_look_114 (lv_at hl 5 rfl) ?_
        refine lv_goto (tgt := 120) hx hb dX6_look_116 (by decide) ?_
        exact J120 _ _ _ _ _ hf hF _ _ _ hW (lv_sub hl [1, 2, 4, 5, 0] rfl)
    have J86 : ∀ (x2 : Int32) (x3 : Int32) (x4 : Int32) (x5 : Int32) (r : (Int32 × Int32 × Int32) ⊕ (Int32 × Md)), f_X6_look_J86 w x1 x2 x3 x4 x5 = some r → (Sum.elim (fun (sg : Int32 × Int32 × Int32) => ∀ (H : Heap) (locs : List Loc) (ls : Array Slot), Wd G A s.heap H (bMd G a o w) locs → lv_has ls 7 [(0, .ref (a o)), (1, .int x1), (2, .int sg.1), (3, .int sg.2.1), (4, .int sg.2.2)] → WW p l e 2 s m [.ref (a o), .int x1] below meth c G A (some (.int out.1)) ((bMd G a o out.2)) H locs 18 ls []) (fun (r : Int32 × Md) => r = out)) r → ∀ (H : Heap) (locs : List Loc) (ls : Array Slot), Wd G A s.heap H (bMd G a o w) locs → lv_has ls 7 [(0, .ref (a o)), (1, .int x1), (2, .int x2), (3, .int x3), (4, .int x4), (5, .int x5)] → WW p l e 2 s m [.ref (a o), .int x1] below meth c G A (some (.int out.1)) ((bMd G a o out.2)) H locs 86 ls [] := by
      intro x2 x3 x4 x5 r hf hF H locs ls hW hl
      unfold f_X6_look_J86 at hf
      refine lv_iload hx hb dX6_look_86 (lv_at hl 5 rfl) ?_
      refine lv_bipush (v := 6) hx hb dX6_look_88 (by decide) ?_
      refine lv_iload hx hb dX6_look_90 (lv_at hl 5 rfl) ?_
      refine lv_isub hx hb dX6_look_92 ?_
      refine lv_icmp_le (tgt := 101) hx hb dX6_look_93 (by decide) (fun c93_4 => ?_) (fun c93_4 => ?_)
      · replace hf := if_t c93_4 hf
        refine lv_bipush (v := 6) hx hb dX6_look_101 (by decide) ?_
        refine lv_iload hx hb dX6_look_103 (lv_at hl 5 rfl) ?_
        refine lv_isub hx hb dX6_look_105 ?_
        exact J106 _ _ _ _ _ hf hF _ _ _ hW (lv_sub hl [0, 1, 2, 3, 4] rfl)
      · replace hf := if_f c93_4 hf
        refine lv_iload hx hb dX6_look_96 (lv_at hl 5 rfl) ?_
        refine lv_goto (tgt := 106) hx hb dX6_look_98 (by decide) ?_
        exact J106 _ _ _ _ _ hf hF _ _ _ hW (lv_sub hl [0, 1, 2, 3, 4] rfl)
    have L31 : ∀ (x2 : Int32) (x3 : Int32) (x4 : Int32) (k8 : Nat) (sg : Int32 × Int32) (o9 : (Int32 × Int32 × Int32) ⊕ (Int32 × Md)), lp (f_X6_look_L31 w x1 x2 x3 x4) k8 sg = some o9 → (Sum.elim (fun (sg : Int32 × Int32 × Int32) => ∀ (H : Heap) (locs : List Loc) (ls : Array Slot), Wd G A s.heap H (bMd G a o w) locs → lv_has ls 7 [(0, .ref (a o)), (1, .int x1), (2, .int sg.1), (3, .int sg.2.1), (4, .int sg.2.2)] → WW p l e 2 s m [.ref (a o), .int x1] below meth c G A (some (.int out.1)) ((bMd G a o out.2)) H locs 18 ls []) (fun (r : Int32 × Md) => r = out)) o9 → (fun (sg : Int32 × Int32) => ∀ (H : Heap) (locs : List Loc) (ls : Array Slot), Wd G A s.heap H (bMd G a o w) locs → lv_has ls 7 [(0, .ref (a o)), (1, .int x1), (2, .int x2), (3, .int x3), (4, .int x4), (5, .int sg.1), (6, .int sg.2)] → WW p l e 2 s m [.ref (a o), .int x1] below meth c G A (some (.int out.1)) ((bMd G a o out.2)) H locs 31 ls []) sg := by
      intro x2 x3 x4
      have J77 : ∀ (x6 : Int32) (t0 : Int32) (t1 : Int32) (r : (Int32 × Int32) ⊕ ((Int32 × Int32 × Int32) ⊕ (Int32 × Md))), f_X6_look_J77 w x1 x2 x3 x4 x6 t0 t1 = some r → (Sum.elim (fun (sg : Int32 × Int32) => ∀ (H : Heap) (locs : List Loc) (ls : Array Slot), Wd G A s.heap H (bMd G a o w) locs → lv_has ls 7 [(0, .ref (a o)), (1, .int x1), (2, .int x2), (3, .int x3), (4, .int x4), (5, .int sg.1), (6, .int sg.2)] → WW p l e 2 s m [.ref (a o), .int x1] below meth c G A (some (.int out.1)) ((bMd G a o out.2)) H locs 31 ls []) (Sum.elim (fun (sg : Int32 × Int32 × Int32) => ∀ (H : Heap) (locs : List Loc) (ls : Array Slot), Wd G A s.heap H (bMd G a o w) locs → lv_has ls 7 [(0, .ref (a o)), (1, .int x1), (2, .int sg.1), (3, .int sg.2.1), (4, .int sg.2.2)] → WW p l e 2 s m [.ref (a o), .int x1] below meth c G A (some (.int out.1)) ((bMd G a o out.2)) H locs 18 ls []) (fun (r : Int32 × Md) => r = out))) r → ∀ (H : Heap) (locs : List Loc) (ls : Array Slot), Wd G A s.heap H (bMd G a o w) locs → lv_has ls 7 [(0, .ref (a o)), (1, .int x1), (2, .int x2), (3, .int x3), (4, .int x4), (6, .int x6)] → WW p l e 2 s m [.ref (a o), .int x1] below meth c G A (some (.int out.1)) ((bMd G a o out.2)) H locs 77 ls [.int t1, .int t0] := by
        intro x6 t0 t1 r hf hF H locs ls hW hl
        unfold f_X6_look_J77 at hf
        refine lv_iadd hx hb dX6_look_77 ?_
        refine lv_istore (lv' := [(5, .int (t0 + t1)), (0, .ref (a o)), (1, .int x1), (2, .int x2), (3, .int x3), (4, .int x4), (6, .int x6)]) hx hb dX6_look_78 hl (by decide) rfl (fun ls hl => ?_)
        refine lv_iinc (v := (x6 + (1 : Int32))) (lv' := [(6, .int (x6 + (1 : Int32))), (5, .int (t0 + t1)), (0, .ref (a o)), (1, .int x1), (2, .int x2), (3, .int x3), (4, .int x4)]) hx hb dX6_look_80 hl (k := 6) rfl rfl (by decide) rfl (fun ls hl => ?_)
        refine lv_goto (tgt := 31) hx hb dX6_look_83 (by decide) ?_
        have e1 := Option.some.inj hf
        subst e1
        exact (elim_l hF) _ _ _ hW (lv_sub hl [2, 3, 4, 5, 6, 1, 0] rfl)
      have B31 : ∀ (x5 : Int32) (x6 : Int32) (r : (Int32 × Int32) ⊕ ((Int32 × Int32 × Int32) ⊕ (Int32 × Md))), f_X6_look_B31 w x1 x2 x3 x4 x5 x6 = some r → (Sum.elim (fun (sg : Int32 × Int32) => ∀ (H : Heap) (locs : List Loc) (ls : Array Slot), Wd G A s.heap H (bMd G a o w) locs → lv_has ls 7 [(0, .ref (a o)), (1, .int x1), (2, .int x2), (3, .int x3), (4, .int x4), (5, .int sg.1), (6, .int sg.2)] → WW p l e 2 s m [.ref (a o), .int x1] below meth c G A (some (.int out.1)) ((bMd G a o out.2)) H locs 31 ls []) (Sum.elim (fun (sg : Int32 × Int32 × Int32) => ∀ (H : Heap) (locs : List Loc) (ls : Array Slot), Wd G A s.heap H (bMd G a o w) locs → lv_has ls 7 [(0, .ref (a o)), (1, .int x1), (2, .int sg.1), (3, .int sg.2.1), (4, .int sg.2.2)] → WW p l e 2 s m [.ref (a o), .int x1] below meth c G A (some (.int out.1)) ((bMd G a o out.2)) H locs 18 ls []) (fun (r : Int32 × Md) => r = out))) r → ∀ (H : Heap) (locs : List Loc) (ls : Array Slot), Wd G A s.heap H (bMd G a o w) locs → lv_has ls 7 [(0, .ref (a o)), (1, .int x1), (2, .int x2), (3, .int x3), (4, .int x4), (5, .int x5), (6, .int x6)] → WW p l e 2 s m [.ref (a o), .int x1] below meth c G A (some (.int out.1)) ((bMd G a o out.2)) H locs 31 ls [] := by
        intro x5 x6 r hf hF H locs ls hW hl
        unfold f_X6_look_B31 at hf
        refine lv_iload hx hb dX6_look_31 (lv_at hl 6 rfl) ?_
        refine lv_bipush (v := 6) hx hb dX6_look_33 (by decide) ?_
        refine lv_icmp_ge (tgt := 86) hx hb dX6_look_35 (by decide) (fun c35_3 => ?_) (fun c35_3 => ?_)
        · replace hf := if_t c35_3 hf
          obtain ⟨r2, e2⟩ := om_s hf
          replace hf := e2.1
          replace e2 := e2.2
          subst e2
          replace hF := elim_r hF
          exact J86 _ _ _ _ _ hf hF _ _ _ hW (lv_sub hl [0, 1, 2, 3, 4, 5] rfl)
        · replace hf := if_f c35_3 hf
          refine lv_iload hx hb dX6_look_38 (lv_at hl 5 rfl) ?_
          refine lv_iload hx hb dX6_look_40 (lv_at hl 6 rfl) ?_
          refine lv_aload_n hx hb dX6_look_42 rfl (lv_at hl 0 rfl) ?_
          refine k_get C0 hW 6 23 0 (v := .ref (a (o + 14))) rfl (by decide) inX6 mf_X6_54 rfl rfl dX6_look_43 ?_
          refine lv_iload_n hx hb dX6_look_46 rfl (lv_at hl 1 rfl) ?_
          have g47_7 := (gd_some hf).1; replace hf := (gd_some hf).2
          refine k_iald C0 hW 14 (ix x1) rfl (inb_in g47_7) rfl dX6_look_47 ?_
          refine lv_iload hx hb dX6_look_48 (lv_at hl 4 rfl) ?_
          refine lv_aload_n hx hb dX6_look_50 rfl (lv_at hl 0 rfl) ?_
          refine k_get C0 hW 6 24 0 (v := .ref (a (o + 15))) rfl (by decide) inX6 mf_X6_57 rfl rfl dX6_look_51 ?_
          refine lv_iconst (v := 4) hx hb dX6_look_54 (by decide) ?_
          refine lv_iload_n hx hb dX6_look_55 rfl (lv_at hl 1 rfl) ?_
          refine lv_iadd hx hb dX6_look_56 ?_
          have g57_8 := (gd_some hf).1; replace hf := (gd_some hf).2
          refine k_iald C0 hW 15 (ix ((4 : Int32) + x1)) rfl (inb_in g57_8) rfl dX6_look_57 ?_
          refine lv_aload_n hx hb dX6_look_58 rfl (lv_at hl 0 rfl) ?_
          refine k_get C0 hW 6 24 0 (v := .ref (a (o + 15))) rfl (by decide) inX6 mf_X6_57 rfl rfl dX6_look_59 ?_
          refine lv_iconst (v := 2) hx hb dX6_look_62 (by decide) ?_
          refine k_iald C0 hW 15 2 rfl (inb_in rfl) rfl dX6_look_63 ?_
          obtain ⟨q64, hq64⟩ := ob_s hf
          replace hf := hq64.2
          replace hq64 := hq64.1
          refine cS0 (rest := [.int x5]) (st1 := [.int q64, .int x5]) C0 hW hl.1 (c_X6_bearsAs l G x6 ((md_strongs w) (ix x1)) x4 ((md_now w) (ix ((4 : Int32) + x1))) ((md_now w) 2) _ hq64) cb_X6_bearsAs mm_X6_154 [] rfl rfl (by decide) rfl rfl (Nat.le_of_ble_eq_true rfl) ⟨Nat.zero_le _, Nat.zero_le _⟩ dX6_look_64 rfl (fun H locs hW => ?_)
          refine lv_iload hx hb dX6_look_67 (lv_at hl 4 rfl) ?_
          refine lv_icmp_lt (tgt := 76) hx hb dX6_look_69 (by decide) (fun c69_9 => ?_) (fun c69_9 => ?_)
          · replace hf := if_t c69_9 hf
            refine lv_iconst (v := 0) hx hb dX6_look_76 (by decide) ?_
            exact J77 _ _ _ _ hf hF _ _ _ hW (lv_sub hl [0, 1, 2, 3, 4, 6] rfl)
          · replace hf := if_f c69_9 hf
            refine lv_iconst (v := 1) hx hb dX6_look_72 (by decide) ?_
            refine lv_goto (tgt := 77) hx hb dX6_look_73 (by decide) ?_
            exact J77 _ _ _ _ hf hF _ _ _ hW (lv_sub hl [0, 1, 2, 3, 4, 6] rfl)
      exact lp_sound (fun sg r hb hz => B31 sg.1 sg.2 r hb hz)
    have B18 : ∀ (x2 : Int32) (x3 : Int32) (x4 : Int32) (r : (Int32 × Int32 × Int32) ⊕ (Int32 × Md)), f_X6_look_B18 w x1 x2 x3 x4 = some r → (Sum.elim (fun (sg : Int32 × Int32 × Int32) => ∀ (H : Heap) (locs : List Loc) (ls : Array Slot), Wd G A s.heap H (bMd G a o w) locs → lv_has ls 7 [(0, .ref (a o)), (1, .int x1), (2, .int sg.1), (3, .int sg.2.1), (4, .int sg.2.2)] → WW p l e 2 s m [.ref (a o), .int x1] below meth c G A (some (.int out.1)) ((bMd G a o out.2)) H locs 18 ls []) (fun (r : Int32 × Md) => r = out)) r → ∀ (H : Heap) (locs : List Loc) (ls : Array Slot), Wd G A s.heap H (bMd G a o w) locs → lv_has ls 7 [(0, .ref (a o)), (1, .int x1), (2, .int x2), (3, .int x3), (4, .int x4)] → WW p l e 2 s m [.ref (a o), .int x1] below meth c G A (some (.int out.1)) ((bMd G a o out.2)) H locs 18 ls [] := by
      intro x2 x3 x4 r hf hF H locs ls hW hl
      unfold f_X6_look_B18 at hf
      refine lv_iload hx hb dX6_look_18 (lv_at hl 4 rfl) ?_
      refine lv_bipush (v := 10) hx hb dX6_look_20 (by decide) ?_
      refine lv_icmp_ge (tgt := 140) hx hb dX6_look_22 (by decide) (fun c22_2 => ?_) (fun c22_2 => ?_)
      · replace hf := if_t c22_2 hf
        obtain ⟨r2, e2⟩ := om_s hf
        replace hf := e2.1
        replace e2 := e2.2
        subst e2
        replace hF := elim_r hF
        exact J140 _ _ _ _ hf hF _ _ _ hW (lv_sub hl [0, 2, 3] rfl)
      · replace hf := if_f c22_2 hf
        refine lv_iconst (v := 0) hx hb dX6_look_25 (by decide) ?_
        refine lv_istore (lv' := [(5, .int (0 : Int32)), (0, .ref (a o)), (1, .int x1), (2, .int x2), (3, .int x3), (4, .int x4)]) hx hb dX6_look_26 hl (by decide) rfl (fun ls hl => ?_)
        refine lv_iconst (v := 0) hx hb dX6_look_28 (by decide) ?_
        refine lv_istore (lv' := [(6, .int (0 : Int32)), (5, .int (0 : Int32)), (0, .ref (a o)), (1, .int x1), (2, .int x2), (3, .int x3), (4, .int x4)]) hx hb dX6_look_29 hl (by decide) rfl (fun ls hl => ?_)
        exact L31 _ _ _ fuel ((0 : Int32), (0 : Int32)) _ hf hF _ _ _ hW (lv_sub hl [2, 3, 4, 5, 6, 1, 0] rfl)
    exact lp_sound (fun sg r hb hz => B18 sg.1 sg.2.1 sg.2.2 r hb hz)
  obtain ⟨r, hr⟩ : ∃ r, f_X6_look w x1 = some r ∧ r = out := ⟨out, hf, rfl⟩
  replace hf := hr.1
  have hF := hr.2
  clear hr
  unfold f_X6_look at hf
  refine lv_aload_n hx hb dX6_look_0 rfl (lv_at hl 0 rfl) ?_
  refine lv_iload_n hx hb dX6_look_1 rfl (lv_at hl 1 rfl) ?_
  obtain ⟨q2, hq2⟩ := ob_s hf
  replace hf := hq2.2
  replace hq2 := hq2.1
  refine cW1 (rest := []) (ws1 := (bMd G a o w)) (st1 := [.int q2]) C0 hW hl.1 (c_X6_isSpoke l G a o w x1 _ hq2) cb_X6_isSpoke mm_X6_169 fst_Md 0 6 rfl rfl rfl (by decide) rfl rfl (Nat.le_of_ble_eq_true rfl) ⟨Nat.zero_le _, Nat.zero_le _⟩ dX6_look_2 rfl (fun H locs hW => ?_)
  refine lv_if_ne (tgt := 10) hx hb dX6_look_5 (by decide) (fun c5_1 => ?_) (fun c5_1 => ?_)
  · replace hf := if_f c5_1 hf
    refine lv_iconst (v := 0) hx hb dX6_look_10 (by decide) ?_
    refine lv_istore_n (lv' := [(2, .int (0 : Int32)), (0, .ref (a o)), (1, .int x1)]) hx hb dX6_look_11 rfl hl (by decide) rfl (fun ls hl => ?_)
    refine lv_ldc hx hb C0.2.2.2.2.2.1 (C0.2.2.2.2.2.2.1 _ mk_X6_223) dX6_look_12 ?_
    refine lv_istore_n (lv' := [(3, .int (1000000 : Int32)), (2, .int (0 : Int32)), (0, .ref (a o)), (1, .int x1)]) hx hb dX6_look_14 rfl hl (by decide) rfl (fun ls hl => ?_)
    refine lv_iconst (v := 0) hx hb dX6_look_15 (by decide) ?_
    refine lv_istore (lv' := [(4, .int (0 : Int32)), (3, .int (1000000 : Int32)), (2, .int (0 : Int32)), (0, .ref (a o)), (1, .int x1)]) hx hb dX6_look_16 hl (by decide) rfl (fun ls hl => ?_)
    exact L18 _ fuel ((0 : Int32), (1000000 : Int32), (0 : Int32)) _ hf hF _ _ _ hW (lv_sub hl [3, 4, 2, 1, 0] rfl)
  · replace hf := if_t c5_1 hf
    refine lv_iconst (v := -1) hx hb dX6_look_8 (by decide) ?_
    have e1 := Option.some.inj hf
    subst e1
    have hF : (((-1 : Int32), w) : Int32 × Md) = out := hF
    subst hF
    exact k_iret C0 hW dX6_look_9

def f_X6_steps_now_J120 (w : Md) (x2 : Int32) (x5 : Int32) : Option (Int32 × Md) :=
  gd (decide (¬ (md_n w) = 0)) (gd (isB x5) (some (x5, (md_set_now w (upd (upd (md_now w) 1 (jrem (x2 + (1 : Int32)) (md_n w))) 0 (((upd (md_now w) 1 (jrem (x2 + (1 : Int32)) (md_n w))) 0) + (1 : Int32)))))))
def f_X6_steps_now_J118 (w : Md) (x2 : Int32) (x5 : Int32) (t1 : Int32) (t2 : Int32) (t3 : Int32) : Option (Int32 × Md) :=
  gd (inb t1 12) (f_X6_steps_now_J120 (md_set_now w (upd (md_now w) (ix t1) (t2 + t3))) x2 x5)
def f_X6_steps_now_J97 (w : Md) (x2 : Int32) (x5 : Int32) : Option (Int32 × Md) :=
  gd (inb ((4 : Int32) + x2) 12) (gd (inb ((4 : Int32) + x2) 12) (if (30 : Int32) ≤ ((md_now w) (ix ((4 : Int32) + x2))) then (f_X6_steps_now_J118 w x2 x5 ((4 : Int32) + x2) ((md_now w) (ix ((4 : Int32) + x2))) (0 : Int32)) else (f_X6_steps_now_J118 w x2 x5 ((4 : Int32) + x2) ((md_now w) (ix ((4 : Int32) + x2))) (1 : Int32))))
def f_X6_steps_now_J78 (w : Md) (x2 : Int32) (x3 : Int32) (x5 : Int32) : Option (Int32 × Md) :=
  if x5 = 0 then (if ((md_now w) 2) = (1 : Int32) then (f_X6_steps_now_J97 w x2 x5) else (if (jrem x3 (2 : Int32)) = (1 : Int32) then (f_X6_steps_now_J97 w x2 x5) else (f_X6_steps_now_J120 w x2 x5))) else (f_X6_steps_now_J120 w x2 x5)
def f_X6_steps_now_J41 (w : Md) (x2 : Int32) (x3 : Int32) (x4 : Int32) (t0 : Int32) : Option (Int32 × Md) :=
  if t0 = 0 then (Option.bind (f_X6_bearsOn_now w x2 x4) (fun q53 => if x4 ≤ q53 then (f_X6_steps_now_J78 w x2 x3 t0) else (f_X6_steps_now_J120 (md_set_now w (upd (md_now w) 3 (((md_now w) 3) &&& ((jshl (1 : Int32) x2) ^^^ (-1 : Int32))))) x2 (1 : Int32)))) else (f_X6_steps_now_J78 w x2 x3 t0)
def f_X6_steps_now_J36 (w : Md) (x2 : Int32) (x3 : Int32) (x4 : Int32) : Option (Int32 × Md) :=
  f_X6_steps_now_J41 w x2 x3 x4 (1 : Int32)
def f_X6_steps_now (w : Md) : Option (Int32 × Md) :=
  Option.bind (f_X6_depth w ((md_now w) 0)) (fun q10 => Option.bind (f_X6_has ((md_now w) 3) ((md_now w) 1)) (fun q19 => if q19 = 0 then (f_X6_steps_now_J36 w ((md_now w) 1) ((md_now w) 0) q10) else (gd (inb ((md_now w) 1) 8) (if q10 ≤ ((md_longs w) (ix ((md_now w) 1))) then (f_X6_steps_now_J41 w ((md_now w) 1) ((md_now w) 0) q10 (0 : Int32)) else (f_X6_steps_now_J36 w ((md_now w) 1) ((md_now w) 0) q10)))))
set_option maxRecDepth 100000 in
set_option maxHeartbeats 1000000 in
theorem c_X6_steps_now (l : Launch) (G : GG) (a : Nat → Nat) (o : Nat) (w : Md) (out : Int32 × Md) (hf : f_X6_steps_now w = some out) : Cn l G 3 yX6_steps cX6_steps 6 (some .boolean) [.ref (a o), .ref (a (o + 15))] (bMd G a o w) (some (.int out.1)) (bMd G a o out.2) := by
  refine cn_start (by decide) (Nat.le_of_ble_eq_true rfl) ?_
  intro p e s m below meth c A ls C0 hW hl
  have hx := C0.1
  have hb := C0.2.1
  have hl : lv_has ls 6 [(0, .ref (a o)), (1, .ref (a (o + 15)))] := hl
  have J120 : ∀ (x2 : Int32) (x5 : Int32) (w : Md) (r : Int32 × Md), f_X6_steps_now_J120 w x2 x5 = some r → (fun (r : Int32 × Md) => r = out) r → ∀ (H : Heap) (locs : List Loc) (ls : Array Slot), Wd G A s.heap H (bMd G a o w) locs → lv_has ls 6 [(0, .ref (a o)), (1, .ref (a (o + 15))), (2, .int x2), (5, .int x5)] → WW p l e 3 s m [.ref (a o), .ref (a (o + 15))] below meth c G A (some (.int out.1)) ((bMd G a o out.2)) H locs 120 ls [] := by
    intro x2 x5 w r hf hF H locs ls hW hl
    unfold f_X6_steps_now_J120 at hf
    refine lv_aload_n hx hb dX6_steps_120 rfl (lv_at hl 1 rfl) ?_
    refine lv_iconst (v := 1) hx hb dX6_steps_121 (by decide) ?_
    refine lv_iload_n hx hb dX6_steps_122 rfl (lv_at hl 2 rfl) ?_
    refine lv_iconst (v := 1) hx hb dX6_steps_123 (by decide) ?_
    refine lv_iadd hx hb dX6_steps_124 ?_
    refine lv_aload_n hx hb dX6_steps_125 rfl (lv_at hl 0 rfl) ?_
    refine k_get C0 hW 6 18 0 (v := .int (md_n w)) rfl (by decide) inX6 mf_X6_142 rfl rfl dX6_steps_126 ?_
    have g129_4 := (gd_some hf).1; replace hf := (gd_some hf).2
    refine lv_irem hx hb dX6_steps_129 (of_decide_eq_true g129_4) ?_
    refine k_iast C0 hW 15 1 rfl (inb_in rfl) rfl dX6_steps_130 (fun H locs hW => ?_)
    have hW : Wd G A s.heap H (bMd G a o (md_set_now w (upd (md_now w) 1 (jrem (x2 + (1 : Int32)) (md_n w))))) locs := hW
    refine lv_aload_n hx hb dX6_steps_131 rfl (lv_at hl 1 rfl) ?_
    refine lv_iconst (v := 0) hx hb dX6_steps_132 (by decide) ?_
    refine lv_dup2_11 hx hb dX6_steps_133 rfl rfl ?_
    refine k_iald C0 hW 15 0 rfl (inb_in rfl) rfl dX6_steps_134 ?_
    refine lv_iconst (v := 1) hx hb dX6_steps_135 (by decide) ?_
    refine lv_iadd hx hb dX6_steps_136 ?_
    refine k_iast C0 hW 15 0 rfl (inb_in rfl) rfl dX6_steps_137 (fun H locs hW => ?_)
    have hW : Wd G A s.heap H (bMd G a o (md_set_now w (upd (upd (md_now w) 1 (jrem (x2 + (1 : Int32)) (md_n w))) 0 (((upd (md_now w) 1 (jrem (x2 + (1 : Int32)) (md_n w))) 0) + (1 : Int32))))) locs := hW
    refine lv_iload hx hb dX6_steps_138 (lv_at hl 3 rfl) ?_
    have g140_5 := (gd_some hf).1; replace hf := (gd_some hf).2
    have e1 := Option.some.inj hf
    subst e1
    have hF : ((x5, (md_set_now w (upd (upd (md_now w) 1 (jrem (x2 + (1 : Int32)) (md_n w))) 0 (((upd (md_now w) 1 (jrem (x2 + (1 : Int32)) (md_n w))) 0) + (1 : Int32))))) : Int32 × Md) = out := hF
    subst hF
    exact k_zret C0 hW g140_5 dX6_steps_140
  have J118 : ∀ (x2 : Int32) (x5 : Int32) (t1 : Int32) (t2 : Int32) (t3 : Int32) (w : Md) (r : Int32 × Md), f_X6_steps_now_J118 w x2 x5 t1 t2 t3 = some r → (fun (r : Int32 × Md) => r = out) r → ∀ (H : Heap) (locs : List Loc) (ls : Array Slot), Wd G A s.heap H (bMd G a o w) locs → lv_has ls 6 [(0, .ref (a o)), (1, .ref (a (o + 15))), (2, .int x2), (5, .int x5)] → WW p l e 3 s m [.ref (a o), .ref (a (o + 15))] below meth c G A (some (.int out.1)) ((bMd G a o out.2)) H locs 118 ls [.int t3, .int t2, .int t1, .ref (a (o + 15))] := by
    intro x2 x5 t1 t2 t3 w r hf hF H locs ls hW hl
    unfold f_X6_steps_now_J118 at hf
    refine lv_iadd hx hb dX6_steps_118 ?_
    have g119_10 := (gd_some hf).1; replace hf := (gd_some hf).2
    refine k_iast C0 hW 15 (ix t1) rfl (inb_in g119_10) rfl dX6_steps_119 (fun H locs hW => ?_)
    have hW : Wd G A s.heap H (bMd G a o (md_set_now w (upd (md_now w) (ix t1) (t2 + t3)))) locs := hW
    exact J120 _ _ _ _ hf hF _ _ _ hW (lv_sub hl [0, 1, 2, 3] rfl)
  have J97 : ∀ (x2 : Int32) (x5 : Int32) (w : Md) (r : Int32 × Md), f_X6_steps_now_J97 w x2 x5 = some r → (fun (r : Int32 × Md) => r = out) r → ∀ (H : Heap) (locs : List Loc) (ls : Array Slot), Wd G A s.heap H (bMd G a o w) locs → lv_has ls 6 [(0, .ref (a o)), (1, .ref (a (o + 15))), (2, .int x2), (5, .int x5)] → WW p l e 3 s m [.ref (a o), .ref (a (o + 15))] below meth c G A (some (.int out.1)) ((bMd G a o out.2)) H locs 97 ls [] := by
    intro x2 x5 w r hf hF H locs ls hW hl
    unfold f_X6_steps_now_J97 at hf
    refine lv_aload_n hx hb dX6_steps_97 rfl (lv_at hl 1 rfl) ?_
    refine lv_iconst (v := 4) hx hb dX6_steps_98 (by decide) ?_
    refine lv_iload_n hx hb dX6_steps_99 rfl (lv_at hl 2 rfl) ?_
    refine lv_iadd hx hb dX6_steps_100 ?_
    refine lv_dup2_11 hx hb dX6_steps_101 rfl rfl ?_
    have g102_7 := (gd_some hf).1; replace hf := (gd_some hf).2
    refine k_iald C0 hW 15 (ix ((4 : Int32) + x2)) rfl (inb_in g102_7) rfl dX6_steps_102 ?_
    refine lv_aload_n hx hb dX6_steps_103 rfl (lv_at hl 1 rfl) ?_
    refine lv_iconst (v := 4) hx hb dX6_steps_104 (by decide) ?_
    refine lv_iload_n hx hb dX6_steps_105 rfl (lv_at hl 2 rfl) ?_
    refine lv_iadd hx hb dX6_steps_106 ?_
    have g107_8 := (gd_some hf).1; replace hf := (gd_some hf).2
    refine k_iald C0 hW 15 (ix ((4 : Int32) + x2)) rfl (inb_in g107_8) rfl dX6_steps_107 ?_
    refine lv_bipush (v := 30) hx hb dX6_steps_108 (by decide) ?_
    refine lv_icmp_ge (tgt := 117) hx hb dX6_steps_110 (by decide) (fun c110_9 => ?_) (fun c110_9 => ?_)
    · replace hf := if_t c110_9 hf
      refine lv_iconst (v := 0) hx hb dX6_steps_117 (by decide) ?_
      exact J118 _ _ _ _ _ _ _ hf hF _ _ _ hW (lv_sub hl [0, 1, 2, 3] rfl)
    · replace hf := if_f c110_9 hf
      refine lv_iconst (v := 1) hx hb dX6_steps_113 (by decide) ?_
      refine lv_goto (tgt := 118) hx hb dX6_steps_114 (by decide) ?_
      exact J118 _ _ _ _ _ _ _ hf hF _ _ _ hW (lv_sub hl [0, 1, 2, 3] rfl)
  have J78 : ∀ (x2 : Int32) (x3 : Int32) (x5 : Int32) (w : Md) (r : Int32 × Md), f_X6_steps_now_J78 w x2 x3 x5 = some r → (fun (r : Int32 × Md) => r = out) r → ∀ (H : Heap) (locs : List Loc) (ls : Array Slot), Wd G A s.heap H (bMd G a o w) locs → lv_has ls 6 [(0, .ref (a o)), (1, .ref (a (o + 15))), (2, .int x2), (3, .int x3), (5, .int x5)] → WW p l e 3 s m [.ref (a o), .ref (a (o + 15))] below meth c G A (some (.int out.1)) ((bMd G a o out.2)) H locs 78 ls [] := by
    intro x2 x3 x5 w r hf hF H locs ls hW hl
    unfold f_X6_steps_now_J78 at hf
    refine lv_iload hx hb dX6_steps_78 (lv_at hl 4 rfl) ?_
    refine lv_if_ne (tgt := 120) hx hb dX6_steps_80 (by decide) (fun c80_3 => ?_) (fun c80_3 => ?_)
    · replace hf := if_f c80_3 hf
      exact J120 _ _ _ _ hf hF _ _ _ hW (lv_sub hl [0, 1, 2, 4] rfl)
    · replace hf := if_t c80_3 hf
      refine lv_aload_n hx hb dX6_steps_83 rfl (lv_at hl 1 rfl) ?_
      refine lv_iconst (v := 2) hx hb dX6_steps_84 (by decide) ?_
      refine k_iald C0 hW 15 2 rfl (inb_in rfl) rfl dX6_steps_85 ?_
      refine lv_iconst (v := 1) hx hb dX6_steps_86 (by decide) ?_
      refine lv_icmp_eq (tgt := 97) hx hb dX6_steps_87 (by decide) (fun c87_6 => ?_) (fun c87_6 => ?_)
      · replace hf := if_t c87_6 hf
        exact J97 _ _ _ _ hf hF _ _ _ hW (lv_sub hl [0, 1, 2, 4] rfl)
      · replace hf := if_f c87_6 hf
        refine lv_iload_n hx hb dX6_steps_90 rfl (lv_at hl 3 rfl) ?_
        refine lv_iconst (v := 2) hx hb dX6_steps_91 (by decide) ?_
        refine lv_irem hx hb dX6_steps_92 (by decide) ?_
        refine lv_iconst (v := 1) hx hb dX6_steps_93 (by decide) ?_
        refine lv_icmp_ne (tgt := 120) hx hb dX6_steps_94 (by decide) (fun c94_11 => ?_) (fun c94_11 => ?_)
        · replace hf := if_f c94_11 hf
          exact J120 _ _ _ _ hf hF _ _ _ hW (lv_sub hl [0, 1, 2, 4] rfl)
        · replace hf := if_t c94_11 hf
          exact J97 _ _ _ _ hf hF _ _ _ hW (lv_sub hl [0, 1, 2, 4] rfl)
  have J41 : ∀ (x2 : Int32) (x3 : Int32) (x4 : Int32) (t0 : Int32) (w : Md) (r : Int32 × Md), f_X6_steps_now_J41 w x2 x3 x4 t0 = some r → (fun (r : Int32 × Md) => r = out) r → ∀ (H : Heap) (locs : List Loc) (ls : Array Slot), Wd G A s.heap H (bMd G a o w) locs → lv_has ls 6 [(0, .ref (a o)), (1, .ref (a (o + 15))), (2, .int x2), (3, .int x3), (4, .int x4)] → WW p l e 3 s m [.ref (a o), .ref (a (o + 15))] below meth c G A (some (.int out.1)) ((bMd G a o out.2)) H locs 41 ls [.int t0] := by
    intro x2 x3 x4 t0 w r hf hF H locs ls hW hl
    unfold f_X6_steps_now_J41 at hf
    refine lv_istore (lv' := [(5, .int t0), (0, .ref (a o)), (1, .ref (a (o + 15))), (2, .int x2), (3, .int x3), (4, .int x4)]) hx hb dX6_steps_41 hl (by decide) rfl (fun ls hl => ?_)
    refine lv_iload hx hb dX6_steps_43 (lv_at hl 0 rfl) ?_
    refine lv_if_ne (tgt := 78) hx hb dX6_steps_45 (by decide) (fun c45_2 => ?_) (fun c45_2 => ?_)
    · replace hf := if_f c45_2 hf
      exact J78 _ _ _ _ _ hf hF _ _ _ hW (lv_sub hl [1, 2, 3, 4, 0] rfl)
    · replace hf := if_t c45_2 hf
      refine lv_aload_n hx hb dX6_steps_48 rfl (lv_at hl 1 rfl) ?_
      refine lv_aload_n hx hb dX6_steps_49 rfl (lv_at hl 2 rfl) ?_
      refine lv_iload_n hx hb dX6_steps_50 rfl (lv_at hl 3 rfl) ?_
      refine lv_iload hx hb dX6_steps_51 (lv_at hl 5 rfl) ?_
      obtain ⟨q53, hq53⟩ := ob_s hf
      replace hf := hq53.2
      replace hq53 := hq53.1
      refine cW1 (rest := []) (ws1 := (bMd G a o w)) (st1 := [.int q53]) C0 hW hl.1 (c_X6_bearsOn_now l G a o w x2 x4 _ hq53) cb_X6_bearsOn mm_X6_165 fst_Md 0 6 rfl rfl rfl (by decide) rfl rfl (Nat.le_of_ble_eq_true rfl) ⟨Nat.zero_le _, Nat.zero_le _⟩ dX6_steps_53 rfl (fun H locs hW => ?_)
      refine lv_iload hx hb dX6_steps_56 (lv_at hl 5 rfl) ?_
      refine lv_icmp_ge (tgt := 78) hx hb dX6_steps_58 (by decide) (fun c58_12 => ?_) (fun c58_12 => ?_)
      · replace hf := if_t c58_12 hf
        exact J78 _ _ _ _ _ hf hF _ _ _ hW (lv_sub hl [1, 2, 3, 4, 0] rfl)
      · replace hf := if_f c58_12 hf
        refine lv_iconst (v := 1) hx hb dX6_steps_61 (by decide) ?_
        refine lv_istore (lv' := [(5, .int (1 : Int32)), (0, .ref (a o)), (1, .ref (a (o + 15))), (2, .int x2), (3, .int x3), (4, .int x4)]) hx hb dX6_steps_62 hl (by decide) rfl (fun ls hl => ?_)
        refine lv_aload_n hx hb dX6_steps_64 rfl (lv_at hl 2 rfl) ?_
        refine lv_iconst (v := 3) hx hb dX6_steps_65 (by decide) ?_
        refine lv_dup2_11 hx hb dX6_steps_66 rfl rfl ?_
        refine k_iald C0 hW 15 3 rfl (inb_in rfl) rfl dX6_steps_67 ?_
        refine lv_iconst (v := 1) hx hb dX6_steps_68 (by decide) ?_
        refine lv_iload_n hx hb dX6_steps_69 rfl (lv_at hl 3 rfl) ?_
        refine lv_ishl hx hb dX6_steps_70 ?_
        refine lv_iconst (v := -1) hx hb dX6_steps_71 (by decide) ?_
        refine lv_ixor hx hb dX6_steps_72 ?_
        refine lv_iand hx hb dX6_steps_73 ?_
        refine k_iast C0 hW 15 3 rfl (inb_in rfl) rfl dX6_steps_74 (fun H locs hW => ?_)
        have hW : Wd G A s.heap H (bMd G a o (md_set_now w (upd (md_now w) 3 (((md_now w) 3) &&& ((jshl (1 : Int32) x2) ^^^ (-1 : Int32)))))) locs := hW
        refine lv_goto (tgt := 120) hx hb dX6_steps_75 (by decide) ?_
        exact J120 _ _ _ _ hf hF _ _ _ hW (lv_sub hl [1, 2, 3, 0] rfl)
  have J36 : ∀ (x2 : Int32) (x3 : Int32) (x4 : Int32) (w : Md) (r : Int32 × Md), f_X6_steps_now_J36 w x2 x3 x4 = some r → (fun (r : Int32 × Md) => r = out) r → ∀ (H : Heap) (locs : List Loc) (ls : Array Slot), Wd G A s.heap H (bMd G a o w) locs → lv_has ls 6 [(0, .ref (a o)), (1, .ref (a (o + 15))), (2, .int x2), (3, .int x3), (4, .int x4)] → WW p l e 3 s m [.ref (a o), .ref (a (o + 15))] below meth c G A (some (.int out.1)) ((bMd G a o out.2)) H locs 36 ls [] := by
    intro x2 x3 x4 w r hf hF H locs ls hW hl
    unfold f_X6_steps_now_J36 at hf
    refine lv_iconst (v := 1) hx hb dX6_steps_36 (by decide) ?_
    refine lv_goto (tgt := 41) hx hb dX6_steps_37 (by decide) ?_
    exact J41 _ _ _ _ _ _ hf hF _ _ _ hW (lv_sub hl [0, 1, 2, 3, 4] rfl)
  obtain ⟨r, hr⟩ : ∃ r, f_X6_steps_now w = some r ∧ r = out := ⟨out, hf, rfl⟩
  replace hf := hr.1
  have hF := hr.2
  clear hr
  unfold f_X6_steps_now at hf
  refine lv_aload_n hx hb dX6_steps_0 rfl (lv_at hl 1 rfl) ?_
  refine lv_iconst (v := 1) hx hb dX6_steps_1 (by decide) ?_
  refine k_iald C0 hW 15 1 rfl (inb_in rfl) rfl dX6_steps_2 ?_
  refine lv_istore_n (lv' := [(2, .int ((md_now w) 1)), (0, .ref (a o)), (1, .ref (a (o + 15)))]) hx hb dX6_steps_3 rfl hl (by decide) rfl (fun ls hl => ?_)
  refine lv_aload_n hx hb dX6_steps_4 rfl (lv_at hl 2 rfl) ?_
  refine lv_iconst (v := 0) hx hb dX6_steps_5 (by decide) ?_
  refine k_iald C0 hW 15 0 rfl (inb_in rfl) rfl dX6_steps_6 ?_
  refine lv_istore_n (lv' := [(3, .int ((md_now w) 0)), (2, .int ((md_now w) 1)), (0, .ref (a o)), (1, .ref (a (o + 15)))]) hx hb dX6_steps_7 rfl hl (by decide) rfl (fun ls hl => ?_)
  refine lv_aload_n hx hb dX6_steps_8 rfl (lv_at hl 2 rfl) ?_
  refine lv_iload_n hx hb dX6_steps_9 rfl (lv_at hl 0 rfl) ?_
  obtain ⟨q10, hq10⟩ := ob_s hf
  replace hf := hq10.2
  replace hq10 := hq10.1
  refine cW1 (rest := []) (ws1 := (bMd G a o w)) (st1 := [.int q10]) C0 hW hl.1 (c_X6_depth l G a o w ((md_now w) 0) _ hq10) cb_X6_depth mm_X6_162 fst_Md 0 6 rfl rfl rfl (by decide) rfl rfl (Nat.le_of_ble_eq_true rfl) ⟨Nat.zero_le _, Nat.zero_le _⟩ dX6_steps_10 rfl (fun H locs hW => ?_)
  refine lv_istore (lv' := [(4, .int q10), (3, .int ((md_now w) 0)), (2, .int ((md_now w) 1)), (0, .ref (a o)), (1, .ref (a (o + 15)))]) hx hb dX6_steps_13 hl (by decide) rfl (fun ls hl => ?_)
  refine lv_aload_n hx hb dX6_steps_15 rfl (lv_at hl 4 rfl) ?_
  refine lv_iconst (v := 3) hx hb dX6_steps_16 (by decide) ?_
  refine k_iald C0 hW 15 3 rfl (inb_in rfl) rfl dX6_steps_17 ?_
  refine lv_iload_n hx hb dX6_steps_18 rfl (lv_at hl 2 rfl) ?_
  obtain ⟨q19, hq19⟩ := ob_s hf
  replace hf := hq19.2
  replace hq19 := hq19.1
  refine cS0 (rest := []) (st1 := [.int q19]) C0 hW hl.1 (c_X6_has l G ((md_now w) 3) ((md_now w) 1) _ hq19) cb_X6_has mm_X6_158 [] rfl rfl (by decide) rfl rfl (Nat.le_of_ble_eq_true rfl) ⟨Nat.zero_le _, Nat.zero_le _⟩ dX6_steps_19 rfl (fun H locs hW => ?_)
  refine lv_if_eq (tgt := 36) hx hb dX6_steps_22 (by decide) (fun c22_1 => ?_) (fun c22_1 => ?_)
  · replace hf := if_t c22_1 hf
    exact J36 _ _ _ _ _ hf hF _ _ _ hW (lv_sub hl [3, 4, 2, 1, 0] rfl)
  · replace hf := if_f c22_1 hf
    refine lv_aload_n hx hb dX6_steps_25 rfl (lv_at hl 3 rfl) ?_
    refine k_get C0 hW 6 22 0 (v := .ref (a (o + 13))) rfl (by decide) inX6 mf_X6_51 rfl rfl dX6_steps_26 ?_
    refine lv_iload_n hx hb dX6_steps_29 rfl (lv_at hl 2 rfl) ?_
    have g30_13 := (gd_some hf).1; replace hf := (gd_some hf).2
    refine k_iald C0 hW 13 (ix ((md_now w) 1)) rfl (inb_in g30_13) rfl dX6_steps_30 ?_
    refine lv_iload hx hb dX6_steps_31 (lv_at hl 0 rfl) ?_
    refine lv_icmp_ge (tgt := 40) hx hb dX6_steps_33 (by decide) (fun c33_14 => ?_) (fun c33_14 => ?_)
    · replace hf := if_t c33_14 hf
      refine lv_iconst (v := 0) hx hb dX6_steps_40 (by decide) ?_
      exact J41 _ _ _ _ _ _ hf hF _ _ _ hW (lv_sub hl [3, 4, 2, 1, 0] rfl)
    · replace hf := if_f c33_14 hf
      exact J36 _ _ _ _ _ hf hF _ _ _ hW (lv_sub hl [3, 4, 2, 1, 0] rfl)

def f_X6_soaks_B4 (k : Nat) (x1 : Int32) (x2 : Int32) (f : Ar) : Option ((Int32 × Int32 × Ar) ⊕ (Int32 × Ar)) :=
  if (8 : Int32) ≤ x2 then (Option.map Sum.inr (some (x1, f))) else (gd (inb ((4 : Int32) + x2) k) (gd (inb ((4 : Int32) + x2) k) (gd (inb ((4 : Int32) + x2) k) (nm (x1 + ((upd f (ix ((4 : Int32) + x2)) ((f (ix ((4 : Int32) + x2))) / (2 : Int32))) (ix ((4 : Int32) + x2)))) (fun v26 => some (Sum.inl (v26, (x2 + (1 : Int32)), (upd f (ix ((4 : Int32) + x2)) ((f (ix ((4 : Int32) + x2))) / (2 : Int32))))))))))
def f_X6_soaks_L4 (k : Nat) (sg : Int32 × Int32 × Ar) : Option ((Int32 × Int32 × Ar) ⊕ (Int32 × Ar)) := f_X6_soaks_B4 k sg.1 sg.2.1 sg.2.2
def f_X6_soaks (k : Nat) (f : Ar) : Option (Int32 × Ar) :=
  lp (f_X6_soaks_L4 k) fuel ((0 : Int32), (0 : Int32), f)
set_option maxRecDepth 100000 in
set_option maxHeartbeats 1000000 in
theorem c_X6_soaks (l : Launch) (G : GG) (aa : Nat) (k : Nat) (f : Ar) (out : Int32 × Ar) (hf : f_X6_soaks k f = some out) : Cn l G 0 yX6_soaks cX6_soaks 3 (some .int) [.ref (aa)] ([(aa, eI G k f)]) (some (.int out.1)) ([(aa, eI G k out.2)]) := by
  refine cn_start (by decide) (Nat.le_of_ble_eq_true rfl) ?_
  intro p e s m below meth c A ls C0 hW hl
  have hx := C0.1
  have hb := C0.2.1
  have hl : lv_has ls 3 [(0, .ref (aa))] := hl
  have L4 : ∀ (k8 : Nat) (sg : Int32 × Int32 × Ar) (o9 : Int32 × Ar), lp (f_X6_soaks_L4 k) k8 sg = some o9 → (fun (r : Int32 × Ar) => r = out) o9 → (fun (sg : Int32 × Int32 × Ar) => ∀ (H : Heap) (locs : List Loc) (ls : Array Slot), Wd G A s.heap H ([(aa, eI G k sg.2.2)]) locs → lv_has ls 3 [(0, .ref (aa)), (1, .int sg.1), (2, .int sg.2.1)] → WW p l e 0 s m [.ref (aa)] below meth c G A (some (.int out.1)) (([(aa, eI G k out.2)])) H locs 4 ls []) sg := by
    have B4 : ∀ (x1 : Int32) (x2 : Int32) (f : Ar) (r : (Int32 × Int32 × Ar) ⊕ (Int32 × Ar)), f_X6_soaks_B4 k x1 x2 f = some r → (Sum.elim (fun (sg : Int32 × Int32 × Ar) => ∀ (H : Heap) (locs : List Loc) (ls : Array Slot), Wd G A s.heap H ([(aa, eI G k sg.2.2)]) locs → lv_has ls 3 [(0, .ref (aa)), (1, .int sg.1), (2, .int sg.2.1)] → WW p l e 0 s m [.ref (aa)] below meth c G A (some (.int out.1)) (([(aa, eI G k out.2)])) H locs 4 ls []) (fun (r : Int32 × Ar) => r = out)) r → ∀ (H : Heap) (locs : List Loc) (ls : Array Slot), Wd G A s.heap H ([(aa, eI G k f)]) locs → lv_has ls 3 [(0, .ref (aa)), (1, .int x1), (2, .int x2)] → WW p l e 0 s m [.ref (aa)] below meth c G A (some (.int out.1)) (([(aa, eI G k out.2)])) H locs 4 ls [] := by
      intro x1 x2 f r hf hF H locs ls hW hl
      unfold f_X6_soaks_B4 at hf
      refine lv_iload_n hx hb dX6_soaks_4 rfl (lv_at hl 2 rfl) ?_
      refine lv_bipush (v := 8) hx hb dX6_soaks_5 (by decide) ?_
      refine lv_icmp_ge (tgt := 33) hx hb dX6_soaks_7 (by decide) (fun c7_1 => ?_) (fun c7_1 => ?_)
      · replace hf := if_t c7_1 hf
        obtain ⟨r2, e2⟩ := om_s hf
        replace hf := e2.1
        replace e2 := e2.2
        subst e2
        replace hF := elim_r hF
        refine lv_iload_n hx hb dX6_soaks_33 rfl (lv_at hl 1 rfl) ?_
        have e1 := Option.some.inj hf
        subst e1
        have hF : ((x1, f) : Int32 × Ar) = out := hF
        subst hF
        exact k_iret C0 hW dX6_soaks_34
      · replace hf := if_f c7_1 hf
        refine lv_aload_n hx hb dX6_soaks_10 rfl (lv_at hl 0 rfl) ?_
        refine lv_iconst (v := 4) hx hb dX6_soaks_11 (by decide) ?_
        refine lv_iload_n hx hb dX6_soaks_12 rfl (lv_at hl 2 rfl) ?_
        refine lv_iadd hx hb dX6_soaks_13 ?_
        refine lv_dup2_11 hx hb dX6_soaks_14 rfl rfl ?_
        have g15_2 := (gd_some hf).1; replace hf := (gd_some hf).2
        refine k_iald C0 hW 0 (ix ((4 : Int32) + x2)) rfl (inb_in g15_2) rfl dX6_soaks_15 ?_
        refine lv_iconst (v := 2) hx hb dX6_soaks_16 (by decide) ?_
        refine lv_idiv hx hb dX6_soaks_17 (by decide) ?_
        have g18_3 := (gd_some hf).1; replace hf := (gd_some hf).2
        refine k_iast C0 hW 0 (ix ((4 : Int32) + x2)) rfl (inb_in g18_3) rfl dX6_soaks_18 (fun H locs hW => ?_)
        have hW : Wd G A s.heap H ([(aa, eI G k (upd f (ix ((4 : Int32) + x2)) ((f (ix ((4 : Int32) + x2))) / (2 : Int32))))]) locs := hW
        refine lv_iload_n hx hb dX6_soaks_19 rfl (lv_at hl 1 rfl) ?_
        refine lv_aload_n hx hb dX6_soaks_20 rfl (lv_at hl 0 rfl) ?_
        refine lv_iconst (v := 4) hx hb dX6_soaks_21 (by decide) ?_
        refine lv_iload_n hx hb dX6_soaks_22 rfl (lv_at hl 2 rfl) ?_
        refine lv_iadd hx hb dX6_soaks_23 ?_
        have g24_4 := (gd_some hf).1; replace hf := (gd_some hf).2
        refine k_iald C0 hW 0 (ix ((4 : Int32) + x2)) rfl (inb_in g24_4) rfl dX6_soaks_24 ?_
        refine lv_iadd hx hb dX6_soaks_25 ?_
        refine lv_topi (fun v26 ev26 => ?_)
        replace hf := nm_s ev26 hf
        refine lv_istore_n (lv' := [(1, .int v26), (0, .ref (aa)), (2, .int x2)]) hx hb dX6_soaks_26 rfl hl (by decide) rfl (fun ls hl => ?_)
        refine lv_iinc (v := (x2 + (1 : Int32))) (lv' := [(2, .int (x2 + (1 : Int32))), (1, .int v26), (0, .ref (aa))]) hx hb dX6_soaks_27 hl (k := 2) rfl rfl (by decide) rfl (fun ls hl => ?_)
        refine lv_goto (tgt := 4) hx hb dX6_soaks_30 (by decide) ?_
        have e1 := Option.some.inj hf
        subst e1
        exact (elim_l hF) _ _ _ hW (lv_sub hl [2, 1, 0] rfl)
    exact lp_sound (fun sg r hb hz => B4 sg.1 sg.2.1 sg.2.2 r hb hz)
  obtain ⟨r, hr⟩ : ∃ r, f_X6_soaks k f = some r ∧ r = out := ⟨out, hf, rfl⟩
  replace hf := hr.1
  have hF := hr.2
  clear hr
  unfold f_X6_soaks at hf
  refine lv_iconst (v := 0) hx hb dX6_soaks_0 (by decide) ?_
  refine lv_istore_n (lv' := [(1, .int (0 : Int32)), (0, .ref (aa))]) hx hb dX6_soaks_1 rfl hl (by decide) rfl (fun ls hl => ?_)
  refine lv_iconst (v := 0) hx hb dX6_soaks_2 (by decide) ?_
  refine lv_istore_n (lv' := [(2, .int (0 : Int32)), (1, .int (0 : Int32)), (0, .ref (aa))]) hx hb dX6_soaks_3 rfl hl (by decide) rfl (fun ls hl => ?_)
  exact L4  fuel ((0 : Int32), (0 : Int32), f) _ hf hF _ _ _ hW (lv_sub hl [2, 1, 0] rfl)

def f_X6_lots_J168 (w : Md) : Option (Int32 × Md) :=
  some (((md_now w) 0), w)
def f_X6_lots_J162 (w : Md) (x1 : Int32) (x3 : Int64) (x5 : Int32) : Option ((Int64 × Int32 × Md) ⊕ (Int32 × Md)) :=
  some (Sum.inl (x3, (x5 + (1 : Int32)), w))
def f_X6_lots_B52 (x1 : Int32) (x3 : Int64) (x5 : Int32) (w : Md) : Option ((Int64 × Int32 × Md) ⊕ (Int32 × Md)) :=
  if x1 ≤ x5 then (Option.map Sum.inr (f_X6_lots_J168 w)) else (nm (jremL ((48271 : Int64) * x3) (2147483647 : Int64)) (fun v67 => Option.bind (f_X6_remember w) (fun q69 => if (lg_cmp (jremL v67 (6 : Int64)) (0 : Int64)) = 0 then (f_X6_lots_J162 (md_set_now q69 (upd (md_now q69) 2 ((1 : Int32) - ((md_now q69) 2)))) x1 v67 x5) else (if (lg_cmp (jremL v67 (6 : Int64)) (1 : Int64)) = 0 then (gd (decide (¬ ((md_n q69).toInt64) = 0)) (Option.bind (f_X6_puts 12 (md_now q69) ((jremL (v67 / (8 : Int64)) ((md_n q69).toInt64)).toInt32)) (fun q125 => f_X6_lots_J162 (md_set_now q69 q125) x1 v67 x5))) else (Option.bind (f_X6_isOver_now q69) (fun q136 => if q136 = 0 then (Option.bind (f_X6_steps_now q69) (fun q158 => f_X6_lots_J162 q158.2 x1 v67 x5)) else (Option.bind (f_X6_soaks 12 (md_now q69)) (fun q146 => f_X6_lots_J162 (md_set_now q69 q146.2) x1 v67 x5))))))))
def f_X6_lots_L52 (x1 : Int32) (sg : Int64 × Int32 × Md) : Option ((Int64 × Int32 × Md) ⊕ (Int32 × Md)) := f_X6_lots_B52 x1 sg.1 sg.2.1 sg.2.2
def f_X6_lots (w : Md) (x1 : Int32) (x2 : Int32) : Option (Int32 × Md) :=
  Option.bind (f_X6_in x1 (1 : Int32) (20 : Int32)) (fun q4 => if q4 = 0 then (some ((-1 : Int32), w)) else (Option.bind (f_X6_in x2 (1 : Int32) (2147483646 : Int32)) (fun q14 => if q14 = 0 then (some ((-1 : Int32), w)) else (if (md_n w) = 0 then (some ((-4 : Int32), w)) else (if ((md_deedMany w) + x1) ≤ (40 : Int32) then (lp (f_X6_lots_L52 x1) fuel ((x2.toInt64), (0 : Int32), w)) else (some ((-2 : Int32), w)))))))
set_option maxRecDepth 100000 in
set_option maxHeartbeats 1000000 in
theorem c_X6_lots (l : Launch) (G : GG) (a : Nat → Nat) (o : Nat) (w : Md) (x1 : Int32) (x2 : Int32) (out : Int32 × Md) (hf : f_X6_lots w x1 x2 = some out) : Cn l G 4 yX6_lots cX6_lots 6 (some .int) [.ref (a o), .int x1, .int x2] (bMd G a o w) (some (.int out.1)) (bMd G a o out.2) := by
  refine cn_start (by decide) (Nat.le_of_ble_eq_true rfl) ?_
  intro p e s m below meth c A ls C0 hW hl
  have hx := C0.1
  have hb := C0.2.1
  have hl : lv_has ls 6 [(0, .ref (a o)), (1, .int x1), (2, .int x2)] := hl
  have J168 : ∀ (w : Md) (r : Int32 × Md), f_X6_lots_J168 w = some r → (fun (r : Int32 × Md) => r = out) r → ∀ (H : Heap) (locs : List Loc) (ls : Array Slot), Wd G A s.heap H (bMd G a o w) locs → lv_has ls 6 [(0, .ref (a o))] → WW p l e 4 s m [.ref (a o), .int x1, .int x2] below meth c G A (some (.int out.1)) ((bMd G a o out.2)) H locs 168 ls [] := by
    intro w r hf hF H locs ls hW hl
    unfold f_X6_lots_J168 at hf
    refine lv_aload_n hx hb dX6_lots_168 rfl (lv_at hl 0 rfl) ?_
    refine k_get C0 hW 6 24 0 (v := .ref (a (o + 15))) rfl (by decide) inX6 mf_X6_57 rfl rfl dX6_lots_169 ?_
    refine lv_iconst (v := 0) hx hb dX6_lots_172 (by decide) ?_
    refine k_iald C0 hW 15 0 rfl (inb_in rfl) rfl dX6_lots_173 ?_
    have e1 := Option.some.inj hf
    subst e1
    have hF : ((((md_now w) 0), w) : Int32 × Md) = out := hF
    subst hF
    exact k_iret C0 hW dX6_lots_174
  have L52 : ∀ (k8 : Nat) (sg : Int64 × Int32 × Md) (o9 : Int32 × Md), lp (f_X6_lots_L52 x1) k8 sg = some o9 → (fun (r : Int32 × Md) => r = out) o9 → (fun (sg : Int64 × Int32 × Md) => ∀ (H : Heap) (locs : List Loc) (ls : Array Slot), Wd G A s.heap H (bMd G a o sg.2.2) locs → lv_has ls 6 [(0, .ref (a o)), (1, .int x1), (3, .long sg.1), (5, .int sg.2.1)] → WW p l e 4 s m [.ref (a o), .int x1, .int x2] below meth c G A (some (.int out.1)) ((bMd G a o out.2)) H locs 52 ls []) sg := by
    have J162 : ∀ (x3 : Int64) (x5 : Int32) (w : Md) (r : (Int64 × Int32 × Md) ⊕ (Int32 × Md)), f_X6_lots_J162 w x1 x3 x5 = some r → (Sum.elim (fun (sg : Int64 × Int32 × Md) => ∀ (H : Heap) (locs : List Loc) (ls : Array Slot), Wd G A s.heap H (bMd G a o sg.2.2) locs → lv_has ls 6 [(0, .ref (a o)), (1, .int x1), (3, .long sg.1), (5, .int sg.2.1)] → WW p l e 4 s m [.ref (a o), .int x1, .int x2] below meth c G A (some (.int out.1)) ((bMd G a o out.2)) H locs 52 ls []) (fun (r : Int32 × Md) => r = out)) r → ∀ (H : Heap) (locs : List Loc) (ls : Array Slot), Wd G A s.heap H (bMd G a o w) locs → lv_has ls 6 [(0, .ref (a o)), (1, .int x1), (3, .long x3), (5, .int x5)] → WW p l e 4 s m [.ref (a o), .int x1, .int x2] below meth c G A (some (.int out.1)) ((bMd G a o out.2)) H locs 162 ls [] := by
      intro x3 x5 w r hf hF H locs ls hW hl
      unfold f_X6_lots_J162 at hf
      refine lv_iinc (v := (x5 + (1 : Int32))) (lv' := [(5, .int (x5 + (1 : Int32))), (0, .ref (a o)), (1, .int x1), (3, .long x3)]) hx hb dX6_lots_162 hl (k := 3) rfl rfl (by decide) rfl (fun ls hl => ?_)
      refine lv_goto (tgt := 52) hx hb dX6_lots_165 (by decide) ?_
      have e1 := Option.some.inj hf
      subst e1
      exact (elim_l hF) _ _ _ hW (lv_sub hl [1, 2, 3, 0] rfl)
    have B52 : ∀ (x3 : Int64) (x5 : Int32) (w : Md) (r : (Int64 × Int32 × Md) ⊕ (Int32 × Md)), f_X6_lots_B52 x1 x3 x5 w = some r → (Sum.elim (fun (sg : Int64 × Int32 × Md) => ∀ (H : Heap) (locs : List Loc) (ls : Array Slot), Wd G A s.heap H (bMd G a o sg.2.2) locs → lv_has ls 6 [(0, .ref (a o)), (1, .int x1), (3, .long sg.1), (5, .int sg.2.1)] → WW p l e 4 s m [.ref (a o), .int x1, .int x2] below meth c G A (some (.int out.1)) ((bMd G a o out.2)) H locs 52 ls []) (fun (r : Int32 × Md) => r = out)) r → ∀ (H : Heap) (locs : List Loc) (ls : Array Slot), Wd G A s.heap H (bMd G a o w) locs → lv_has ls 6 [(0, .ref (a o)), (1, .int x1), (3, .long x3), (5, .int x5)] → WW p l e 4 s m [.ref (a o), .int x1, .int x2] below meth c G A (some (.int out.1)) ((bMd G a o out.2)) H locs 52 ls [] := by
      intro x3 x5 w r hf hF H locs ls hW hl
      unfold f_X6_lots_B52 at hf
      refine lv_iload hx hb dX6_lots_52 (lv_at hl 3 rfl) ?_
      refine lv_iload_n hx hb dX6_lots_54 rfl (lv_at hl 1 rfl) ?_
      refine lv_icmp_ge (tgt := 168) hx hb dX6_lots_55 (by decide) (fun c55_5 => ?_) (fun c55_5 => ?_)
      · replace hf := if_t c55_5 hf
        obtain ⟨r2, e2⟩ := om_s hf
        replace hf := e2.1
        replace e2 := e2.2
        subst e2
        replace hF := elim_r hF
        exact J168 _ _ hf hF _ _ _ hW (lv_sub hl [0] rfl)
      · replace hf := if_f c55_5 hf
        refine lv_ldc2 hx hb C0.2.2.2.2.2.1 (C0.2.2.2.2.2.2.1 _ mk_X6_255) dX6_lots_58 ?_
        refine lv_lload_n hx hb dX6_lots_61 rfl (lv_at hl 2 rfl) ?_
        refine lv_lmul hx hb dX6_lots_62 ?_
        refine lv_ldc2 hx hb C0.2.2.2.2.2.1 (C0.2.2.2.2.2.2.1 _ mk_X6_257) dX6_lots_63 ?_
        refine lv_lrem hx hb dX6_lots_66 (by decide) ?_
        refine lv_topl (fun v67 ev67 => ?_)
        replace hf := nm_s ev67 hf
        refine lv_lstore_n (lv' := [(3, .long v67), (0, .ref (a o)), (1, .int x1), (5, .int x5)]) hx hb dX6_lots_67 rfl hl (by decide) rfl (fun ls hl => ?_)
        refine lv_aload_n hx hb dX6_lots_68 rfl (lv_at hl 1 rfl) ?_
        obtain ⟨q69, hq69⟩ := ob_s hf
        replace hf := hq69.2
        replace hq69 := hq69.1
        refine cW1 (rest := []) (ws1 := (bMd G a o q69)) (st1 := []) C0 hW hl.1 (c_X6_remember l G a o w _ hq69) cb_X6_remember mm_X6_185 fst_Md 0 6 rfl rfl rfl (by decide) rfl rfl (Nat.le_of_ble_eq_true rfl) ⟨Nat.zero_le _, Nat.zero_le _⟩ dX6_lots_69 rfl (fun H locs hW => ?_)
        refine lv_lload_n hx hb dX6_lots_72 rfl (lv_at hl 0 rfl) ?_
        refine lv_ldc2 hx hb C0.2.2.2.2.2.1 (C0.2.2.2.2.2.2.1 _ mk_X6_259) dX6_lots_73 ?_
        refine lv_lrem hx hb dX6_lots_76 (by decide) ?_
        refine lv_lconst (v := 0) hx hb dX6_lots_77 (by decide) ?_
        refine W.lcmp hx hb dX6_lots_78 ?_
        refine lv_if_ne (tgt := 99) hx hb dX6_lots_79 (by decide) (fun c79_7 => ?_) (fun c79_7 => ?_)
        · replace hf := if_f c79_7 hf
          refine lv_lload_n hx hb dX6_lots_99 rfl (lv_at hl 0 rfl) ?_
          refine lv_ldc2 hx hb C0.2.2.2.2.2.1 (C0.2.2.2.2.2.2.1 _ mk_X6_259) dX6_lots_100 ?_
          refine lv_lrem hx hb dX6_lots_103 (by decide) ?_
          refine lv_lconst (v := 1) hx hb dX6_lots_104 (by decide) ?_
          refine W.lcmp hx hb dX6_lots_105 ?_
          refine lv_if_ne (tgt := 131) hx hb dX6_lots_106 (by decide) (fun c106_8 => ?_) (fun c106_8 => ?_)
          · replace hf := if_f c106_8 hf
            refine lv_aload_n hx hb dX6_lots_131 rfl (lv_at hl 1 rfl) ?_
            refine lv_aload_n hx hb dX6_lots_132 rfl (lv_at hl 1 rfl) ?_
            refine k_get C0 hW 6 24 0 (v := .ref (a (o + 15))) rfl (by decide) inX6 mf_X6_57 rfl rfl dX6_lots_133 ?_
            obtain ⟨q136, hq136⟩ := ob_s hf
            replace hf := hq136.2
            replace hq136 := hq136.1
            refine cW1 (rest := []) (ws1 := (bMd G a o q69)) (st1 := [.int q136]) C0 hW hl.1 (c_X6_isOver_now l G a o q69 _ hq136) cb_X6_isOver mm_X6_181 fst_Md 0 6 rfl rfl rfl (by decide) rfl rfl (Nat.le_of_ble_eq_true rfl) ⟨Nat.zero_le _, Nat.zero_le _⟩ dX6_lots_136 rfl (fun H locs hW => ?_)
            refine lv_if_eq (tgt := 153) hx hb dX6_lots_139 (by decide) (fun c139_9 => ?_) (fun c139_9 => ?_)
            · replace hf := if_t c139_9 hf
              refine lv_aload_n hx hb dX6_lots_153 rfl (lv_at hl 1 rfl) ?_
              refine lv_aload_n hx hb dX6_lots_154 rfl (lv_at hl 1 rfl) ?_
              refine k_get C0 hW 6 24 0 (v := .ref (a (o + 15))) rfl (by decide) inX6 mf_X6_57 rfl rfl dX6_lots_155 ?_
              obtain ⟨q158, hq158⟩ := ob_s hf
              replace hf := hq158.2
              replace hq158 := hq158.1
              refine cW1 (rest := []) (ws1 := (bMd G a o q158.2)) (st1 := [.int q158.1]) C0 hW hl.1 (c_X6_steps_now l G a o q69 _ hq158) cb_X6_steps mm_X6_188 fst_Md 0 6 rfl rfl rfl (by decide) rfl rfl (Nat.le_of_ble_eq_true rfl) ⟨Nat.zero_le _, Nat.zero_le _⟩ dX6_lots_158 rfl (fun H locs hW => ?_)
              refine lv_pop hx hb dX6_lots_161 rfl ?_
              exact J162 _ _ _ _ hf hF _ _ _ hW (lv_sub hl [1, 2, 0, 3] rfl)
            · replace hf := if_f c139_9 hf
              refine lv_aload_n hx hb dX6_lots_142 rfl (lv_at hl 1 rfl) ?_
              refine k_get C0 hW 6 24 0 (v := .ref (a (o + 15))) rfl (by decide) inX6 mf_X6_57 rfl rfl dX6_lots_143 ?_
              obtain ⟨q146, hq146⟩ := ob_s hf
              replace hf := hq146.2
              replace hq146 := hq146.1
              refine cS1 (rest := []) (ws1 := (bMd G a o (md_set_now q69 q146.2))) (st1 := [.int q146.1]) C0 hW hl.1 (c_X6_soaks l G (a (o + 15)) 12 (md_now q69) _ hq146) cb_X6_soaks mm_X6_195 [15] rfl rfl rfl (by decide) rfl rfl (Nat.le_of_ble_eq_true rfl) ⟨Nat.zero_le _, Nat.zero_le _⟩ dX6_lots_146 rfl rfl (fun H locs hW => ?_)
              refine lv_pop hx hb dX6_lots_149 rfl ?_
              refine lv_goto (tgt := 162) hx hb dX6_lots_150 (by decide) ?_
              exact J162 _ _ _ _ hf hF _ _ _ hW (lv_sub hl [1, 2, 0, 3] rfl)
          · replace hf := if_t c106_8 hf
            refine lv_aload_n hx hb dX6_lots_109 rfl (lv_at hl 1 rfl) ?_
            refine k_get C0 hW 6 24 0 (v := .ref (a (o + 15))) rfl (by decide) inX6 mf_X6_57 rfl rfl dX6_lots_110 ?_
            refine lv_lload_n hx hb dX6_lots_113 rfl (lv_at hl 0 rfl) ?_
            refine lv_ldc2 hx hb C0.2.2.2.2.2.1 (C0.2.2.2.2.2.2.1 _ mk_X6_261) dX6_lots_114 ?_
            refine lv_ldiv hx hb dX6_lots_117 (by decide) ?_
            refine lv_aload_n hx hb dX6_lots_118 rfl (lv_at hl 1 rfl) ?_
            refine k_get C0 hW 6 18 0 (v := .int (md_n q69)) rfl (by decide) inX6 mf_X6_142 rfl rfl dX6_lots_119 ?_
            refine lv_i2l (v := (md_n q69).toInt64) hx hb dX6_lots_122 rfl ?_
            have g123_10 := (gd_some hf).1; replace hf := (gd_some hf).2
            refine lv_lrem hx hb dX6_lots_123 (of_decide_eq_true g123_10) ?_
            refine lv_l2i (v := (jremL (v67 / (8 : Int64)) ((md_n q69).toInt64)).toInt32) hx hb dX6_lots_124 rfl ?_
            obtain ⟨q125, hq125⟩ := ob_s hf
            replace hf := hq125.2
            replace hq125 := hq125.1
            refine cS1 (rest := []) (ws1 := (bMd G a o (md_set_now q69 q125))) (st1 := []) C0 hW hl.1 (c_X6_puts l G (a (o + 15)) 12 (md_now q69) ((jremL (v67 / (8 : Int64)) ((md_n q69).toInt64)).toInt32) _ hq125) cb_X6_puts mm_X6_199 [15] rfl rfl rfl (by decide) rfl rfl (Nat.le_of_ble_eq_true rfl) ⟨Nat.zero_le _, Nat.zero_le _⟩ dX6_lots_125 rfl rfl (fun H locs hW => ?_)
            refine lv_goto (tgt := 162) hx hb dX6_lots_128 (by decide) ?_
            exact J162 _ _ _ _ hf hF _ _ _ hW (lv_sub hl [1, 2, 0, 3] rfl)
        · replace hf := if_t c79_7 hf
          refine lv_aload_n hx hb dX6_lots_82 rfl (lv_at hl 1 rfl) ?_
          refine k_get C0 hW 6 24 0 (v := .ref (a (o + 15))) rfl (by decide) inX6 mf_X6_57 rfl rfl dX6_lots_83 ?_
          refine lv_iconst (v := 2) hx hb dX6_lots_86 (by decide) ?_
          refine lv_iconst (v := 1) hx hb dX6_lots_87 (by decide) ?_
          refine lv_aload_n hx hb dX6_lots_88 rfl (lv_at hl 1 rfl) ?_
          refine k_get C0 hW 6 24 0 (v := .ref (a (o + 15))) rfl (by decide) inX6 mf_X6_57 rfl rfl dX6_lots_89 ?_
          refine lv_iconst (v := 2) hx hb dX6_lots_92 (by decide) ?_
          refine k_iald C0 hW 15 2 rfl (inb_in rfl) rfl dX6_lots_93 ?_
          refine lv_isub hx hb dX6_lots_94 ?_
          refine k_iast C0 hW 15 2 rfl (inb_in rfl) rfl dX6_lots_95 (fun H locs hW => ?_)
          have hW : Wd G A s.heap H (bMd G a o (md_set_now q69 (upd (md_now q69) 2 ((1 : Int32) - ((md_now q69) 2))))) locs := hW
          refine lv_goto (tgt := 162) hx hb dX6_lots_96 (by decide) ?_
          exact J162 _ _ _ _ hf hF _ _ _ hW (lv_sub hl [1, 2, 0, 3] rfl)
    exact lp_sound (fun sg r hb hz => B52 sg.1 sg.2.1 sg.2.2 r hb hz)
  obtain ⟨r, hr⟩ : ∃ r, f_X6_lots w x1 x2 = some r ∧ r = out := ⟨out, hf, rfl⟩
  replace hf := hr.1
  have hF := hr.2
  clear hr
  unfold f_X6_lots at hf
  refine lv_iload_n hx hb dX6_lots_0 rfl (lv_at hl 1 rfl) ?_
  refine lv_iconst (v := 1) hx hb dX6_lots_1 (by decide) ?_
  refine lv_bipush (v := 20) hx hb dX6_lots_2 (by decide) ?_
  obtain ⟨q4, hq4⟩ := ob_s hf
  replace hf := hq4.2
  replace hq4 := hq4.1
  refine cS0 (rest := []) (st1 := [.int q4]) C0 hW hl.1 (c_X6_in l G x1 (1 : Int32) (20 : Int32) _ hq4) cb_X6_in mm_X6_89 [] rfl rfl (by decide) rfl rfl (Nat.le_of_ble_eq_true rfl) ⟨Nat.zero_le _, Nat.zero_le _⟩ dX6_lots_4 rfl (fun H locs hW => ?_)
  refine lv_if_eq (tgt := 20) hx hb dX6_lots_7 (by decide) (fun c7_1 => ?_) (fun c7_1 => ?_)
  · replace hf := if_t c7_1 hf
    refine lv_iconst (v := -1) hx hb dX6_lots_20 (by decide) ?_
    have e1 := Option.some.inj hf
    subst e1
    have hF : (((-1 : Int32), w) : Int32 × Md) = out := hF
    subst hF
    exact k_iret C0 hW dX6_lots_21
  · replace hf := if_f c7_1 hf
    refine lv_iload_n hx hb dX6_lots_10 rfl (lv_at hl 2 rfl) ?_
    refine lv_iconst (v := 1) hx hb dX6_lots_11 (by decide) ?_
    refine lv_ldc hx hb C0.2.2.2.2.2.1 (C0.2.2.2.2.2.2.1 _ mk_X6_254) dX6_lots_12 ?_
    obtain ⟨q14, hq14⟩ := ob_s hf
    replace hf := hq14.2
    replace hq14 := hq14.1
    refine cS0 (rest := []) (st1 := [.int q14]) C0 hW hl.1 (c_X6_in l G x2 (1 : Int32) (2147483646 : Int32) _ hq14) cb_X6_in mm_X6_89 [] rfl rfl (by decide) rfl rfl (Nat.le_of_ble_eq_true rfl) ⟨Nat.zero_le _, Nat.zero_le _⟩ dX6_lots_14 rfl (fun H locs hW => ?_)
    refine lv_if_ne (tgt := 22) hx hb dX6_lots_17 (by decide) (fun c17_2 => ?_) (fun c17_2 => ?_)
    · replace hf := if_f c17_2 hf
      refine lv_aload_n hx hb dX6_lots_22 rfl (lv_at hl 0 rfl) ?_
      refine k_get C0 hW 6 18 0 (v := .int (md_n w)) rfl (by decide) inX6 mf_X6_142 rfl rfl dX6_lots_23 ?_
      refine lv_if_ne (tgt := 32) hx hb dX6_lots_26 (by decide) (fun c26_3 => ?_) (fun c26_3 => ?_)
      · replace hf := if_f c26_3 hf
        refine lv_aload_n hx hb dX6_lots_32 rfl (lv_at hl 0 rfl) ?_
        refine k_get C0 hW 6 26 0 (v := .int (md_deedMany w)) rfl (by decide) inX6 mf_X6_148 rfl rfl dX6_lots_33 ?_
        refine lv_iload_n hx hb dX6_lots_36 rfl (lv_at hl 1 rfl) ?_
        refine lv_iadd hx hb dX6_lots_37 ?_
        refine lv_bipush (v := 40) hx hb dX6_lots_38 (by decide) ?_
        refine lv_icmp_le (tgt := 46) hx hb dX6_lots_40 (by decide) (fun c40_4 => ?_) (fun c40_4 => ?_)
        · replace hf := if_t c40_4 hf
          refine lv_iload_n hx hb dX6_lots_46 rfl (lv_at hl 2 rfl) ?_
          refine lv_i2l (v := x2.toInt64) hx hb dX6_lots_47 rfl ?_
          refine lv_lstore_n (lv' := [(3, .long (x2.toInt64)), (0, .ref (a o)), (1, .int x1), (2, .int x2)]) hx hb dX6_lots_48 rfl hl (by decide) rfl (fun ls hl => ?_)
          refine lv_iconst (v := 0) hx hb dX6_lots_49 (by decide) ?_
          refine lv_istore (lv' := [(5, .int (0 : Int32)), (3, .long (x2.toInt64)), (0, .ref (a o)), (1, .int x1), (2, .int x2)]) hx hb dX6_lots_50 hl (by decide) rfl (fun ls hl => ?_)
          exact L52  fuel ((x2.toInt64), (0 : Int32), w) _ hf hF _ _ _ hW (lv_sub hl [2, 3, 1, 0] rfl)
        · replace hf := if_f c40_4 hf
          refine lv_bipush (v := -2) hx hb dX6_lots_43 (by decide) ?_
          have e1 := Option.some.inj hf
          subst e1
          have hF : (((-2 : Int32), w) : Int32 × Md) = out := hF
          subst hF
          exact k_iret C0 hW dX6_lots_45
      · replace hf := if_t c26_3 hf
        refine lv_bipush (v := -4) hx hb dX6_lots_29 (by decide) ?_
        have e1 := Option.some.inj hf
        subst e1
        have hF : (((-4 : Int32), w) : Int32 × Md) = out := hF
        subst hF
        exact k_iret C0 hW dX6_lots_31
    · replace hf := if_t c17_2 hf
      refine lv_iconst (v := -1) hx hb dX6_lots_20 (by decide) ?_
      have e1 := Option.some.inj hf
      subst e1
      have hF : (((-1 : Int32), w) : Int32 × Md) = out := hF
      subst hF
      exact k_iret C0 hW dX6_lots_21

def f_X6_lower (w : Md) : Option (Int64) :=
  some (md_below w)
set_option maxRecDepth 100000 in
set_option maxHeartbeats 1000000 in
theorem c_X6_lower (l : Launch) (G : GG) (a : Nat → Nat) (o : Nat) (w : Md) (out : Int64) (hf : f_X6_lower w = some out) : Cn l G 0 yX6_lower cX6_lower 1 (some .long) [.ref (a o)] (bMd G a o w) (some (.long out)) (bMd G a o w) := by
  refine cn_start (by decide) (Nat.le_of_ble_eq_true rfl) ?_
  intro p e s m below meth c A ls C0 hW hl
  have hx := C0.1
  have hb := C0.2.1
  have hl : lv_has ls 1 [(0, .ref (a o))] := hl
  obtain ⟨r, hr⟩ : ∃ r, f_X6_lower w = some r ∧ r = out := ⟨out, hf, rfl⟩
  replace hf := hr.1
  have hF := hr.2
  clear hr
  unfold f_X6_lower at hf
  refine lv_aload_n hx hb dX6_lower_0 rfl (lv_at hl 0 rfl) ?_
  refine k_get C0 hW 6 2 0 (v := .long (md_below w)) rfl (by decide) inX6 mf_X6_7 rfl rfl dX6_lower_1 ?_
  have e1 := Option.some.inj hf
  subst e1
  have hF : ((md_below w) : Int64) = out := hF
  subst hF
  exact k_lret C0 hW dX6_lower_4

def f_X6_lowest_J31 (w : Md) (x1 : Int64) (x3 : Int64) (x5 : Int64) : Option (Int32 × Md) :=
  gd (decide (¬ x5 = 0)) (gd (decide (¬ x5 = 0)) (some ((1 : Int32), (md_set_below (md_set_above w (x1 / x5)) (x3 / x5)))))
def f_X6_lowest_B6 (w : Md) (x1 : Int64) (x3 : Int64) (x5 : Int64) (x7 : Int64) : Option ((Int64 × Int64) ⊕ (Int32 × Md)) :=
  if (lg_cmp x7 (0 : Int64)) = 0 then (Option.map Sum.inr (f_X6_lowest_J31 w x1 x3 x5)) else (gd (decide (¬ x7 = 0)) (some (Sum.inl (x7, (jremL x5 x7)))))
def f_X6_lowest_L6 (w : Md) (x1 : Int64) (x3 : Int64) (sg : Int64 × Int64) : Option ((Int64 × Int64) ⊕ (Int32 × Md)) := f_X6_lowest_B6 w x1 x3 sg.1 sg.2
def f_X6_lowest (w : Md) (x1 : Int64) (x3 : Int64) : Option (Int32 × Md) :=
  lp (f_X6_lowest_L6 w x1 x3) fuel (x1, x3)
set_option maxRecDepth 100000 in
set_option maxHeartbeats 1000000 in
theorem c_X6_lowest (l : Launch) (G : GG) (a : Nat → Nat) (o : Nat) (w : Md) (x1 : Int64) (x3 : Int64) (out : Int32 × Md) (hf : f_X6_lowest w x1 x3 = some out) : Cn l G 0 yX6_lowest cX6_lowest 11 (some .int) [.ref (a o), .long x1, .long x3] (bMd G a o w) (some (.int out.1)) (bMd G a o out.2) := by
  refine cn_start (by decide) (Nat.le_of_ble_eq_true rfl) ?_
  intro p e s m below meth c A ls C0 hW hl
  have hx := C0.1
  have hb := C0.2.1
  have hl : lv_has ls 11 [(0, .ref (a o)), (1, .long x1), (3, .long x3)] := hl
  have J31 : ∀ (x5 : Int64) (w : Md) (r : Int32 × Md), f_X6_lowest_J31 w x1 x3 x5 = some r → (fun (r : Int32 × Md) => r = out) r → ∀ (H : Heap) (locs : List Loc) (ls : Array Slot), Wd G A s.heap H (bMd G a o w) locs → lv_has ls 11 [(0, .ref (a o)), (1, .long x1), (3, .long x3), (5, .long x5)] → WW p l e 0 s m [.ref (a o), .long x1, .long x3] below meth c G A (some (.int out.1)) ((bMd G a o out.2)) H locs 31 ls [] := by
    intro x5 w r hf hF H locs ls hW hl
    unfold f_X6_lowest_J31 at hf
    refine lv_aload_n hx hb dX6_lowest_31 rfl (lv_at hl 0 rfl) ?_
    refine lv_lload_n hx hb dX6_lowest_32 rfl (lv_at hl 1 rfl) ?_
    refine lv_lload hx hb dX6_lowest_33 (lv_at hl 3 rfl) ?_
    have g35_2 := (gd_some hf).1; replace hf := (gd_some hf).2
    refine lv_ldiv hx hb dX6_lowest_35 (of_decide_eq_true g35_2) ?_
    refine k_put C0 hW 6 1 0 rfl (by decide) inX6 tyX6_ok nmX6 mf_X6_86 rfl rfl rfl rfl (Nat.le_of_ble_eq_true rfl) dX6_lowest_36 (fun H locs hW => ?_)
    have hW : Wd G A s.heap H (bMd G a o (md_set_above w (x1 / x5))) locs := hW
    refine lv_aload_n hx hb dX6_lowest_39 rfl (lv_at hl 0 rfl) ?_
    refine lv_lload_n hx hb dX6_lowest_40 rfl (lv_at hl 2 rfl) ?_
    refine lv_lload hx hb dX6_lowest_41 (lv_at hl 3 rfl) ?_
    have g43_3 := (gd_some hf).1; replace hf := (gd_some hf).2
    refine lv_ldiv hx hb dX6_lowest_43 (of_decide_eq_true g43_3) ?_
    refine k_put C0 hW 6 2 0 rfl (by decide) inX6 tyX6_ok nmX6 mf_X6_7 rfl rfl rfl rfl (Nat.le_of_ble_eq_true rfl) dX6_lowest_44 (fun H locs hW => ?_)
    have hW : Wd G A s.heap H (bMd G a o (md_set_below (md_set_above w (x1 / x5)) (x3 / x5))) locs := hW
    refine lv_iconst (v := 1) hx hb dX6_lowest_47 (by decide) ?_
    have e1 := Option.some.inj hf
    subst e1
    have hF : (((1 : Int32), (md_set_below (md_set_above w (x1 / x5)) (x3 / x5))) : Int32 × Md) = out := hF
    subst hF
    exact k_iret C0 hW dX6_lowest_48
  have L6 : ∀ (w : Md) (k8 : Nat) (sg : Int64 × Int64) (o9 : Int32 × Md), lp (f_X6_lowest_L6 w x1 x3) k8 sg = some o9 → (fun (r : Int32 × Md) => r = out) o9 → (fun (sg : Int64 × Int64) => ∀ (H : Heap) (locs : List Loc) (ls : Array Slot), Wd G A s.heap H (bMd G a o w) locs → lv_has ls 11 [(0, .ref (a o)), (1, .long x1), (3, .long x3), (5, .long sg.1), (7, .long sg.2)] → WW p l e 0 s m [.ref (a o), .long x1, .long x3] below meth c G A (some (.int out.1)) ((bMd G a o out.2)) H locs 6 ls []) sg := by
    intro w
    have B6 : ∀ (x5 : Int64) (x7 : Int64) (r : (Int64 × Int64) ⊕ (Int32 × Md)), f_X6_lowest_B6 w x1 x3 x5 x7 = some r → (Sum.elim (fun (sg : Int64 × Int64) => ∀ (H : Heap) (locs : List Loc) (ls : Array Slot), Wd G A s.heap H (bMd G a o w) locs → lv_has ls 11 [(0, .ref (a o)), (1, .long x1), (3, .long x3), (5, .long sg.1), (7, .long sg.2)] → WW p l e 0 s m [.ref (a o), .long x1, .long x3] below meth c G A (some (.int out.1)) ((bMd G a o out.2)) H locs 6 ls []) (fun (r : Int32 × Md) => r = out)) r → ∀ (H : Heap) (locs : List Loc) (ls : Array Slot), Wd G A s.heap H (bMd G a o w) locs → lv_has ls 11 [(0, .ref (a o)), (1, .long x1), (3, .long x3), (5, .long x5), (7, .long x7)] → WW p l e 0 s m [.ref (a o), .long x1, .long x3] below meth c G A (some (.int out.1)) ((bMd G a o out.2)) H locs 6 ls [] := by
      intro x5 x7 r hf hF H locs ls hW hl
      unfold f_X6_lowest_B6 at hf
      refine lv_lload hx hb dX6_lowest_6 (lv_at hl 4 rfl) ?_
      refine lv_lconst (v := 0) hx hb dX6_lowest_8 (by decide) ?_
      refine W.lcmp hx hb dX6_lowest_9 ?_
      refine lv_if_eq (tgt := 31) hx hb dX6_lowest_10 (by decide) (fun c10_1 => ?_) (fun c10_1 => ?_)
      · replace hf := if_t c10_1 hf
        obtain ⟨r2, e2⟩ := om_s hf
        replace hf := e2.1
        replace e2 := e2.2
        subst e2
        replace hF := elim_r hF
        exact J31 _ _ _ hf hF _ _ _ hW (lv_sub hl [0, 1, 2, 3] rfl)
      · replace hf := if_f c10_1 hf
        refine lv_lload hx hb dX6_lowest_13 (lv_at hl 3 rfl) ?_
        refine lv_lload hx hb dX6_lowest_15 (lv_at hl 4 rfl) ?_
        have g17_4 := (gd_some hf).1; replace hf := (gd_some hf).2
        refine lv_lrem hx hb dX6_lowest_17 (of_decide_eq_true g17_4) ?_
        refine lv_lstore (lv' := [(9, .long (jremL x5 x7)), (0, .ref (a o)), (1, .long x1), (3, .long x3), (5, .long x5), (7, .long x7)]) hx hb dX6_lowest_18 hl (by decide) rfl (fun ls hl => ?_)
        refine lv_lload hx hb dX6_lowest_20 (lv_at hl 5 rfl) ?_
        refine lv_lstore (lv' := [(5, .long x7), (9, .long (jremL x5 x7)), (0, .ref (a o)), (1, .long x1), (3, .long x3), (7, .long x7)]) hx hb dX6_lowest_22 hl (by decide) rfl (fun ls hl => ?_)
        refine lv_lload hx hb dX6_lowest_24 (lv_at hl 1 rfl) ?_
        refine lv_lstore (lv' := [(7, .long (jremL x5 x7)), (5, .long x7), (9, .long (jremL x5 x7)), (0, .ref (a o)), (1, .long x1), (3, .long x3)]) hx hb dX6_lowest_26 hl (by decide) rfl (fun ls hl => ?_)
        refine lv_goto (tgt := 6) hx hb dX6_lowest_28 (by decide) ?_
        have e1 := Option.some.inj hf
        subst e1
        exact (elim_l hF) _ _ _ hW (lv_sub hl [3, 4, 5, 1, 0] rfl)
    exact lp_sound (fun sg r hb hz => B6 sg.1 sg.2 r hb hz)
  obtain ⟨r, hr⟩ : ∃ r, f_X6_lowest w x1 x3 = some r ∧ r = out := ⟨out, hf, rfl⟩
  replace hf := hr.1
  have hF := hr.2
  clear hr
  unfold f_X6_lowest at hf
  refine lv_lload_n hx hb dX6_lowest_0 rfl (lv_at hl 1 rfl) ?_
  refine lv_lstore (lv' := [(5, .long x1), (0, .ref (a o)), (1, .long x1), (3, .long x3)]) hx hb dX6_lowest_1 hl (by decide) rfl (fun ls hl => ?_)
  refine lv_lload_n hx hb dX6_lowest_3 rfl (lv_at hl 3 rfl) ?_
  refine lv_lstore (lv' := [(7, .long x3), (5, .long x1), (0, .ref (a o)), (1, .long x1), (3, .long x3)]) hx hb dX6_lowest_4 hl (by decide) rfl (fun ls hl => ?_)
  exact L6 _ fuel (x1, x3) _ hf hF _ _ _ hW (lv_sub hl [2, 3, 4, 1, 0] rfl)

def f_X6_mark (w : Md) (x1 : Int32) (x2 : Int32) : Option (Int32 × Md) :=
  Option.bind (f_X6_isSpoke w x1) (fun q2 => if q2 = 0 then (some ((-1 : Int32), w)) else (Option.bind (f_X6_in x2 (1 : Int32) (5 : Int32)) (fun q11 => if q11 = 0 then (some ((-1 : Int32), w)) else (gd (inb x1 8) (Option.bind (f_X6_isOf ((md_kinds w) (ix x1)) x2) (fun q26 => if q26 = 0 then (Option.bind (f_X6_meets w (3 : Int32)) (fun q34 => some (q34.1, q34.2))) else (gd (inb x1 8) (Option.bind (f_X6_alike w x1 ((md_kinds w) (ix x1))) (fun q46 => if x2 = 1 then (Option.bind (f_X6_alike w x1 (0 : Int32)) (fun q87 => some ((q87 - q46), w))) else if x2 = 3 then (Option.bind (f_X6_alike w x1 (2 : Int32)) (fun q97 => some ((q46 - q97), w))) else if x2 = 5 then (Option.bind (f_X6_alike w x1 (4 : Int32)) (fun q105 => some ((q105 - q46), w))) else Option.bind (f_X6_alike w x1 (0 : Int32)) (fun q115 => some (((q46 - q115) + (100 : Int32)), w)))))))))))
set_option maxRecDepth 100000 in
set_option maxHeartbeats 1000000 in
theorem c_X6_mark (l : Launch) (G : GG) (a : Nat → Nat) (o : Nat) (w : Md) (x1 : Int32) (x2 : Int32) (out : Int32 × Md) (hf : f_X6_mark w x1 x2 = some out) : Cn l G 3 yX6_mark cX6_mark 4 (some .int) [.ref (a o), .int x1, .int x2] (bMd G a o w) (some (.int out.1)) (bMd G a o out.2) := by
  refine cn_start (by decide) (Nat.le_of_ble_eq_true rfl) ?_
  intro p e s m below meth c A ls C0 hW hl
  have hx := C0.1
  have hb := C0.2.1
  have hl : lv_has ls 4 [(0, .ref (a o)), (1, .int x1), (2, .int x2)] := hl
  obtain ⟨r, hr⟩ : ∃ r, f_X6_mark w x1 x2 = some r ∧ r = out := ⟨out, hf, rfl⟩
  replace hf := hr.1
  have hF := hr.2
  clear hr
  unfold f_X6_mark at hf
  refine lv_aload_n hx hb dX6_mark_0 rfl (lv_at hl 0 rfl) ?_
  refine lv_iload_n hx hb dX6_mark_1 rfl (lv_at hl 1 rfl) ?_
  obtain ⟨q2, hq2⟩ := ob_s hf
  replace hf := hq2.2
  replace hq2 := hq2.1
  refine cW1 (rest := []) (ws1 := (bMd G a o w)) (st1 := [.int q2]) C0 hW hl.1 (c_X6_isSpoke l G a o w x1 _ hq2) cb_X6_isSpoke mm_X6_169 fst_Md 0 6 rfl rfl rfl (by decide) rfl rfl (Nat.le_of_ble_eq_true rfl) ⟨Nat.zero_le _, Nat.zero_le _⟩ dX6_mark_2 rfl (fun H locs hW => ?_)
  refine lv_if_eq (tgt := 17) hx hb dX6_mark_5 (by decide) (fun c5_1 => ?_) (fun c5_1 => ?_)
  · replace hf := if_t c5_1 hf
    refine lv_iconst (v := -1) hx hb dX6_mark_17 (by decide) ?_
    have e1 := Option.some.inj hf
    subst e1
    have hF : (((-1 : Int32), w) : Int32 × Md) = out := hF
    subst hF
    exact k_iret C0 hW dX6_mark_18
  · replace hf := if_f c5_1 hf
    refine lv_iload_n hx hb dX6_mark_8 rfl (lv_at hl 2 rfl) ?_
    refine lv_iconst (v := 1) hx hb dX6_mark_9 (by decide) ?_
    refine lv_iconst (v := 5) hx hb dX6_mark_10 (by decide) ?_
    obtain ⟨q11, hq11⟩ := ob_s hf
    replace hf := hq11.2
    replace hq11 := hq11.1
    refine cS0 (rest := []) (st1 := [.int q11]) C0 hW hl.1 (c_X6_in l G x2 (1 : Int32) (5 : Int32) _ hq11) cb_X6_in mm_X6_89 [] rfl rfl (by decide) rfl rfl (Nat.le_of_ble_eq_true rfl) ⟨Nat.zero_le _, Nat.zero_le _⟩ dX6_mark_11 rfl (fun H locs hW => ?_)
    refine lv_if_ne (tgt := 19) hx hb dX6_mark_14 (by decide) (fun c14_2 => ?_) (fun c14_2 => ?_)
    · replace hf := if_f c14_2 hf
      refine lv_aload_n hx hb dX6_mark_19 rfl (lv_at hl 0 rfl) ?_
      refine k_get C0 hW 6 21 0 (v := .ref (a (o + 12))) rfl (by decide) inX6 mf_X6_48 rfl rfl dX6_mark_20 ?_
      refine lv_iload_n hx hb dX6_mark_23 rfl (lv_at hl 1 rfl) ?_
      have g24_3 := (gd_some hf).1; replace hf := (gd_some hf).2
      refine k_iald C0 hW 12 (ix x1) rfl (inb_in g24_3) rfl dX6_mark_24 ?_
      refine lv_iload_n hx hb dX6_mark_25 rfl (lv_at hl 2 rfl) ?_
      obtain ⟨q26, hq26⟩ := ob_s hf
      replace hf := hq26.2
      replace hq26 := hq26.1
      refine cS0 (rest := []) (st1 := [.int q26]) C0 hW hl.1 (c_X6_isOf l G ((md_kinds w) (ix x1)) x2 _ hq26) cb_X6_isOf mm_X6_175 [] rfl rfl (by decide) rfl rfl (Nat.le_of_ble_eq_true rfl) ⟨Nat.zero_le _, Nat.zero_le _⟩ dX6_mark_26 rfl (fun H locs hW => ?_)
      refine lv_if_ne (tgt := 38) hx hb dX6_mark_29 (by decide) (fun c29_4 => ?_) (fun c29_4 => ?_)
      · replace hf := if_f c29_4 hf
        refine lv_aload_n hx hb dX6_mark_38 rfl (lv_at hl 0 rfl) ?_
        refine lv_iload_n hx hb dX6_mark_39 rfl (lv_at hl 1 rfl) ?_
        refine lv_aload_n hx hb dX6_mark_40 rfl (lv_at hl 0 rfl) ?_
        refine k_get C0 hW 6 21 0 (v := .ref (a (o + 12))) rfl (by decide) inX6 mf_X6_48 rfl rfl dX6_mark_41 ?_
        refine lv_iload_n hx hb dX6_mark_44 rfl (lv_at hl 1 rfl) ?_
        have g45_5 := (gd_some hf).1; replace hf := (gd_some hf).2
        refine k_iald C0 hW 12 (ix x1) rfl (inb_in g45_5) rfl dX6_mark_45 ?_
        obtain ⟨q46, hq46⟩ := ob_s hf
        replace hf := hq46.2
        replace hq46 := hq46.1
        refine cW1 (rest := []) (ws1 := (bMd G a o w)) (st1 := [.int q46]) C0 hW hl.1 (c_X6_alike l G a o w x1 ((md_kinds w) (ix x1)) _ hq46) cb_X6_alike mm_X6_178 fst_Md 0 6 rfl rfl rfl (by decide) rfl rfl (Nat.le_of_ble_eq_true rfl) ⟨Nat.zero_le _, Nat.zero_le _⟩ dX6_mark_46 rfl (fun H locs hW => ?_)
        refine lv_istore_n (lv' := [(3, .int q46), (0, .ref (a o)), (1, .int x1), (2, .int x2)]) hx hb dX6_mark_49 rfl hl (by decide) rfl (fun ls hl => ?_)
        refine lv_iload_n hx hb dX6_mark_50 rfl (lv_at hl 3 rfl) ?_
        by_cases c51_6 : x2 = 1
        · replace hf := if_t c51_6 hf
          refine lv_tableIn (off := 33) (tgt := 84) hx hb dX6_mark_51 (by rw [c51_6]; decide) (by rw [c51_6]; decide) (by rw [c51_6]; rfl) (by decide) ?_
          refine lv_aload_n hx hb dX6_mark_84 rfl (lv_at hl 1 rfl) ?_
          refine lv_iload_n hx hb dX6_mark_85 rfl (lv_at hl 2 rfl) ?_
          refine lv_iconst (v := 0) hx hb dX6_mark_86 (by decide) ?_
          obtain ⟨q87, hq87⟩ := ob_s hf
          replace hf := hq87.2
          replace hq87 := hq87.1
          refine cW1 (rest := []) (ws1 := (bMd G a o w)) (st1 := [.int q87]) C0 hW hl.1 (c_X6_alike l G a o w x1 (0 : Int32) _ hq87) cb_X6_alike mm_X6_178 fst_Md 0 6 rfl rfl rfl (by decide) rfl rfl (Nat.le_of_ble_eq_true rfl) ⟨Nat.zero_le _, Nat.zero_le _⟩ dX6_mark_87 rfl (fun H locs hW => ?_)
          refine lv_iload_n hx hb dX6_mark_90 rfl (lv_at hl 0 rfl) ?_
          refine lv_isub hx hb dX6_mark_91 ?_
          have e1 := Option.some.inj hf
          subst e1
          have hF : (((q87 - q46), w) : Int32 × Md) = out := hF
          subst hF
          exact k_iret C0 hW dX6_mark_92
        replace hf := if_f c51_6 hf
        by_cases c51_7 : x2 = 3
        · replace hf := if_t c51_7 hf
          refine lv_tableIn (off := 42) (tgt := 93) hx hb dX6_mark_51 (by rw [c51_7]; decide) (by rw [c51_7]; decide) (by rw [c51_7]; rfl) (by decide) ?_
          refine lv_iload_n hx hb dX6_mark_93 rfl (lv_at hl 0 rfl) ?_
          refine lv_aload_n hx hb dX6_mark_94 rfl (lv_at hl 1 rfl) ?_
          refine lv_iload_n hx hb dX6_mark_95 rfl (lv_at hl 2 rfl) ?_
          refine lv_iconst (v := 2) hx hb dX6_mark_96 (by decide) ?_
          obtain ⟨q97, hq97⟩ := ob_s hf
          replace hf := hq97.2
          replace hq97 := hq97.1
          refine cW1 (rest := [.int q46]) (ws1 := (bMd G a o w)) (st1 := [.int q97, .int q46]) C0 hW hl.1 (c_X6_alike l G a o w x1 (2 : Int32) _ hq97) cb_X6_alike mm_X6_178 fst_Md 0 6 rfl rfl rfl (by decide) rfl rfl (Nat.le_of_ble_eq_true rfl) ⟨Nat.zero_le _, Nat.zero_le _⟩ dX6_mark_97 rfl (fun H locs hW => ?_)
          refine lv_isub hx hb dX6_mark_100 ?_
          have e1 := Option.some.inj hf
          subst e1
          have hF : (((q46 - q97), w) : Int32 × Md) = out := hF
          subst hF
          exact k_iret C0 hW dX6_mark_101
        replace hf := if_f c51_7 hf
        by_cases c51_8 : x2 = 5
        · replace hf := if_t c51_8 hf
          refine lv_tableIn (off := 51) (tgt := 102) hx hb dX6_mark_51 (by rw [c51_8]; decide) (by rw [c51_8]; decide) (by rw [c51_8]; rfl) (by decide) ?_
          refine lv_aload_n hx hb dX6_mark_102 rfl (lv_at hl 1 rfl) ?_
          refine lv_iload_n hx hb dX6_mark_103 rfl (lv_at hl 2 rfl) ?_
          refine lv_iconst (v := 4) hx hb dX6_mark_104 (by decide) ?_
          obtain ⟨q105, hq105⟩ := ob_s hf
          replace hf := hq105.2
          replace hq105 := hq105.1
          refine cW1 (rest := []) (ws1 := (bMd G a o w)) (st1 := [.int q105]) C0 hW hl.1 (c_X6_alike l G a o w x1 (4 : Int32) _ hq105) cb_X6_alike mm_X6_178 fst_Md 0 6 rfl rfl rfl (by decide) rfl rfl (Nat.le_of_ble_eq_true rfl) ⟨Nat.zero_le _, Nat.zero_le _⟩ dX6_mark_105 rfl (fun H locs hW => ?_)
          refine lv_iload_n hx hb dX6_mark_108 rfl (lv_at hl 0 rfl) ?_
          refine lv_isub hx hb dX6_mark_109 ?_
          have e1 := Option.some.inj hf
          subst e1
          have hF : (((q105 - q46), w) : Int32 × Md) = out := hF
          subst hF
          exact k_iret C0 hW dX6_mark_110
        replace hf := if_f c51_8 hf
        by_cases c51_9 : x2 = 2
        · refine lv_tableIn (off := 60) (tgt := 111) hx hb dX6_mark_51 (by rw [c51_9]; decide) (by rw [c51_9]; decide) (by rw [c51_9]; rfl) (by decide) ?_
          refine lv_iload_n hx hb dX6_mark_111 rfl (lv_at hl 0 rfl) ?_
          refine lv_aload_n hx hb dX6_mark_112 rfl (lv_at hl 1 rfl) ?_
          refine lv_iload_n hx hb dX6_mark_113 rfl (lv_at hl 2 rfl) ?_
          refine lv_iconst (v := 0) hx hb dX6_mark_114 (by decide) ?_
          obtain ⟨q115, hq115⟩ := ob_s hf
          replace hf := hq115.2
          replace hq115 := hq115.1
          refine cW1 (rest := [.int q46]) (ws1 := (bMd G a o w)) (st1 := [.int q115, .int q46]) C0 hW hl.1 (c_X6_alike l G a o w x1 (0 : Int32) _ hq115) cb_X6_alike mm_X6_178 fst_Md 0 6 rfl rfl rfl (by decide) rfl rfl (Nat.le_of_ble_eq_true rfl) ⟨Nat.zero_le _, Nat.zero_le _⟩ dX6_mark_115 rfl (fun H locs hW => ?_)
          refine lv_isub hx hb dX6_mark_118 ?_
          refine lv_bipush (v := 100) hx hb dX6_mark_119 (by decide) ?_
          refine lv_iadd hx hb dX6_mark_121 ?_
          have e1 := Option.some.inj hf
          subst e1
          have hF : ((((q46 - q115) + (100 : Int32)), w) : Int32 × Md) = out := hF
          subst hF
          exact k_iret C0 hW dX6_mark_122
        by_cases c51_10 : x2 = 4
        · refine lv_tableIn (off := 60) (tgt := 111) hx hb dX6_mark_51 (by rw [c51_10]; decide) (by rw [c51_10]; decide) (by rw [c51_10]; rfl) (by decide) ?_
          refine lv_iload_n hx hb dX6_mark_111 rfl (lv_at hl 0 rfl) ?_
          refine lv_aload_n hx hb dX6_mark_112 rfl (lv_at hl 1 rfl) ?_
          refine lv_iload_n hx hb dX6_mark_113 rfl (lv_at hl 2 rfl) ?_
          refine lv_iconst (v := 0) hx hb dX6_mark_114 (by decide) ?_
          obtain ⟨q115, hq115⟩ := ob_s hf
          replace hf := hq115.2
          replace hq115 := hq115.1
          refine cW1 (rest := [.int q46]) (ws1 := (bMd G a o w)) (st1 := [.int q115, .int q46]) C0 hW hl.1 (c_X6_alike l G a o w x1 (0 : Int32) _ hq115) cb_X6_alike mm_X6_178 fst_Md 0 6 rfl rfl rfl (by decide) rfl rfl (Nat.le_of_ble_eq_true rfl) ⟨Nat.zero_le _, Nat.zero_le _⟩ dX6_mark_115 rfl (fun H locs hW => ?_)
          refine lv_isub hx hb dX6_mark_118 ?_
          refine lv_bipush (v := 100) hx hb dX6_mark_119 (by decide) ?_
          refine lv_iadd hx hb dX6_mark_121 ?_
          have e1 := Option.some.inj hf
          subst e1
          have hF : ((((q46 - q115) + (100 : Int32)), w) : Int32 × Md) = out := hF
          subst hF
          exact k_iret C0 hW dX6_mark_122
        refine lv_tableOut (tgt := 111) hx hb dX6_mark_51 (by have := lv_neT c51_6 (show (1 : Int32).toInt = 1 from rfl); have := lv_neT c51_7 (show (3 : Int32).toInt = 3 from rfl); have := lv_neT c51_8 (show (5 : Int32).toInt = 5 from rfl); have := lv_neT c51_9 (show (2 : Int32).toInt = 2 from rfl); have := lv_neT c51_10 (show (4 : Int32).toInt = 4 from rfl); omega) (by decide) ?_
        refine lv_iload_n hx hb dX6_mark_111 rfl (lv_at hl 0 rfl) ?_
        refine lv_aload_n hx hb dX6_mark_112 rfl (lv_at hl 1 rfl) ?_
        refine lv_iload_n hx hb dX6_mark_113 rfl (lv_at hl 2 rfl) ?_
        refine lv_iconst (v := 0) hx hb dX6_mark_114 (by decide) ?_
        obtain ⟨q115, hq115⟩ := ob_s hf
        replace hf := hq115.2
        replace hq115 := hq115.1
        refine cW1 (rest := [.int q46]) (ws1 := (bMd G a o w)) (st1 := [.int q115, .int q46]) C0 hW hl.1 (c_X6_alike l G a o w x1 (0 : Int32) _ hq115) cb_X6_alike mm_X6_178 fst_Md 0 6 rfl rfl rfl (by decide) rfl rfl (Nat.le_of_ble_eq_true rfl) ⟨Nat.zero_le _, Nat.zero_le _⟩ dX6_mark_115 rfl (fun H locs hW => ?_)
        refine lv_isub hx hb dX6_mark_118 ?_
        refine lv_bipush (v := 100) hx hb dX6_mark_119 (by decide) ?_
        refine lv_iadd hx hb dX6_mark_121 ?_
        have e1 := Option.some.inj hf
        subst e1
        have hF : ((((q46 - q115) + (100 : Int32)), w) : Int32 × Md) = out := hF
        subst hF
        exact k_iret C0 hW dX6_mark_122
      · replace hf := if_t c29_4 hf
        refine lv_aload_n hx hb dX6_mark_32 rfl (lv_at hl 0 rfl) ?_
        refine lv_iconst (v := 3) hx hb dX6_mark_33 (by decide) ?_
        obtain ⟨q34, hq34⟩ := ob_s hf
        replace hf := hq34.2
        replace hq34 := hq34.1
        refine cW1 (rest := []) (ws1 := (bMd G a o q34.2)) (st1 := [.int q34.1]) C0 hW hl.1 (c_X6_meets l G a o w (3 : Int32) _ hq34) cb_X6_meets mm_X6_97 fst_Md 0 6 rfl rfl rfl (by decide) rfl rfl (Nat.le_of_ble_eq_true rfl) ⟨Nat.zero_le _, Nat.zero_le _⟩ dX6_mark_34 rfl (fun H locs hW => ?_)
        have e1 := Option.some.inj hf
        subst e1
        have hF : ((q34.1, q34.2) : Int32 × Md) = out := hF
        subst hF
        exact k_iret C0 hW dX6_mark_37
    · replace hf := if_t c14_2 hf
      refine lv_iconst (v := -1) hx hb dX6_mark_17 (by decide) ?_
      have e1 := Option.some.inj hf
      subst e1
      have hF : (((-1 : Int32), w) : Int32 × Md) = out := hF
      subst hF
      exact k_iret C0 hW dX6_mark_18

def f_X6_mean_J72 (w : Md) (x1 : Int32) (x2 : Int64) : Option (Int32 × Md) :=
  gd (inb x1 6) (gd (decide (¬ (((md_sizes w) (ix x1)).toInt64) = 0)) (Option.bind (f_X6_tells w ((x2 / (((md_sizes w) (ix x1)).toInt64)).toInt32) (1 : Int32)) (fun q84 => some (q84.1, q84.2))))
def f_X6_mean_B44 (w : Md) (x1 : Int32) (x2 : Int64) (x4 : Int32) : Option ((Int64 × Int32) ⊕ (Int32 × Md)) :=
  gd (inb x1 6) (if ((md_sizes w) (ix x1)) ≤ x4 then (Option.map Sum.inr (f_X6_mean_J72 w x1 x2)) else (Option.bind (f_X6_rowAt w x1 x4) (fun q60 => some (Sum.inl ((x2 + (q60.toInt64)), (x4 + (1 : Int32)))))))
def f_X6_mean_L44 (w : Md) (x1 : Int32) (sg : Int64 × Int32) : Option ((Int64 × Int32) ⊕ (Int32 × Md)) := f_X6_mean_B44 w x1 sg.1 sg.2
def f_X6_mean (w : Md) (x1 : Int32) : Option (Int32 × Md) :=
  Option.bind (f_X6_isRow x1) (fun q1 => if q1 = 0 then (some ((-1 : Int32), w)) else (gd (inb x1 6) (if 0 ≤ ((md_sizes w) (ix x1)) then (gd (inb x1 6) (if ((md_sizes w) (ix x1)) = 0 then (Option.bind (f_X6_meets w (4 : Int32)) (fun q35 => some (q35.1, q35.2))) else (lp (f_X6_mean_L44 w x1) fuel ((0 : Int64), (0 : Int32))))) else (Option.bind (f_X6_meets w (1 : Int32)) (fun q20 => some (q20.1, q20.2))))))
set_option maxRecDepth 100000 in
set_option maxHeartbeats 1000000 in
theorem c_X6_mean (l : Launch) (G : GG) (a : Nat → Nat) (o : Nat) (w : Md) (x1 : Int32) (out : Int32 × Md) (hf : f_X6_mean w x1 = some out) : Cn l G 2 yX6_mean cX6_mean 5 (some .int) [.ref (a o), .int x1] (bMd G a o w) (some (.int out.1)) (bMd G a o out.2) := by
  refine cn_start (by decide) (Nat.le_of_ble_eq_true rfl) ?_
  intro p e s m below meth c A ls C0 hW hl
  have hx := C0.1
  have hb := C0.2.1
  have hl : lv_has ls 5 [(0, .ref (a o)), (1, .int x1)] := hl
  have J72 : ∀ (x2 : Int64) (w : Md) (r : Int32 × Md), f_X6_mean_J72 w x1 x2 = some r → (fun (r : Int32 × Md) => r = out) r → ∀ (H : Heap) (locs : List Loc) (ls : Array Slot), Wd G A s.heap H (bMd G a o w) locs → lv_has ls 5 [(0, .ref (a o)), (1, .int x1), (2, .long x2)] → WW p l e 2 s m [.ref (a o), .int x1] below meth c G A (some (.int out.1)) ((bMd G a o out.2)) H locs 72 ls [] := by
    intro x2 w r hf hF H locs ls hW hl
    unfold f_X6_mean_J72 at hf
    refine lv_aload_n hx hb dX6_mean_72 rfl (lv_at hl 0 rfl) ?_
    refine lv_lload_n hx hb dX6_mean_73 rfl (lv_at hl 2 rfl) ?_
    refine lv_aload_n hx hb dX6_mean_74 rfl (lv_at hl 0 rfl) ?_
    refine k_get C0 hW 6 5 0 (v := .ref (a (o + 2))) rfl (by decide) inX6 mf_X6_17 rfl rfl dX6_mean_75 ?_
    refine lv_iload_n hx hb dX6_mean_78 rfl (lv_at hl 1 rfl) ?_
    have g79_8 := (gd_some hf).1; replace hf := (gd_some hf).2
    refine k_iald C0 hW 2 (ix x1) rfl (inb_in g79_8) rfl dX6_mean_79 ?_
    refine lv_i2l (v := ((md_sizes w) (ix x1)).toInt64) hx hb dX6_mean_80 rfl ?_
    have g81_9 := (gd_some hf).1; replace hf := (gd_some hf).2
    refine lv_ldiv hx hb dX6_mean_81 (of_decide_eq_true g81_9) ?_
    refine lv_l2i (v := (x2 / (((md_sizes w) (ix x1)).toInt64)).toInt32) hx hb dX6_mean_82 rfl ?_
    refine lv_iconst (v := 1) hx hb dX6_mean_83 (by decide) ?_
    obtain ⟨q84, hq84⟩ := ob_s hf
    replace hf := hq84.2
    replace hq84 := hq84.1
    refine cW1 (rest := []) (ws1 := (bMd G a o q84.2)) (st1 := [.int q84.1]) C0 hW hl.1 (c_X6_tells l G a o w ((x2 / (((md_sizes w) (ix x1)).toInt64)).toInt32) (1 : Int32) _ hq84) cb_X6_tells mm_X6_105 fst_Md 0 6 rfl rfl rfl (by decide) rfl rfl (Nat.le_of_ble_eq_true rfl) ⟨Nat.zero_le _, Nat.zero_le _⟩ dX6_mean_84 rfl (fun H locs hW => ?_)
    have e1 := Option.some.inj hf
    subst e1
    have hF : ((q84.1, q84.2) : Int32 × Md) = out := hF
    subst hF
    exact k_iret C0 hW dX6_mean_87
  have L44 : ∀ (w : Md) (k8 : Nat) (sg : Int64 × Int32) (o9 : Int32 × Md), lp (f_X6_mean_L44 w x1) k8 sg = some o9 → (fun (r : Int32 × Md) => r = out) o9 → (fun (sg : Int64 × Int32) => ∀ (H : Heap) (locs : List Loc) (ls : Array Slot), Wd G A s.heap H (bMd G a o w) locs → lv_has ls 5 [(0, .ref (a o)), (1, .int x1), (2, .long sg.1), (4, .int sg.2)] → WW p l e 2 s m [.ref (a o), .int x1] below meth c G A (some (.int out.1)) ((bMd G a o out.2)) H locs 44 ls []) sg := by
    intro w
    have B44 : ∀ (x2 : Int64) (x4 : Int32) (r : (Int64 × Int32) ⊕ (Int32 × Md)), f_X6_mean_B44 w x1 x2 x4 = some r → (Sum.elim (fun (sg : Int64 × Int32) => ∀ (H : Heap) (locs : List Loc) (ls : Array Slot), Wd G A s.heap H (bMd G a o w) locs → lv_has ls 5 [(0, .ref (a o)), (1, .int x1), (2, .long sg.1), (4, .int sg.2)] → WW p l e 2 s m [.ref (a o), .int x1] below meth c G A (some (.int out.1)) ((bMd G a o out.2)) H locs 44 ls []) (fun (r : Int32 × Md) => r = out)) r → ∀ (H : Heap) (locs : List Loc) (ls : Array Slot), Wd G A s.heap H (bMd G a o w) locs → lv_has ls 5 [(0, .ref (a o)), (1, .int x1), (2, .long x2), (4, .int x4)] → WW p l e 2 s m [.ref (a o), .int x1] below meth c G A (some (.int out.1)) ((bMd G a o out.2)) H locs 44 ls [] := by
      intro x2 x4 r hf hF H locs ls hW hl
      unfold f_X6_mean_B44 at hf
      refine lv_iload hx hb dX6_mean_44 (lv_at hl 3 rfl) ?_
      refine lv_aload_n hx hb dX6_mean_46 rfl (lv_at hl 0 rfl) ?_
      refine k_get C0 hW 6 5 0 (v := .ref (a (o + 2))) rfl (by decide) inX6 mf_X6_17 rfl rfl dX6_mean_47 ?_
      refine lv_iload_n hx hb dX6_mean_50 rfl (lv_at hl 1 rfl) ?_
      have g51_6 := (gd_some hf).1; replace hf := (gd_some hf).2
      refine k_iald C0 hW 2 (ix x1) rfl (inb_in g51_6) rfl dX6_mean_51 ?_
      refine lv_icmp_ge (tgt := 72) hx hb dX6_mean_52 (by decide) (fun c52_7 => ?_) (fun c52_7 => ?_)
      · replace hf := if_t c52_7 hf
        obtain ⟨r2, e2⟩ := om_s hf
        replace hf := e2.1
        replace e2 := e2.2
        subst e2
        replace hF := elim_r hF
        exact J72 _ _ _ hf hF _ _ _ hW (lv_sub hl [0, 1, 2] rfl)
      · replace hf := if_f c52_7 hf
        refine lv_lload_n hx hb dX6_mean_55 rfl (lv_at hl 2 rfl) ?_
        refine lv_aload_n hx hb dX6_mean_56 rfl (lv_at hl 0 rfl) ?_
        refine lv_iload_n hx hb dX6_mean_57 rfl (lv_at hl 1 rfl) ?_
        refine lv_iload hx hb dX6_mean_58 (lv_at hl 3 rfl) ?_
        obtain ⟨q60, hq60⟩ := ob_s hf
        replace hf := hq60.2
        replace hq60 := hq60.1
        refine cW1 (rest := [.long x2]) (ws1 := (bMd G a o w)) (st1 := [.int q60, .long x2]) C0 hW hl.1 (c_X6_rowAt l G a o w x1 x4 _ hq60) cb_X6_rowAt mm_X6_101 fst_Md 0 6 rfl rfl rfl (by decide) rfl rfl (Nat.le_of_ble_eq_true rfl) ⟨Nat.zero_le _, Nat.zero_le _⟩ dX6_mean_60 rfl (fun H locs hW => ?_)
        refine lv_i2l (v := q60.toInt64) hx hb dX6_mean_63 rfl ?_
        refine lv_ladd hx hb dX6_mean_64 ?_
        refine lv_lstore_n (lv' := [(2, .long (x2 + (q60.toInt64))), (0, .ref (a o)), (1, .int x1), (4, .int x4)]) hx hb dX6_mean_65 rfl hl (by decide) rfl (fun ls hl => ?_)
        refine lv_iinc (v := (x4 + (1 : Int32))) (lv' := [(4, .int (x4 + (1 : Int32))), (2, .long (x2 + (q60.toInt64))), (0, .ref (a o)), (1, .int x1)]) hx hb dX6_mean_66 hl (k := 3) rfl rfl (by decide) rfl (fun ls hl => ?_)
        refine lv_goto (tgt := 44) hx hb dX6_mean_69 (by decide) ?_
        have e1 := Option.some.inj hf
        subst e1
        exact (elim_l hF) _ _ _ hW (lv_sub hl [2, 3, 1, 0] rfl)
    exact lp_sound (fun sg r hb hz => B44 sg.1 sg.2 r hb hz)
  obtain ⟨r, hr⟩ : ∃ r, f_X6_mean w x1 = some r ∧ r = out := ⟨out, hf, rfl⟩
  replace hf := hr.1
  have hF := hr.2
  clear hr
  unfold f_X6_mean at hf
  refine lv_iload_n hx hb dX6_mean_0 rfl (lv_at hl 1 rfl) ?_
  obtain ⟨q1, hq1⟩ := ob_s hf
  replace hf := hq1.2
  replace hq1 := hq1.1
  refine cS0 (rest := []) (st1 := [.int q1]) C0 hW hl.1 (c_X6_isRow l G x1 _ hq1) cb_X6_isRow mm_X6_93 [] rfl rfl (by decide) rfl rfl (Nat.le_of_ble_eq_true rfl) ⟨Nat.zero_le _, Nat.zero_le _⟩ dX6_mean_1 rfl (fun H locs hW => ?_)
  refine lv_if_ne (tgt := 9) hx hb dX6_mean_4 (by decide) (fun c4_1 => ?_) (fun c4_1 => ?_)
  · replace hf := if_f c4_1 hf
    refine lv_aload_n hx hb dX6_mean_9 rfl (lv_at hl 0 rfl) ?_
    refine k_get C0 hW 6 5 0 (v := .ref (a (o + 2))) rfl (by decide) inX6 mf_X6_17 rfl rfl dX6_mean_10 ?_
    refine lv_iload_n hx hb dX6_mean_13 rfl (lv_at hl 1 rfl) ?_
    have g14_2 := (gd_some hf).1; replace hf := (gd_some hf).2
    refine k_iald C0 hW 2 (ix x1) rfl (inb_in g14_2) rfl dX6_mean_14 ?_
    refine lv_if_ge (tgt := 24) hx hb dX6_mean_15 (by decide) (fun c15_3 => ?_) (fun c15_3 => ?_)
    · replace hf := if_t c15_3 hf
      refine lv_aload_n hx hb dX6_mean_24 rfl (lv_at hl 0 rfl) ?_
      refine k_get C0 hW 6 5 0 (v := .ref (a (o + 2))) rfl (by decide) inX6 mf_X6_17 rfl rfl dX6_mean_25 ?_
      refine lv_iload_n hx hb dX6_mean_28 rfl (lv_at hl 1 rfl) ?_
      have g29_4 := (gd_some hf).1; replace hf := (gd_some hf).2
      refine k_iald C0 hW 2 (ix x1) rfl (inb_in g29_4) rfl dX6_mean_29 ?_
      refine lv_if_ne (tgt := 39) hx hb dX6_mean_30 (by decide) (fun c30_5 => ?_) (fun c30_5 => ?_)
      · replace hf := if_f c30_5 hf
        refine lv_lconst (v := 0) hx hb dX6_mean_39 (by decide) ?_
        refine lv_lstore_n (lv' := [(2, .long (0 : Int64)), (0, .ref (a o)), (1, .int x1)]) hx hb dX6_mean_40 rfl hl (by decide) rfl (fun ls hl => ?_)
        refine lv_iconst (v := 0) hx hb dX6_mean_41 (by decide) ?_
        refine lv_istore (lv' := [(4, .int (0 : Int32)), (2, .long (0 : Int64)), (0, .ref (a o)), (1, .int x1)]) hx hb dX6_mean_42 hl (by decide) rfl (fun ls hl => ?_)
        exact L44 _ fuel ((0 : Int64), (0 : Int32)) _ hf hF _ _ _ hW (lv_sub hl [2, 3, 1, 0] rfl)
      · replace hf := if_t c30_5 hf
        refine lv_aload_n hx hb dX6_mean_33 rfl (lv_at hl 0 rfl) ?_
        refine lv_iconst (v := 4) hx hb dX6_mean_34 (by decide) ?_
        obtain ⟨q35, hq35⟩ := ob_s hf
        replace hf := hq35.2
        replace hq35 := hq35.1
        refine cW1 (rest := []) (ws1 := (bMd G a o q35.2)) (st1 := [.int q35.1]) C0 hW hl.1 (c_X6_meets l G a o w (4 : Int32) _ hq35) cb_X6_meets mm_X6_97 fst_Md 0 6 rfl rfl rfl (by decide) rfl rfl (Nat.le_of_ble_eq_true rfl) ⟨Nat.zero_le _, Nat.zero_le _⟩ dX6_mean_35 rfl (fun H locs hW => ?_)
        have e1 := Option.some.inj hf
        subst e1
        have hF : ((q35.1, q35.2) : Int32 × Md) = out := hF
        subst hF
        exact k_iret C0 hW dX6_mean_38
    · replace hf := if_f c15_3 hf
      refine lv_aload_n hx hb dX6_mean_18 rfl (lv_at hl 0 rfl) ?_
      refine lv_iconst (v := 1) hx hb dX6_mean_19 (by decide) ?_
      obtain ⟨q20, hq20⟩ := ob_s hf
      replace hf := hq20.2
      replace hq20 := hq20.1
      refine cW1 (rest := []) (ws1 := (bMd G a o q20.2)) (st1 := [.int q20.1]) C0 hW hl.1 (c_X6_meets l G a o w (1 : Int32) _ hq20) cb_X6_meets mm_X6_97 fst_Md 0 6 rfl rfl rfl (by decide) rfl rfl (Nat.le_of_ble_eq_true rfl) ⟨Nat.zero_le _, Nat.zero_le _⟩ dX6_mean_20 rfl (fun H locs hW => ?_)
      have e1 := Option.some.inj hf
      subst e1
      have hF : ((q20.1, q20.2) : Int32 × Md) = out := hF
      subst hF
      exact k_iret C0 hW dX6_mean_23
  · replace hf := if_t c4_1 hf
    refine lv_iconst (v := -1) hx hb dX6_mean_7 (by decide) ?_
    have e1 := Option.some.inj hf
    subst e1
    have hF : (((-1 : Int32), w) : Int32 × Md) = out := hF
    subst hF
    exact k_iret C0 hW dX6_mean_8

def f_X6_mend (w : Md) (x1 : Int32) : Option (Int32 × Md) :=
  Option.bind (f_X6_isSpoke w x1) (fun q2 => if q2 = 0 then (some ((-1 : Int32), w)) else (if (md_deedMany w) = (40 : Int32) then (some ((-2 : Int32), w)) else (Option.bind (f_X6_remember w) (fun q23 => nm ((jshr ((md_now q23) 3) x1) &&& (1 : Int32)) (fun v36 => Option.bind (f_X6_puts 12 (md_now q23) x1) (fun q42 => some (((1 : Int32) - v36), (md_set_now q23 q42))))))))
set_option maxRecDepth 100000 in
set_option maxHeartbeats 1000000 in
theorem c_X6_mend (l : Launch) (G : GG) (a : Nat → Nat) (o : Nat) (w : Md) (x1 : Int32) (out : Int32 × Md) (hf : f_X6_mend w x1 = some out) : Cn l G 2 yX6_mend cX6_mend 3 (some .int) [.ref (a o), .int x1] (bMd G a o w) (some (.int out.1)) (bMd G a o out.2) := by
  refine cn_start (by decide) (Nat.le_of_ble_eq_true rfl) ?_
  intro p e s m below meth c A ls C0 hW hl
  have hx := C0.1
  have hb := C0.2.1
  have hl : lv_has ls 3 [(0, .ref (a o)), (1, .int x1)] := hl
  obtain ⟨r, hr⟩ : ∃ r, f_X6_mend w x1 = some r ∧ r = out := ⟨out, hf, rfl⟩
  replace hf := hr.1
  have hF := hr.2
  clear hr
  unfold f_X6_mend at hf
  refine lv_aload_n hx hb dX6_mend_0 rfl (lv_at hl 0 rfl) ?_
  refine lv_iload_n hx hb dX6_mend_1 rfl (lv_at hl 1 rfl) ?_
  obtain ⟨q2, hq2⟩ := ob_s hf
  replace hf := hq2.2
  replace hq2 := hq2.1
  refine cW1 (rest := []) (ws1 := (bMd G a o w)) (st1 := [.int q2]) C0 hW hl.1 (c_X6_isSpoke l G a o w x1 _ hq2) cb_X6_isSpoke mm_X6_169 fst_Md 0 6 rfl rfl rfl (by decide) rfl rfl (Nat.le_of_ble_eq_true rfl) ⟨Nat.zero_le _, Nat.zero_le _⟩ dX6_mend_2 rfl (fun H locs hW => ?_)
  refine lv_if_ne (tgt := 10) hx hb dX6_mend_5 (by decide) (fun c5_1 => ?_) (fun c5_1 => ?_)
  · replace hf := if_f c5_1 hf
    refine lv_aload_n hx hb dX6_mend_10 rfl (lv_at hl 0 rfl) ?_
    refine k_get C0 hW 6 26 0 (v := .int (md_deedMany w)) rfl (by decide) inX6 mf_X6_148 rfl rfl dX6_mend_11 ?_
    refine lv_bipush (v := 40) hx hb dX6_mend_14 (by decide) ?_
    refine lv_icmp_ne (tgt := 22) hx hb dX6_mend_16 (by decide) (fun c16_2 => ?_) (fun c16_2 => ?_)
    · replace hf := if_f c16_2 hf
      refine lv_aload_n hx hb dX6_mend_22 rfl (lv_at hl 0 rfl) ?_
      obtain ⟨q23, hq23⟩ := ob_s hf
      replace hf := hq23.2
      replace hq23 := hq23.1
      refine cW1 (rest := []) (ws1 := (bMd G a o q23)) (st1 := []) C0 hW hl.1 (c_X6_remember l G a o w _ hq23) cb_X6_remember mm_X6_185 fst_Md 0 6 rfl rfl rfl (by decide) rfl rfl (Nat.le_of_ble_eq_true rfl) ⟨Nat.zero_le _, Nat.zero_le _⟩ dX6_mend_23 rfl (fun H locs hW => ?_)
      refine lv_aload_n hx hb dX6_mend_26 rfl (lv_at hl 0 rfl) ?_
      refine k_get C0 hW 6 24 0 (v := .ref (a (o + 15))) rfl (by decide) inX6 mf_X6_57 rfl rfl dX6_mend_27 ?_
      refine lv_iconst (v := 3) hx hb dX6_mend_30 (by decide) ?_
      refine k_iald C0 hW 15 3 rfl (inb_in rfl) rfl dX6_mend_31 ?_
      refine lv_iload_n hx hb dX6_mend_32 rfl (lv_at hl 1 rfl) ?_
      refine lv_ishr hx hb dX6_mend_33 ?_
      refine lv_iconst (v := 1) hx hb dX6_mend_34 (by decide) ?_
      refine lv_iand hx hb dX6_mend_35 ?_
      refine lv_topi (fun v36 ev36 => ?_)
      replace hf := nm_s ev36 hf
      refine lv_istore_n (lv' := [(2, .int v36), (0, .ref (a o)), (1, .int x1)]) hx hb dX6_mend_36 rfl hl (by decide) rfl (fun ls hl => ?_)
      refine lv_aload_n hx hb dX6_mend_37 rfl (lv_at hl 1 rfl) ?_
      refine k_get C0 hW 6 24 0 (v := .ref (a (o + 15))) rfl (by decide) inX6 mf_X6_57 rfl rfl dX6_mend_38 ?_
      refine lv_iload_n hx hb dX6_mend_41 rfl (lv_at hl 2 rfl) ?_
      obtain ⟨q42, hq42⟩ := ob_s hf
      replace hf := hq42.2
      replace hq42 := hq42.1
      refine cS1 (rest := []) (ws1 := (bMd G a o (md_set_now q23 q42))) (st1 := []) C0 hW hl.1 (c_X6_puts l G (a (o + 15)) 12 (md_now q23) x1 _ hq42) cb_X6_puts mm_X6_199 [15] rfl rfl rfl (by decide) rfl rfl (Nat.le_of_ble_eq_true rfl) ⟨Nat.zero_le _, Nat.zero_le _⟩ dX6_mend_42 rfl rfl (fun H locs hW => ?_)
      refine lv_iconst (v := 1) hx hb dX6_mend_45 (by decide) ?_
      refine lv_iload_n hx hb dX6_mend_46 rfl (lv_at hl 0 rfl) ?_
      refine lv_isub hx hb dX6_mend_47 ?_
      have e1 := Option.some.inj hf
      subst e1
      have hF : ((((1 : Int32) - v36), (md_set_now q23 q42)) : Int32 × Md) = out := hF
      subst hF
      exact k_iret C0 hW dX6_mend_48
    · replace hf := if_t c16_2 hf
      refine lv_bipush (v := -2) hx hb dX6_mend_19 (by decide) ?_
      have e1 := Option.some.inj hf
      subst e1
      have hF : (((-2 : Int32), w) : Int32 × Md) = out := hF
      subst hF
      exact k_iret C0 hW dX6_mend_21
  · replace hf := if_t c5_1 hf
    refine lv_iconst (v := -1) hx hb dX6_mend_8 (by decide) ?_
    have e1 := Option.some.inj hf
    subst e1
    have hF : (((-1 : Int32), w) : Int32 × Md) = out := hF
    subst hF
    exact k_iret C0 hW dX6_mend_9

def f_X6_mid_J59 (w : Md) (x2 : Int64) : Option (Int32 × Md) :=
  Option.bind (f_X6_lowest w x2 (md_whole w)) (fun q65 => some (q65.1, q65.2))
def f_X6_mid_B32 (w : Md) (x2 : Int64) (x4 : Int32) : Option ((Int64 × Int32) ⊕ (Int32 × Md)) :=
  if (12 : Int32) < x4 then (Option.map Sum.inr (f_X6_mid_J59 w x2)) else (gd (inb x4 13) (nm (x2 + ((x4.toInt64) * ((md_parts w) (ix x4)))) (fun v52 => some (Sum.inl (v52, (x4 + (1 : Int32)))))))
def f_X6_mid_L32 (w : Md) (sg : Int64 × Int32) : Option ((Int64 × Int32) ⊕ (Int32 × Md)) := f_X6_mid_B32 w sg.1 sg.2
def f_X6_mid (w : Md) (x1 : Int32) : Option (Int32 × Md) :=
  Option.bind (f_X6_in x1 (0 : Int32) (12 : Int32)) (fun q4 => if q4 = 0 then (some ((-1 : Int32), w)) else (if (md_n w) = 0 then (some ((-4 : Int32), w)) else (Option.bind (f_X6_layParts w x1) (fun q24 => lp (f_X6_mid_L32 q24) fuel ((0 : Int64), (1 : Int32))))))
set_option maxRecDepth 100000 in
set_option maxHeartbeats 1000000 in
theorem c_X6_mid (l : Launch) (G : GG) (a : Nat → Nat) (o : Nat) (w : Md) (x1 : Int32) (out : Int32 × Md) (hf : f_X6_mid w x1 = some out) : Cn l G 6 yX6_mid cX6_mid 5 (some .int) [.ref (a o), .int x1] (bMd G a o w) (some (.int out.1)) (bMd G a o out.2) := by
  refine cn_start (by decide) (Nat.le_of_ble_eq_true rfl) ?_
  intro p e s m below meth c A ls C0 hW hl
  have hx := C0.1
  have hb := C0.2.1
  have hl : lv_has ls 5 [(0, .ref (a o)), (1, .int x1)] := hl
  have J59 : ∀ (x2 : Int64) (w : Md) (r : Int32 × Md), f_X6_mid_J59 w x2 = some r → (fun (r : Int32 × Md) => r = out) r → ∀ (H : Heap) (locs : List Loc) (ls : Array Slot), Wd G A s.heap H (bMd G a o w) locs → lv_has ls 5 [(0, .ref (a o)), (2, .long x2)] → WW p l e 6 s m [.ref (a o), .int x1] below meth c G A (some (.int out.1)) ((bMd G a o out.2)) H locs 59 ls [] := by
    intro x2 w r hf hF H locs ls hW hl
    unfold f_X6_mid_J59 at hf
    refine lv_aload_n hx hb dX6_mid_59 rfl (lv_at hl 0 rfl) ?_
    refine lv_lload_n hx hb dX6_mid_60 rfl (lv_at hl 1 rfl) ?_
    refine lv_aload_n hx hb dX6_mid_61 rfl (lv_at hl 0 rfl) ?_
    refine k_get C0 hW 6 32 0 (v := .long (md_whole w)) rfl (by decide) inX6 mf_X6_241 rfl rfl dX6_mid_62 ?_
    obtain ⟨q65, hq65⟩ := ob_s hf
    replace hf := hq65.2
    replace hq65 := hq65.1
    refine cW1 (rest := []) (ws1 := (bMd G a o q65.2)) (st1 := [.int q65.1]) C0 hW hl.1 (c_X6_lowest l G a o w x2 (md_whole w) _ hq65) cb_X6_lowest mm_X6_250 fst_Md 0 6 rfl rfl rfl (by decide) rfl rfl (Nat.le_of_ble_eq_true rfl) ⟨Nat.zero_le _, Nat.zero_le _⟩ dX6_mid_65 rfl (fun H locs hW => ?_)
    have e1 := Option.some.inj hf
    subst e1
    have hF : ((q65.1, q65.2) : Int32 × Md) = out := hF
    subst hF
    exact k_iret C0 hW dX6_mid_68
  have L32 : ∀ (w : Md) (k8 : Nat) (sg : Int64 × Int32) (o9 : Int32 × Md), lp (f_X6_mid_L32 w) k8 sg = some o9 → (fun (r : Int32 × Md) => r = out) o9 → (fun (sg : Int64 × Int32) => ∀ (H : Heap) (locs : List Loc) (ls : Array Slot), Wd G A s.heap H (bMd G a o w) locs → lv_has ls 5 [(0, .ref (a o)), (2, .long sg.1), (4, .int sg.2)] → WW p l e 6 s m [.ref (a o), .int x1] below meth c G A (some (.int out.1)) ((bMd G a o out.2)) H locs 32 ls []) sg := by
    intro w
    have B32 : ∀ (x2 : Int64) (x4 : Int32) (r : (Int64 × Int32) ⊕ (Int32 × Md)), f_X6_mid_B32 w x2 x4 = some r → (Sum.elim (fun (sg : Int64 × Int32) => ∀ (H : Heap) (locs : List Loc) (ls : Array Slot), Wd G A s.heap H (bMd G a o w) locs → lv_has ls 5 [(0, .ref (a o)), (2, .long sg.1), (4, .int sg.2)] → WW p l e 6 s m [.ref (a o), .int x1] below meth c G A (some (.int out.1)) ((bMd G a o out.2)) H locs 32 ls []) (fun (r : Int32 × Md) => r = out)) r → ∀ (H : Heap) (locs : List Loc) (ls : Array Slot), Wd G A s.heap H (bMd G a o w) locs → lv_has ls 5 [(0, .ref (a o)), (2, .long x2), (4, .int x4)] → WW p l e 6 s m [.ref (a o), .int x1] below meth c G A (some (.int out.1)) ((bMd G a o out.2)) H locs 32 ls [] := by
      intro x2 x4 r hf hF H locs ls hW hl
      unfold f_X6_mid_B32 at hf
      refine lv_iload hx hb dX6_mid_32 (lv_at hl 2 rfl) ?_
      refine lv_bipush (v := 12) hx hb dX6_mid_34 (by decide) ?_
      refine lv_icmp_gt (tgt := 59) hx hb dX6_mid_36 (by decide) (fun c36_3 => ?_) (fun c36_3 => ?_)
      · replace hf := if_t c36_3 hf
        obtain ⟨r2, e2⟩ := om_s hf
        replace hf := e2.1
        replace e2 := e2.2
        subst e2
        replace hF := elim_r hF
        exact J59 _ _ _ hf hF _ _ _ hW (lv_sub hl [0, 1] rfl)
      · replace hf := if_f c36_3 hf
        refine lv_lload_n hx hb dX6_mid_39 rfl (lv_at hl 1 rfl) ?_
        refine lv_iload hx hb dX6_mid_40 (lv_at hl 2 rfl) ?_
        refine lv_i2l (v := x4.toInt64) hx hb dX6_mid_42 rfl ?_
        refine lv_aload_n hx hb dX6_mid_43 rfl (lv_at hl 0 rfl) ?_
        refine k_get C0 hW 6 31 0 (v := .ref (a (o + 21))) rfl (by decide) inX6 mf_X6_75 rfl rfl dX6_mid_44 ?_
        refine lv_iload hx hb dX6_mid_47 (lv_at hl 2 rfl) ?_
        have g49_4 := (gd_some hf).1; replace hf := (gd_some hf).2
        refine k_lald C0 hW 21 (ix x4) rfl (inb_in g49_4) rfl dX6_mid_49 ?_
        refine lv_lmul hx hb dX6_mid_50 ?_
        refine lv_ladd hx hb dX6_mid_51 ?_
        refine lv_topl (fun v52 ev52 => ?_)
        replace hf := nm_s ev52 hf
        refine lv_lstore_n (lv' := [(2, .long v52), (0, .ref (a o)), (4, .int x4)]) hx hb dX6_mid_52 rfl hl (by decide) rfl (fun ls hl => ?_)
        refine lv_iinc (v := (x4 + (1 : Int32))) (lv' := [(4, .int (x4 + (1 : Int32))), (2, .long v52), (0, .ref (a o))]) hx hb dX6_mid_53 hl (k := 2) rfl rfl (by decide) rfl (fun ls hl => ?_)
        refine lv_goto (tgt := 32) hx hb dX6_mid_56 (by decide) ?_
        have e1 := Option.some.inj hf
        subst e1
        exact (elim_l hF) _ _ _ hW (lv_sub hl [2, 1, 0] rfl)
    exact lp_sound (fun sg r hb hz => B32 sg.1 sg.2 r hb hz)
  obtain ⟨r, hr⟩ : ∃ r, f_X6_mid w x1 = some r ∧ r = out := ⟨out, hf, rfl⟩
  replace hf := hr.1
  have hF := hr.2
  clear hr
  unfold f_X6_mid at hf
  refine lv_iload_n hx hb dX6_mid_0 rfl (lv_at hl 1 rfl) ?_
  refine lv_iconst (v := 0) hx hb dX6_mid_1 (by decide) ?_
  refine lv_bipush (v := 12) hx hb dX6_mid_2 (by decide) ?_
  obtain ⟨q4, hq4⟩ := ob_s hf
  replace hf := hq4.2
  replace hq4 := hq4.1
  refine cS0 (rest := []) (st1 := [.int q4]) C0 hW hl.1 (c_X6_in l G x1 (0 : Int32) (12 : Int32) _ hq4) cb_X6_in mm_X6_89 [] rfl rfl (by decide) rfl rfl (Nat.le_of_ble_eq_true rfl) ⟨Nat.zero_le _, Nat.zero_le _⟩ dX6_mid_4 rfl (fun H locs hW => ?_)
  refine lv_if_ne (tgt := 12) hx hb dX6_mid_7 (by decide) (fun c7_1 => ?_) (fun c7_1 => ?_)
  · replace hf := if_f c7_1 hf
    refine lv_aload_n hx hb dX6_mid_12 rfl (lv_at hl 0 rfl) ?_
    refine k_get C0 hW 6 18 0 (v := .int (md_n w)) rfl (by decide) inX6 mf_X6_142 rfl rfl dX6_mid_13 ?_
    refine lv_if_ne (tgt := 22) hx hb dX6_mid_16 (by decide) (fun c16_2 => ?_) (fun c16_2 => ?_)
    · replace hf := if_f c16_2 hf
      refine lv_aload_n hx hb dX6_mid_22 rfl (lv_at hl 0 rfl) ?_
      refine lv_iload_n hx hb dX6_mid_23 rfl (lv_at hl 1 rfl) ?_
      obtain ⟨q24, hq24⟩ := ob_s hf
      replace hf := hq24.2
      replace hq24 := hq24.1
      refine cW1 (rest := []) (ws1 := (bMd G a o q24)) (st1 := []) C0 hW hl.1 (c_X6_layParts l G a o w x1 _ hq24) cb_X6_layParts mm_X6_246 fst_Md 0 6 rfl rfl rfl (by decide) rfl rfl (Nat.le_of_ble_eq_true rfl) ⟨Nat.zero_le _, Nat.zero_le _⟩ dX6_mid_24 rfl (fun H locs hW => ?_)
      refine lv_lconst (v := 0) hx hb dX6_mid_27 (by decide) ?_
      refine lv_lstore_n (lv' := [(2, .long (0 : Int64)), (0, .ref (a o)), (1, .int x1)]) hx hb dX6_mid_28 rfl hl (by decide) rfl (fun ls hl => ?_)
      refine lv_iconst (v := 1) hx hb dX6_mid_29 (by decide) ?_
      refine lv_istore (lv' := [(4, .int (1 : Int32)), (2, .long (0 : Int64)), (0, .ref (a o)), (1, .int x1)]) hx hb dX6_mid_30 hl (by decide) rfl (fun ls hl => ?_)
      exact L32 _ fuel ((0 : Int64), (1 : Int32)) _ hf hF _ _ _ hW (lv_sub hl [2, 1, 0] rfl)
    · replace hf := if_t c16_2 hf
      refine lv_bipush (v := -4) hx hb dX6_mid_19 (by decide) ?_
      have e1 := Option.some.inj hf
      subst e1
      have hF : (((-4 : Int32), w) : Int32 × Md) = out := hF
      subst hF
      exact k_iret C0 hW dX6_mid_21
  · replace hf := if_t c7_1 hf
    refine lv_iconst (v := -1) hx hb dX6_mid_10 (by decide) ?_
    have e1 := Option.some.inj hf
    subst e1
    have hF : (((-1 : Int32), w) : Int32 × Md) = out := hF
    subst hF
    exact k_iret C0 hW dX6_mid_11

def f_X6_need (w : Md) : Option (Int32) :=
  if (md_n w) = 0 then (some (-4 : Int32)) else (if (md_deedMany w) = (40 : Int32) then (some (-2 : Int32)) else (some (0 : Int32)))
set_option maxRecDepth 100000 in
set_option maxHeartbeats 1000000 in
theorem c_X6_need (l : Launch) (G : GG) (a : Nat → Nat) (o : Nat) (w : Md) (out : Int32) (hf : f_X6_need w = some out) : Cn l G 0 yX6_need cX6_need 1 (some .int) [.ref (a o)] (bMd G a o w) (some (.int out)) (bMd G a o w) := by
  refine cn_start (by decide) (Nat.le_of_ble_eq_true rfl) ?_
  intro p e s m below meth c A ls C0 hW hl
  have hx := C0.1
  have hb := C0.2.1
  have hl : lv_has ls 1 [(0, .ref (a o))] := hl
  obtain ⟨r, hr⟩ : ∃ r, f_X6_need w = some r ∧ r = out := ⟨out, hf, rfl⟩
  replace hf := hr.1
  have hF := hr.2
  clear hr
  unfold f_X6_need at hf
  refine lv_aload_n hx hb dX6_need_0 rfl (lv_at hl 0 rfl) ?_
  refine k_get C0 hW 6 18 0 (v := .int (md_n w)) rfl (by decide) inX6 mf_X6_142 rfl rfl dX6_need_1 ?_
  refine lv_if_ne (tgt := 12) hx hb dX6_need_4 (by decide) (fun c4_1 => ?_) (fun c4_1 => ?_)
  · replace hf := if_f c4_1 hf
    refine lv_aload_n hx hb dX6_need_12 rfl (lv_at hl 0 rfl) ?_
    refine k_get C0 hW 6 26 0 (v := .int (md_deedMany w)) rfl (by decide) inX6 mf_X6_148 rfl rfl dX6_need_13 ?_
    refine lv_bipush (v := 40) hx hb dX6_need_16 (by decide) ?_
    refine lv_icmp_ne (tgt := 26) hx hb dX6_need_18 (by decide) (fun c18_2 => ?_) (fun c18_2 => ?_)
    · replace hf := if_f c18_2 hf
      refine lv_iconst (v := 0) hx hb dX6_need_26 (by decide) ?_
      have e1 := Option.some.inj hf
      subst e1
      have hF : ((0 : Int32) : Int32) = out := hF
      subst hF
      exact k_iret C0 hW dX6_need_27
    · replace hf := if_t c18_2 hf
      refine lv_bipush (v := -2) hx hb dX6_need_21 (by decide) ?_
      refine lv_goto (tgt := 27) hx hb dX6_need_23 (by decide) ?_
      have e1 := Option.some.inj hf
      subst e1
      have hF : ((-2 : Int32) : Int32) = out := hF
      subst hF
      exact k_iret C0 hW dX6_need_27
  · replace hf := if_t c4_1 hf
    refine lv_bipush (v := -4) hx hb dX6_need_7 (by decide) ?_
    refine lv_goto (tgt := 27) hx hb dX6_need_9 (by decide) ?_
    have e1 := Option.some.inj hf
    subst e1
    have hF : ((-4 : Int32) : Int32) = out := hF
    subst hF
    exact k_iret C0 hW dX6_need_27

def f_X6_odds_J71 (w : Md) (x3 : Int64) : Option (Int32 × Md) :=
  Option.bind (f_X6_lowest w x3 (md_whole w)) (fun q77 => some (q77.1, q77.2))
def f_X6_odds_B42 (w : Md) (x1 : Int32) (x3 : Int64) (x5 : Int32) : Option ((Int64 × Int32) ⊕ (Int32 × Md)) :=
  if x1 < x5 then (Option.map Sum.inr (f_X6_odds_J71 w x3)) else (if (12 : Int32) < x5 then (Option.map Sum.inr (f_X6_odds_J71 w x3)) else (gd (inb x5 13) (nm (x3 + ((md_parts w) (ix x5))) (fun v64 => some (Sum.inl (v64, (x5 + (1 : Int32))))))))
def f_X6_odds_L42 (w : Md) (x1 : Int32) (sg : Int64 × Int32) : Option ((Int64 × Int32) ⊕ (Int32 × Md)) := f_X6_odds_B42 w x1 sg.1 sg.2
def f_X6_odds (w : Md) (x1 : Int32) (x2 : Int32) : Option (Int32 × Md) :=
  Option.bind (f_X6_in x1 (0 : Int32) (20 : Int32)) (fun q4 => if q4 = 0 then (some ((-1 : Int32), w)) else (Option.bind (f_X6_in x2 (0 : Int32) (12 : Int32)) (fun q14 => if q14 = 0 then (some ((-1 : Int32), w)) else (if (md_n w) = 0 then (some ((-4 : Int32), w)) else (Option.bind (f_X6_layParts w x2) (fun q34 => lp (f_X6_odds_L42 q34 x1) fuel ((0 : Int64), (0 : Int32))))))))
set_option maxRecDepth 100000 in
set_option maxHeartbeats 1000000 in
theorem c_X6_odds (l : Launch) (G : GG) (a : Nat → Nat) (o : Nat) (w : Md) (x1 : Int32) (x2 : Int32) (out : Int32 × Md) (hf : f_X6_odds w x1 x2 = some out) : Cn l G 6 yX6_odds cX6_odds 6 (some .int) [.ref (a o), .int x1, .int x2] (bMd G a o w) (some (.int out.1)) (bMd G a o out.2) := by
  refine cn_start (by decide) (Nat.le_of_ble_eq_true rfl) ?_
  intro p e s m below meth c A ls C0 hW hl
  have hx := C0.1
  have hb := C0.2.1
  have hl : lv_has ls 6 [(0, .ref (a o)), (1, .int x1), (2, .int x2)] := hl
  have J71 : ∀ (x3 : Int64) (w : Md) (r : Int32 × Md), f_X6_odds_J71 w x3 = some r → (fun (r : Int32 × Md) => r = out) r → ∀ (H : Heap) (locs : List Loc) (ls : Array Slot), Wd G A s.heap H (bMd G a o w) locs → lv_has ls 6 [(0, .ref (a o)), (3, .long x3)] → WW p l e 6 s m [.ref (a o), .int x1, .int x2] below meth c G A (some (.int out.1)) ((bMd G a o out.2)) H locs 71 ls [] := by
    intro x3 w r hf hF H locs ls hW hl
    unfold f_X6_odds_J71 at hf
    refine lv_aload_n hx hb dX6_odds_71 rfl (lv_at hl 0 rfl) ?_
    refine lv_lload_n hx hb dX6_odds_72 rfl (lv_at hl 1 rfl) ?_
    refine lv_aload_n hx hb dX6_odds_73 rfl (lv_at hl 0 rfl) ?_
    refine k_get C0 hW 6 32 0 (v := .long (md_whole w)) rfl (by decide) inX6 mf_X6_241 rfl rfl dX6_odds_74 ?_
    obtain ⟨q77, hq77⟩ := ob_s hf
    replace hf := hq77.2
    replace hq77 := hq77.1
    refine cW1 (rest := []) (ws1 := (bMd G a o q77.2)) (st1 := [.int q77.1]) C0 hW hl.1 (c_X6_lowest l G a o w x3 (md_whole w) _ hq77) cb_X6_lowest mm_X6_250 fst_Md 0 6 rfl rfl rfl (by decide) rfl rfl (Nat.le_of_ble_eq_true rfl) ⟨Nat.zero_le _, Nat.zero_le _⟩ dX6_odds_77 rfl (fun H locs hW => ?_)
    have e1 := Option.some.inj hf
    subst e1
    have hF : ((q77.1, q77.2) : Int32 × Md) = out := hF
    subst hF
    exact k_iret C0 hW dX6_odds_80
  have L42 : ∀ (w : Md) (k8 : Nat) (sg : Int64 × Int32) (o9 : Int32 × Md), lp (f_X6_odds_L42 w x1) k8 sg = some o9 → (fun (r : Int32 × Md) => r = out) o9 → (fun (sg : Int64 × Int32) => ∀ (H : Heap) (locs : List Loc) (ls : Array Slot), Wd G A s.heap H (bMd G a o w) locs → lv_has ls 6 [(0, .ref (a o)), (1, .int x1), (3, .long sg.1), (5, .int sg.2)] → WW p l e 6 s m [.ref (a o), .int x1, .int x2] below meth c G A (some (.int out.1)) ((bMd G a o out.2)) H locs 42 ls []) sg := by
    intro w
    have B42 : ∀ (x3 : Int64) (x5 : Int32) (r : (Int64 × Int32) ⊕ (Int32 × Md)), f_X6_odds_B42 w x1 x3 x5 = some r → (Sum.elim (fun (sg : Int64 × Int32) => ∀ (H : Heap) (locs : List Loc) (ls : Array Slot), Wd G A s.heap H (bMd G a o w) locs → lv_has ls 6 [(0, .ref (a o)), (1, .int x1), (3, .long sg.1), (5, .int sg.2)] → WW p l e 6 s m [.ref (a o), .int x1, .int x2] below meth c G A (some (.int out.1)) ((bMd G a o out.2)) H locs 42 ls []) (fun (r : Int32 × Md) => r = out)) r → ∀ (H : Heap) (locs : List Loc) (ls : Array Slot), Wd G A s.heap H (bMd G a o w) locs → lv_has ls 6 [(0, .ref (a o)), (1, .int x1), (3, .long x3), (5, .int x5)] → WW p l e 6 s m [.ref (a o), .int x1, .int x2] below meth c G A (some (.int out.1)) ((bMd G a o out.2)) H locs 42 ls [] := by
      intro x3 x5 r hf hF H locs ls hW hl
      unfold f_X6_odds_B42 at hf
      refine lv_iload hx hb dX6_odds_42 (lv_at hl 3 rfl) ?_
      refine lv_iload_n hx hb dX6_odds_44 rfl (lv_at hl 1 rfl) ?_
      refine lv_icmp_gt (tgt := 71) hx hb dX6_odds_45 (by decide) (fun c45_4 => ?_) (fun c45_4 => ?_)
      · replace hf := if_t c45_4 hf
        obtain ⟨r2, e2⟩ := om_s hf
        replace hf := e2.1
        replace e2 := e2.2
        subst e2
        replace hF := elim_r hF
        exact J71 _ _ _ hf hF _ _ _ hW (lv_sub hl [0, 2] rfl)
      · replace hf := if_f c45_4 hf
        refine lv_iload hx hb dX6_odds_48 (lv_at hl 3 rfl) ?_
        refine lv_bipush (v := 12) hx hb dX6_odds_50 (by decide) ?_
        refine lv_icmp_gt (tgt := 71) hx hb dX6_odds_52 (by decide) (fun c52_5 => ?_) (fun c52_5 => ?_)
        · replace hf := if_t c52_5 hf
          obtain ⟨r2, e2⟩ := om_s hf
          replace hf := e2.1
          replace e2 := e2.2
          subst e2
          replace hF := elim_r hF
          exact J71 _ _ _ hf hF _ _ _ hW (lv_sub hl [0, 2] rfl)
        · replace hf := if_f c52_5 hf
          refine lv_lload_n hx hb dX6_odds_55 rfl (lv_at hl 2 rfl) ?_
          refine lv_aload_n hx hb dX6_odds_56 rfl (lv_at hl 0 rfl) ?_
          refine k_get C0 hW 6 31 0 (v := .ref (a (o + 21))) rfl (by decide) inX6 mf_X6_75 rfl rfl dX6_odds_57 ?_
          refine lv_iload hx hb dX6_odds_60 (lv_at hl 3 rfl) ?_
          have g62_6 := (gd_some hf).1; replace hf := (gd_some hf).2
          refine k_lald C0 hW 21 (ix x5) rfl (inb_in g62_6) rfl dX6_odds_62 ?_
          refine lv_ladd hx hb dX6_odds_63 ?_
          refine lv_topl (fun v64 ev64 => ?_)
          replace hf := nm_s ev64 hf
          refine lv_lstore_n (lv' := [(3, .long v64), (0, .ref (a o)), (1, .int x1), (5, .int x5)]) hx hb dX6_odds_64 rfl hl (by decide) rfl (fun ls hl => ?_)
          refine lv_iinc (v := (x5 + (1 : Int32))) (lv' := [(5, .int (x5 + (1 : Int32))), (3, .long v64), (0, .ref (a o)), (1, .int x1)]) hx hb dX6_odds_65 hl (k := 3) rfl rfl (by decide) rfl (fun ls hl => ?_)
          refine lv_goto (tgt := 42) hx hb dX6_odds_68 (by decide) ?_
          have e1 := Option.some.inj hf
          subst e1
          exact (elim_l hF) _ _ _ hW (lv_sub hl [2, 3, 1, 0] rfl)
    exact lp_sound (fun sg r hb hz => B42 sg.1 sg.2 r hb hz)
  obtain ⟨r, hr⟩ : ∃ r, f_X6_odds w x1 x2 = some r ∧ r = out := ⟨out, hf, rfl⟩
  replace hf := hr.1
  have hF := hr.2
  clear hr
  unfold f_X6_odds at hf
  refine lv_iload_n hx hb dX6_odds_0 rfl (lv_at hl 1 rfl) ?_
  refine lv_iconst (v := 0) hx hb dX6_odds_1 (by decide) ?_
  refine lv_bipush (v := 20) hx hb dX6_odds_2 (by decide) ?_
  obtain ⟨q4, hq4⟩ := ob_s hf
  replace hf := hq4.2
  replace hq4 := hq4.1
  refine cS0 (rest := []) (st1 := [.int q4]) C0 hW hl.1 (c_X6_in l G x1 (0 : Int32) (20 : Int32) _ hq4) cb_X6_in mm_X6_89 [] rfl rfl (by decide) rfl rfl (Nat.le_of_ble_eq_true rfl) ⟨Nat.zero_le _, Nat.zero_le _⟩ dX6_odds_4 rfl (fun H locs hW => ?_)
  refine lv_if_eq (tgt := 20) hx hb dX6_odds_7 (by decide) (fun c7_1 => ?_) (fun c7_1 => ?_)
  · replace hf := if_t c7_1 hf
    refine lv_iconst (v := -1) hx hb dX6_odds_20 (by decide) ?_
    have e1 := Option.some.inj hf
    subst e1
    have hF : (((-1 : Int32), w) : Int32 × Md) = out := hF
    subst hF
    exact k_iret C0 hW dX6_odds_21
  · replace hf := if_f c7_1 hf
    refine lv_iload_n hx hb dX6_odds_10 rfl (lv_at hl 2 rfl) ?_
    refine lv_iconst (v := 0) hx hb dX6_odds_11 (by decide) ?_
    refine lv_bipush (v := 12) hx hb dX6_odds_12 (by decide) ?_
    obtain ⟨q14, hq14⟩ := ob_s hf
    replace hf := hq14.2
    replace hq14 := hq14.1
    refine cS0 (rest := []) (st1 := [.int q14]) C0 hW hl.1 (c_X6_in l G x2 (0 : Int32) (12 : Int32) _ hq14) cb_X6_in mm_X6_89 [] rfl rfl (by decide) rfl rfl (Nat.le_of_ble_eq_true rfl) ⟨Nat.zero_le _, Nat.zero_le _⟩ dX6_odds_14 rfl (fun H locs hW => ?_)
    refine lv_if_ne (tgt := 22) hx hb dX6_odds_17 (by decide) (fun c17_2 => ?_) (fun c17_2 => ?_)
    · replace hf := if_f c17_2 hf
      refine lv_aload_n hx hb dX6_odds_22 rfl (lv_at hl 0 rfl) ?_
      refine k_get C0 hW 6 18 0 (v := .int (md_n w)) rfl (by decide) inX6 mf_X6_142 rfl rfl dX6_odds_23 ?_
      refine lv_if_ne (tgt := 32) hx hb dX6_odds_26 (by decide) (fun c26_3 => ?_) (fun c26_3 => ?_)
      · replace hf := if_f c26_3 hf
        refine lv_aload_n hx hb dX6_odds_32 rfl (lv_at hl 0 rfl) ?_
        refine lv_iload_n hx hb dX6_odds_33 rfl (lv_at hl 2 rfl) ?_
        obtain ⟨q34, hq34⟩ := ob_s hf
        replace hf := hq34.2
        replace hq34 := hq34.1
        refine cW1 (rest := []) (ws1 := (bMd G a o q34)) (st1 := []) C0 hW hl.1 (c_X6_layParts l G a o w x2 _ hq34) cb_X6_layParts mm_X6_246 fst_Md 0 6 rfl rfl rfl (by decide) rfl rfl (Nat.le_of_ble_eq_true rfl) ⟨Nat.zero_le _, Nat.zero_le _⟩ dX6_odds_34 rfl (fun H locs hW => ?_)
        refine lv_lconst (v := 0) hx hb dX6_odds_37 (by decide) ?_
        refine lv_lstore_n (lv' := [(3, .long (0 : Int64)), (0, .ref (a o)), (1, .int x1), (2, .int x2)]) hx hb dX6_odds_38 rfl hl (by decide) rfl (fun ls hl => ?_)
        refine lv_iconst (v := 0) hx hb dX6_odds_39 (by decide) ?_
        refine lv_istore (lv' := [(5, .int (0 : Int32)), (3, .long (0 : Int64)), (0, .ref (a o)), (1, .int x1), (2, .int x2)]) hx hb dX6_odds_40 hl (by decide) rfl (fun ls hl => ?_)
        exact L42 _ fuel ((0 : Int64), (0 : Int32)) _ hf hF _ _ _ hW (lv_sub hl [2, 3, 1, 0] rfl)
      · replace hf := if_t c26_3 hf
        refine lv_bipush (v := -4) hx hb dX6_odds_29 (by decide) ?_
        have e1 := Option.some.inj hf
        subst e1
        have hF : (((-4 : Int32), w) : Int32 × Md) = out := hF
        subst hF
        exact k_iret C0 hW dX6_odds_31
    · replace hf := if_t c17_2 hf
      refine lv_iconst (v := -1) hx hb dX6_odds_20 (by decide) ?_
      have e1 := Option.some.inj hf
      subst e1
      have hF : (((-1 : Int32), w) : Int32 × Md) = out := hF
      subst hF
      exact k_iret C0 hW dX6_odds_21

def f_X6_on_J108 (w : Md) : Option (Int32 × Md) :=
  some ((md_deedMany w), w)
def f_X6_on_B70 (x1 : Int32) (x2 : Int32) (w : Md) : Option ((Int32 × Md) ⊕ (Int32 × Md)) :=
  if ((12 : Int32) * (md_deedMany w)) ≤ x2 then (Option.map Sum.inr (f_X6_on_J108 w)) else (gd (inb ((((492 : Int32) * x1) + (12 : Int32)) + x2) 1476) (gd (inb x2 480) (some (Sum.inl ((x2 + (1 : Int32)), (md_set_log w (upd (md_log w) (ix x2) ((md_kept w) (ix ((((492 : Int32) * x1) + (12 : Int32)) + x2))))))))))
def f_X6_on_L70 (x1 : Int32) (sg : Int32 × Md) : Option ((Int32 × Md) ⊕ (Int32 × Md)) := f_X6_on_B70 x1 sg.1 sg.2
def f_X6_on_J68 (w : Md) (x1 : Int32) : Option (Int32 × Md) :=
  lp (f_X6_on_L70 x1) fuel ((0 : Int32), w)
def f_X6_on_B38 (x1 : Int32) (x2 : Int32) (w : Md) : Option ((Int32 × Md) ⊕ (Int32 × Md)) :=
  if (12 : Int32) ≤ x2 then (Option.map Sum.inr (f_X6_on_J68 w x1)) else (gd (inb (((492 : Int32) * x1) + x2) 1476) (gd (inb x2 12) (some (Sum.inl ((x2 + (1 : Int32)), (md_set_now w (upd (md_now w) (ix x2) ((md_kept w) (ix (((492 : Int32) * x1) + x2))))))))))
def f_X6_on_L38 (x1 : Int32) (sg : Int32 × Md) : Option ((Int32 × Md) ⊕ (Int32 × Md)) := f_X6_on_B38 x1 sg.1 sg.2
def f_X6_on (w : Md) (x1 : Int32) : Option (Int32 × Md) :=
  Option.bind (f_X6_in x1 (0 : Int32) (2 : Int32)) (fun q3 => if q3 = 0 then (some ((-1 : Int32), w)) else (gd (inb x1 3) (if 0 ≤ ((md_keptMany w) (ix x1)) then (gd (inb x1 3) (lp (f_X6_on_L38 x1) fuel ((0 : Int32), (md_set_deedMany w ((md_keptMany w) (ix x1)))))) else (Option.bind (f_X6_meets w (1 : Int32)) (fun q22 => some (q22.1, q22.2))))))
set_option maxRecDepth 100000 in
set_option maxHeartbeats 1000000 in
theorem c_X6_on (l : Launch) (G : GG) (a : Nat → Nat) (o : Nat) (w : Md) (x1 : Int32) (out : Int32 × Md) (hf : f_X6_on w x1 = some out) : Cn l G 1 yX6_on cX6_on 3 (some .int) [.ref (a o), .int x1] (bMd G a o w) (some (.int out.1)) (bMd G a o out.2) := by
  refine cn_start (by decide) (Nat.le_of_ble_eq_true rfl) ?_
  intro p e s m below meth c A ls C0 hW hl
  have hx := C0.1
  have hb := C0.2.1
  have hl : lv_has ls 3 [(0, .ref (a o)), (1, .int x1)] := hl
  have J108 : ∀ (w : Md) (r : Int32 × Md), f_X6_on_J108 w = some r → (fun (r : Int32 × Md) => r = out) r → ∀ (H : Heap) (locs : List Loc) (ls : Array Slot), Wd G A s.heap H (bMd G a o w) locs → lv_has ls 3 [(0, .ref (a o))] → WW p l e 1 s m [.ref (a o), .int x1] below meth c G A (some (.int out.1)) ((bMd G a o out.2)) H locs 108 ls [] := by
    intro w r hf hF H locs ls hW hl
    unfold f_X6_on_J108 at hf
    refine lv_aload_n hx hb dX6_on_108 rfl (lv_at hl 0 rfl) ?_
    refine k_get C0 hW 6 26 0 (v := .int (md_deedMany w)) rfl (by decide) inX6 mf_X6_148 rfl rfl dX6_on_109 ?_
    have e1 := Option.some.inj hf
    subst e1
    have hF : (((md_deedMany w), w) : Int32 × Md) = out := hF
    subst hF
    exact k_iret C0 hW dX6_on_112
  have L70 : ∀ (k8 : Nat) (sg : Int32 × Md) (o9 : Int32 × Md), lp (f_X6_on_L70 x1) k8 sg = some o9 → (fun (r : Int32 × Md) => r = out) o9 → (fun (sg : Int32 × Md) => ∀ (H : Heap) (locs : List Loc) (ls : Array Slot), Wd G A s.heap H (bMd G a o sg.2) locs → lv_has ls 3 [(0, .ref (a o)), (1, .int x1), (2, .int sg.1)] → WW p l e 1 s m [.ref (a o), .int x1] below meth c G A (some (.int out.1)) ((bMd G a o out.2)) H locs 70 ls []) sg := by
    have B70 : ∀ (x2 : Int32) (w : Md) (r : (Int32 × Md) ⊕ (Int32 × Md)), f_X6_on_B70 x1 x2 w = some r → (Sum.elim (fun (sg : Int32 × Md) => ∀ (H : Heap) (locs : List Loc) (ls : Array Slot), Wd G A s.heap H (bMd G a o sg.2) locs → lv_has ls 3 [(0, .ref (a o)), (1, .int x1), (2, .int sg.1)] → WW p l e 1 s m [.ref (a o), .int x1] below meth c G A (some (.int out.1)) ((bMd G a o out.2)) H locs 70 ls []) (fun (r : Int32 × Md) => r = out)) r → ∀ (H : Heap) (locs : List Loc) (ls : Array Slot), Wd G A s.heap H (bMd G a o w) locs → lv_has ls 3 [(0, .ref (a o)), (1, .int x1), (2, .int x2)] → WW p l e 1 s m [.ref (a o), .int x1] below meth c G A (some (.int out.1)) ((bMd G a o out.2)) H locs 70 ls [] := by
      intro x2 w r hf hF H locs ls hW hl
      unfold f_X6_on_B70 at hf
      refine lv_iload_n hx hb dX6_on_70 rfl (lv_at hl 2 rfl) ?_
      refine lv_bipush (v := 12) hx hb dX6_on_71 (by decide) ?_
      refine lv_aload_n hx hb dX6_on_73 rfl (lv_at hl 0 rfl) ?_
      refine k_get C0 hW 6 26 0 (v := .int (md_deedMany w)) rfl (by decide) inX6 mf_X6_148 rfl rfl dX6_on_74 ?_
      refine lv_imul hx hb dX6_on_77 ?_
      refine lv_icmp_ge (tgt := 108) hx hb dX6_on_78 (by decide) (fun c78_6 => ?_) (fun c78_6 => ?_)
      · replace hf := if_t c78_6 hf
        obtain ⟨r2, e2⟩ := om_s hf
        replace hf := e2.1
        replace e2 := e2.2
        subst e2
        replace hF := elim_r hF
        exact J108 _ _ hf hF _ _ _ hW (lv_sub hl [0] rfl)
      · replace hf := if_f c78_6 hf
        refine lv_aload_n hx hb dX6_on_81 rfl (lv_at hl 0 rfl) ?_
        refine k_get C0 hW 6 27 0 (v := .ref (a (o + 17))) rfl (by decide) inX6 mf_X6_63 rfl rfl dX6_on_82 ?_
        refine lv_iload_n hx hb dX6_on_85 rfl (lv_at hl 2 rfl) ?_
        refine lv_aload_n hx hb dX6_on_86 rfl (lv_at hl 0 rfl) ?_
        refine k_get C0 hW 6 29 0 (v := .ref (a (o + 19))) rfl (by decide) inX6 mf_X6_69 rfl rfl dX6_on_87 ?_
        refine lv_sipush (v := 492) hx hb dX6_on_90 (by decide) ?_
        refine lv_iload_n hx hb dX6_on_93 rfl (lv_at hl 1 rfl) ?_
        refine lv_imul hx hb dX6_on_94 ?_
        refine lv_bipush (v := 12) hx hb dX6_on_95 (by decide) ?_
        refine lv_iadd hx hb dX6_on_97 ?_
        refine lv_iload_n hx hb dX6_on_98 rfl (lv_at hl 2 rfl) ?_
        refine lv_iadd hx hb dX6_on_99 ?_
        have g100_7 := (gd_some hf).1; replace hf := (gd_some hf).2
        refine k_iald C0 hW 19 (ix ((((492 : Int32) * x1) + (12 : Int32)) + x2)) rfl (inb_in g100_7) rfl dX6_on_100 ?_
        have g101_8 := (gd_some hf).1; replace hf := (gd_some hf).2
        refine k_iast C0 hW 17 (ix x2) rfl (inb_in g101_8) rfl dX6_on_101 (fun H locs hW => ?_)
        have hW : Wd G A s.heap H (bMd G a o (md_set_log w (upd (md_log w) (ix x2) ((md_kept w) (ix ((((492 : Int32) * x1) + (12 : Int32)) + x2)))))) locs := hW
        refine lv_iinc (v := (x2 + (1 : Int32))) (lv' := [(2, .int (x2 + (1 : Int32))), (0, .ref (a o)), (1, .int x1)]) hx hb dX6_on_102 hl (k := 2) rfl rfl (by decide) rfl (fun ls hl => ?_)
        refine lv_goto (tgt := 70) hx hb dX6_on_105 (by decide) ?_
        have e1 := Option.some.inj hf
        subst e1
        exact (elim_l hF) _ _ _ hW (lv_sub hl [1, 2, 0] rfl)
    exact lp_sound (fun sg r hb hz => B70 sg.1 sg.2 r hb hz)
  have J68 : ∀ (w : Md) (r : Int32 × Md), f_X6_on_J68 w x1 = some r → (fun (r : Int32 × Md) => r = out) r → ∀ (H : Heap) (locs : List Loc) (ls : Array Slot), Wd G A s.heap H (bMd G a o w) locs → lv_has ls 3 [(0, .ref (a o)), (1, .int x1)] → WW p l e 1 s m [.ref (a o), .int x1] below meth c G A (some (.int out.1)) ((bMd G a o out.2)) H locs 68 ls [] := by
    intro w r hf hF H locs ls hW hl
    unfold f_X6_on_J68 at hf
    refine lv_iconst (v := 0) hx hb dX6_on_68 (by decide) ?_
    refine lv_istore_n (lv' := [(2, .int (0 : Int32)), (0, .ref (a o)), (1, .int x1)]) hx hb dX6_on_69 rfl hl (by decide) rfl (fun ls hl => ?_)
    exact L70  fuel ((0 : Int32), w) _ hf hF _ _ _ hW (lv_sub hl [1, 2, 0] rfl)
  have L38 : ∀ (k8 : Nat) (sg : Int32 × Md) (o9 : Int32 × Md), lp (f_X6_on_L38 x1) k8 sg = some o9 → (fun (r : Int32 × Md) => r = out) o9 → (fun (sg : Int32 × Md) => ∀ (H : Heap) (locs : List Loc) (ls : Array Slot), Wd G A s.heap H (bMd G a o sg.2) locs → lv_has ls 3 [(0, .ref (a o)), (1, .int x1), (2, .int sg.1)] → WW p l e 1 s m [.ref (a o), .int x1] below meth c G A (some (.int out.1)) ((bMd G a o out.2)) H locs 38 ls []) sg := by
    have B38 : ∀ (x2 : Int32) (w : Md) (r : (Int32 × Md) ⊕ (Int32 × Md)), f_X6_on_B38 x1 x2 w = some r → (Sum.elim (fun (sg : Int32 × Md) => ∀ (H : Heap) (locs : List Loc) (ls : Array Slot), Wd G A s.heap H (bMd G a o sg.2) locs → lv_has ls 3 [(0, .ref (a o)), (1, .int x1), (2, .int sg.1)] → WW p l e 1 s m [.ref (a o), .int x1] below meth c G A (some (.int out.1)) ((bMd G a o out.2)) H locs 38 ls []) (fun (r : Int32 × Md) => r = out)) r → ∀ (H : Heap) (locs : List Loc) (ls : Array Slot), Wd G A s.heap H (bMd G a o w) locs → lv_has ls 3 [(0, .ref (a o)), (1, .int x1), (2, .int x2)] → WW p l e 1 s m [.ref (a o), .int x1] below meth c G A (some (.int out.1)) ((bMd G a o out.2)) H locs 38 ls [] := by
      intro x2 w r hf hF H locs ls hW hl
      unfold f_X6_on_B38 at hf
      refine lv_iload_n hx hb dX6_on_38 rfl (lv_at hl 2 rfl) ?_
      refine lv_bipush (v := 12) hx hb dX6_on_39 (by decide) ?_
      refine lv_icmp_ge (tgt := 68) hx hb dX6_on_41 (by decide) (fun c41_5 => ?_) (fun c41_5 => ?_)
      · replace hf := if_t c41_5 hf
        obtain ⟨r2, e2⟩ := om_s hf
        replace hf := e2.1
        replace e2 := e2.2
        subst e2
        replace hF := elim_r hF
        exact J68 _ _ hf hF _ _ _ hW (lv_sub hl [0, 1] rfl)
      · replace hf := if_f c41_5 hf
        refine lv_aload_n hx hb dX6_on_44 rfl (lv_at hl 0 rfl) ?_
        refine k_get C0 hW 6 24 0 (v := .ref (a (o + 15))) rfl (by decide) inX6 mf_X6_57 rfl rfl dX6_on_45 ?_
        refine lv_iload_n hx hb dX6_on_48 rfl (lv_at hl 2 rfl) ?_
        refine lv_aload_n hx hb dX6_on_49 rfl (lv_at hl 0 rfl) ?_
        refine k_get C0 hW 6 29 0 (v := .ref (a (o + 19))) rfl (by decide) inX6 mf_X6_69 rfl rfl dX6_on_50 ?_
        refine lv_sipush (v := 492) hx hb dX6_on_53 (by decide) ?_
        refine lv_iload_n hx hb dX6_on_56 rfl (lv_at hl 1 rfl) ?_
        refine lv_imul hx hb dX6_on_57 ?_
        refine lv_iload_n hx hb dX6_on_58 rfl (lv_at hl 2 rfl) ?_
        refine lv_iadd hx hb dX6_on_59 ?_
        have g60_9 := (gd_some hf).1; replace hf := (gd_some hf).2
        refine k_iald C0 hW 19 (ix (((492 : Int32) * x1) + x2)) rfl (inb_in g60_9) rfl dX6_on_60 ?_
        have g61_10 := (gd_some hf).1; replace hf := (gd_some hf).2
        refine k_iast C0 hW 15 (ix x2) rfl (inb_in g61_10) rfl dX6_on_61 (fun H locs hW => ?_)
        have hW : Wd G A s.heap H (bMd G a o (md_set_now w (upd (md_now w) (ix x2) ((md_kept w) (ix (((492 : Int32) * x1) + x2)))))) locs := hW
        refine lv_iinc (v := (x2 + (1 : Int32))) (lv' := [(2, .int (x2 + (1 : Int32))), (0, .ref (a o)), (1, .int x1)]) hx hb dX6_on_62 hl (k := 2) rfl rfl (by decide) rfl (fun ls hl => ?_)
        refine lv_goto (tgt := 38) hx hb dX6_on_65 (by decide) ?_
        have e1 := Option.some.inj hf
        subst e1
        exact (elim_l hF) _ _ _ hW (lv_sub hl [1, 2, 0] rfl)
    exact lp_sound (fun sg r hb hz => B38 sg.1 sg.2 r hb hz)
  obtain ⟨r, hr⟩ : ∃ r, f_X6_on w x1 = some r ∧ r = out := ⟨out, hf, rfl⟩
  replace hf := hr.1
  have hF := hr.2
  clear hr
  unfold f_X6_on at hf
  refine lv_iload_n hx hb dX6_on_0 rfl (lv_at hl 1 rfl) ?_
  refine lv_iconst (v := 0) hx hb dX6_on_1 (by decide) ?_
  refine lv_iconst (v := 2) hx hb dX6_on_2 (by decide) ?_
  obtain ⟨q3, hq3⟩ := ob_s hf
  replace hf := hq3.2
  replace hq3 := hq3.1
  refine cS0 (rest := []) (st1 := [.int q3]) C0 hW hl.1 (c_X6_in l G x1 (0 : Int32) (2 : Int32) _ hq3) cb_X6_in mm_X6_89 [] rfl rfl (by decide) rfl rfl (Nat.le_of_ble_eq_true rfl) ⟨Nat.zero_le _, Nat.zero_le _⟩ dX6_on_3 rfl (fun H locs hW => ?_)
  refine lv_if_ne (tgt := 11) hx hb dX6_on_6 (by decide) (fun c6_1 => ?_) (fun c6_1 => ?_)
  · replace hf := if_f c6_1 hf
    refine lv_aload_n hx hb dX6_on_11 rfl (lv_at hl 0 rfl) ?_
    refine k_get C0 hW 6 28 0 (v := .ref (a (o + 18))) rfl (by decide) inX6 mf_X6_66 rfl rfl dX6_on_12 ?_
    refine lv_iload_n hx hb dX6_on_15 rfl (lv_at hl 1 rfl) ?_
    have g16_2 := (gd_some hf).1; replace hf := (gd_some hf).2
    refine k_iald C0 hW 18 (ix x1) rfl (inb_in g16_2) rfl dX6_on_16 ?_
    refine lv_if_ge (tgt := 26) hx hb dX6_on_17 (by decide) (fun c17_3 => ?_) (fun c17_3 => ?_)
    · replace hf := if_t c17_3 hf
      refine lv_aload_n hx hb dX6_on_26 rfl (lv_at hl 0 rfl) ?_
      refine lv_aload_n hx hb dX6_on_27 rfl (lv_at hl 0 rfl) ?_
      refine k_get C0 hW 6 28 0 (v := .ref (a (o + 18))) rfl (by decide) inX6 mf_X6_66 rfl rfl dX6_on_28 ?_
      refine lv_iload_n hx hb dX6_on_31 rfl (lv_at hl 1 rfl) ?_
      have g32_4 := (gd_some hf).1; replace hf := (gd_some hf).2
      refine k_iald C0 hW 18 (ix x1) rfl (inb_in g32_4) rfl dX6_on_32 ?_
      refine k_put C0 hW 6 26 0 rfl (by decide) inX6 tyX6_ok nmX6 mf_X6_148 rfl rfl rfl rfl (Nat.le_of_ble_eq_true rfl) dX6_on_33 (fun H locs hW => ?_)
      have hW : Wd G A s.heap H (bMd G a o (md_set_deedMany w ((md_keptMany w) (ix x1)))) locs := hW
      refine lv_iconst (v := 0) hx hb dX6_on_36 (by decide) ?_
      refine lv_istore_n (lv' := [(2, .int (0 : Int32)), (0, .ref (a o)), (1, .int x1)]) hx hb dX6_on_37 rfl hl (by decide) rfl (fun ls hl => ?_)
      exact L38  fuel ((0 : Int32), (md_set_deedMany w ((md_keptMany w) (ix x1)))) _ hf hF _ _ _ hW (lv_sub hl [1, 2, 0] rfl)
    · replace hf := if_f c17_3 hf
      refine lv_aload_n hx hb dX6_on_20 rfl (lv_at hl 0 rfl) ?_
      refine lv_iconst (v := 1) hx hb dX6_on_21 (by decide) ?_
      obtain ⟨q22, hq22⟩ := ob_s hf
      replace hf := hq22.2
      replace hq22 := hq22.1
      refine cW1 (rest := []) (ws1 := (bMd G a o q22.2)) (st1 := [.int q22.1]) C0 hW hl.1 (c_X6_meets l G a o w (1 : Int32) _ hq22) cb_X6_meets mm_X6_97 fst_Md 0 6 rfl rfl rfl (by decide) rfl rfl (Nat.le_of_ble_eq_true rfl) ⟨Nat.zero_le _, Nat.zero_le _⟩ dX6_on_22 rfl (fun H locs hW => ?_)
      have e1 := Option.some.inj hf
      subst e1
      have hF : ((q22.1, q22.2) : Int32 × Md) = out := hF
      subst hF
      exact k_iret C0 hW dX6_on_25
  · replace hf := if_t c6_1 hf
    refine lv_iconst (v := -1) hx hb dX6_on_9 (by decide) ?_
    have e1 := Option.some.inj hf
    subst e1
    have hF : (((-1 : Int32), w) : Int32 × Md) = out := hF
    subst hF
    exact k_iret C0 hW dX6_on_10

def f_X6_over (w : Md) : Option (Int32 × Md) :=
  if (md_n w) = 0 then (some ((-4 : Int32), w)) else (Option.bind (f_X6_copyNow w) (fun q11 => Option.bind (f_X6_limpsIn q11 (60 : Int32) (0 : Int32)) (fun q18 => Option.bind (f_X6_isOver_tried q18.2) (fun q27 => if q27 = 0 then (some ((-9 : Int32), q18.2)) else (Option.bind (f_X6_all q18.2) (fun q35 => Option.bind (f_X6_tells q18.2 (q35 &&& (((md_tried q18.2) 3) ^^^ (-1 : Int32))) ((md_tried q18.2) 0)) (fun q53 => some (q53.1, q53.2))))))))
set_option maxRecDepth 100000 in
set_option maxHeartbeats 1000000 in
theorem c_X6_over (l : Launch) (G : GG) (a : Nat → Nat) (o : Nat) (w : Md) (out : Int32 × Md) (hf : f_X6_over w = some out) : Cn l G 5 yX6_over cX6_over 1 (some .int) [.ref (a o)] (bMd G a o w) (some (.int out.1)) (bMd G a o out.2) := by
  refine cn_start (by decide) (Nat.le_of_ble_eq_true rfl) ?_
  intro p e s m below meth c A ls C0 hW hl
  have hx := C0.1
  have hb := C0.2.1
  have hl : lv_has ls 1 [(0, .ref (a o))] := hl
  obtain ⟨r, hr⟩ : ∃ r, f_X6_over w = some r ∧ r = out := ⟨out, hf, rfl⟩
  replace hf := hr.1
  have hF := hr.2
  clear hr
  unfold f_X6_over at hf
  refine lv_aload_n hx hb dX6_over_0 rfl (lv_at hl 0 rfl) ?_
  refine k_get C0 hW 6 18 0 (v := .int (md_n w)) rfl (by decide) inX6 mf_X6_142 rfl rfl dX6_over_1 ?_
  refine lv_if_ne (tgt := 10) hx hb dX6_over_4 (by decide) (fun c4_1 => ?_) (fun c4_1 => ?_)
  · replace hf := if_f c4_1 hf
    refine lv_aload_n hx hb dX6_over_10 rfl (lv_at hl 0 rfl) ?_
    obtain ⟨q11, hq11⟩ := ob_s hf
    replace hf := hq11.2
    replace hq11 := hq11.1
    refine cW1 (rest := []) (ws1 := (bMd G a o q11)) (st1 := []) C0 hW hl.1 (c_X6_copyNow l G a o w _ hq11) cb_X6_copyNow mm_X6_203 fst_Md 0 6 rfl rfl rfl (by decide) rfl rfl (Nat.le_of_ble_eq_true rfl) ⟨Nat.zero_le _, Nat.zero_le _⟩ dX6_over_11 rfl (fun H locs hW => ?_)
    refine lv_aload_n hx hb dX6_over_14 rfl (lv_at hl 0 rfl) ?_
    refine lv_bipush (v := 60) hx hb dX6_over_15 (by decide) ?_
    refine lv_iconst (v := 0) hx hb dX6_over_17 (by decide) ?_
    obtain ⟨q18, hq18⟩ := ob_s hf
    replace hf := hq18.2
    replace hq18 := hq18.1
    refine cW1 (rest := []) (ws1 := (bMd G a o q18.2)) (st1 := [.int q18.1]) C0 hW hl.1 (c_X6_limpsIn l G a o q11 (60 : Int32) (0 : Int32) _ hq18) cb_X6_limpsIn mm_X6_206 fst_Md 0 6 rfl rfl rfl (by decide) rfl rfl (Nat.le_of_ble_eq_true rfl) ⟨Nat.zero_le _, Nat.zero_le _⟩ dX6_over_18 rfl (fun H locs hW => ?_)
    refine lv_pop hx hb dX6_over_21 rfl ?_
    refine lv_aload_n hx hb dX6_over_22 rfl (lv_at hl 0 rfl) ?_
    refine lv_aload_n hx hb dX6_over_23 rfl (lv_at hl 0 rfl) ?_
    refine k_get C0 hW 6 25 0 (v := .ref (a (o + 16))) rfl (by decide) inX6 mf_X6_60 rfl rfl dX6_over_24 ?_
    obtain ⟨q27, hq27⟩ := ob_s hf
    replace hf := hq27.2
    replace hq27 := hq27.1
    refine cW1 (rest := []) (ws1 := (bMd G a o q18.2)) (st1 := [.int q27]) C0 hW hl.1 (c_X6_isOver_tried l G a o q18.2 _ hq27) cb_X6_isOver mm_X6_181 fst_Md 0 6 rfl rfl rfl (by decide) rfl rfl (Nat.le_of_ble_eq_true rfl) ⟨Nat.zero_le _, Nat.zero_le _⟩ dX6_over_27 rfl (fun H locs hW => ?_)
    refine lv_if_eq (tgt := 59) hx hb dX6_over_30 (by decide) (fun c30_2 => ?_) (fun c30_2 => ?_)
    · replace hf := if_t c30_2 hf
      refine lv_bipush (v := -9) hx hb dX6_over_59 (by decide) ?_
      have e1 := Option.some.inj hf
      subst e1
      have hF : (((-9 : Int32), q18.2) : Int32 × Md) = out := hF
      subst hF
      exact k_iret C0 hW dX6_over_61
    · replace hf := if_f c30_2 hf
      refine lv_aload_n hx hb dX6_over_33 rfl (lv_at hl 0 rfl) ?_
      refine lv_aload_n hx hb dX6_over_34 rfl (lv_at hl 0 rfl) ?_
      obtain ⟨q35, hq35⟩ := ob_s hf
      replace hf := hq35.2
      replace hq35 := hq35.1
      refine cW1 (rest := [.ref (a o)]) (ws1 := (bMd G a o q18.2)) (st1 := [.int q35, .ref (a o)]) C0 hW hl.1 (c_X6_all l G a o q18.2 _ hq35) cb_X6_all mm_X6_210 fst_Md 0 6 rfl rfl rfl (by decide) rfl rfl (Nat.le_of_ble_eq_true rfl) ⟨Nat.zero_le _, Nat.zero_le _⟩ dX6_over_35 rfl (fun H locs hW => ?_)
      refine lv_aload_n hx hb dX6_over_38 rfl (lv_at hl 0 rfl) ?_
      refine k_get C0 hW 6 25 0 (v := .ref (a (o + 16))) rfl (by decide) inX6 mf_X6_60 rfl rfl dX6_over_39 ?_
      refine lv_iconst (v := 3) hx hb dX6_over_42 (by decide) ?_
      refine k_iald C0 hW 16 3 rfl (inb_in rfl) rfl dX6_over_43 ?_
      refine lv_iconst (v := -1) hx hb dX6_over_44 (by decide) ?_
      refine lv_ixor hx hb dX6_over_45 ?_
      refine lv_iand hx hb dX6_over_46 ?_
      refine lv_aload_n hx hb dX6_over_47 rfl (lv_at hl 0 rfl) ?_
      refine k_get C0 hW 6 25 0 (v := .ref (a (o + 16))) rfl (by decide) inX6 mf_X6_60 rfl rfl dX6_over_48 ?_
      refine lv_iconst (v := 0) hx hb dX6_over_51 (by decide) ?_
      refine k_iald C0 hW 16 0 rfl (inb_in rfl) rfl dX6_over_52 ?_
      obtain ⟨q53, hq53⟩ := ob_s hf
      replace hf := hq53.2
      replace hq53 := hq53.1
      refine cW1 (rest := []) (ws1 := (bMd G a o q53.2)) (st1 := [.int q53.1]) C0 hW hl.1 (c_X6_tells l G a o q18.2 (q35 &&& (((md_tried q18.2) 3) ^^^ (-1 : Int32))) ((md_tried q18.2) 0) _ hq53) cb_X6_tells mm_X6_105 fst_Md 0 6 rfl rfl rfl (by decide) rfl rfl (Nat.le_of_ble_eq_true rfl) ⟨Nat.zero_le _, Nat.zero_le _⟩ dX6_over_53 rfl (fun H locs hW => ?_)
      refine lv_goto (tgt := 61) hx hb dX6_over_56 (by decide) ?_
      have e1 := Option.some.inj hf
      subst e1
      have hF : ((q53.1, q53.2) : Int32 × Md) = out := hF
      subst hF
      exact k_iret C0 hW dX6_over_61
  · replace hf := if_t c4_1 hf
    refine lv_bipush (v := -4) hx hb dX6_over_7 (by decide) ?_
    have e1 := Option.some.inj hf
    subst e1
    have hF : (((-4 : Int32), w) : Int32 × Md) = out := hF
    subst hF
    exact k_iret C0 hW dX6_over_9

def f_X6_put (w : Md) (x1 : Int32) (x2 : Int32) (x3 : Int32) : Option (Int32 × Md) :=
  Option.bind (f_X6_isText x1) (fun q1 => if q1 = 0 then (some ((-1 : Int32), w)) else (gd (inb x1 4) (if 0 ≤ ((md_textSizes w) (ix x1)) then (gd (inb x1 4) (Option.bind (f_X6_in x2 (0 : Int32) (((md_textSizes w) (ix x1)) - (1 : Int32))) (fun q34 => if q34 = 0 then (Option.bind (f_X6_meets w (2 : Int32)) (fun q42 => some (q42.1, q42.2))) else (gd (inb (((60 : Int32) * x1) + x2) 480) (nm ((md_bytes w) (ix (((60 : Int32) * x1) + x2))) (fun v57 => gd (inb (((60 : Int32) * x1) + x2) 480) (some (((1000 : Int32) + v57), (md_set_bytes w (upd (md_bytes w) (ix (((60 : Int32) * x1) + x2)) (x3.toInt8.toInt32))))))))))) else (Option.bind (f_X6_meets w (1 : Int32)) (fun q20 => some (q20.1, q20.2))))))
set_option maxRecDepth 100000 in
set_option maxHeartbeats 1000000 in
theorem c_X6_put (l : Launch) (G : GG) (a : Nat → Nat) (o : Nat) (w : Md) (x1 : Int32) (x2 : Int32) (x3 : Int32) (out : Int32 × Md) (hf : f_X6_put w x1 x2 x3 = some out) : Cn l G 2 yX6_put cX6_put 5 (some .int) [.ref (a o), .int x1, .int x2, .int x3] (bMd G a o w) (some (.int out.1)) (bMd G a o out.2) := by
  refine cn_start (by decide) (Nat.le_of_ble_eq_true rfl) ?_
  intro p e s m below meth c A ls C0 hW hl
  have hx := C0.1
  have hb := C0.2.1
  have hl : lv_has ls 5 [(0, .ref (a o)), (1, .int x1), (2, .int x2), (3, .int x3)] := hl
  obtain ⟨r, hr⟩ : ∃ r, f_X6_put w x1 x2 x3 = some r ∧ r = out := ⟨out, hf, rfl⟩
  replace hf := hr.1
  have hF := hr.2
  clear hr
  unfold f_X6_put at hf
  refine lv_iload_n hx hb dX6_put_0 rfl (lv_at hl 1 rfl) ?_
  obtain ⟨q1, hq1⟩ := ob_s hf
  replace hf := hq1.2
  replace hq1 := hq1.1
  refine cS0 (rest := []) (st1 := [.int q1]) C0 hW hl.1 (c_X6_isText l G x1 _ hq1) cb_X6_isText mm_X6_108 [] rfl rfl (by decide) rfl rfl (Nat.le_of_ble_eq_true rfl) ⟨Nat.zero_le _, Nat.zero_le _⟩ dX6_put_1 rfl (fun H locs hW => ?_)
  refine lv_if_ne (tgt := 9) hx hb dX6_put_4 (by decide) (fun c4_1 => ?_) (fun c4_1 => ?_)
  · replace hf := if_f c4_1 hf
    refine lv_aload_n hx hb dX6_put_9 rfl (lv_at hl 0 rfl) ?_
    refine k_get C0 hW 6 8 0 (v := .ref (a (o + 5))) rfl (by decide) inX6 mf_X6_26 rfl rfl dX6_put_10 ?_
    refine lv_iload_n hx hb dX6_put_13 rfl (lv_at hl 1 rfl) ?_
    have g14_2 := (gd_some hf).1; replace hf := (gd_some hf).2
    refine k_iald C0 hW 5 (ix x1) rfl (inb_in g14_2) rfl dX6_put_14 ?_
    refine lv_if_ge (tgt := 24) hx hb dX6_put_15 (by decide) (fun c15_3 => ?_) (fun c15_3 => ?_)
    · replace hf := if_t c15_3 hf
      refine lv_iload_n hx hb dX6_put_24 rfl (lv_at hl 2 rfl) ?_
      refine lv_iconst (v := 0) hx hb dX6_put_25 (by decide) ?_
      refine lv_aload_n hx hb dX6_put_26 rfl (lv_at hl 0 rfl) ?_
      refine k_get C0 hW 6 8 0 (v := .ref (a (o + 5))) rfl (by decide) inX6 mf_X6_26 rfl rfl dX6_put_27 ?_
      refine lv_iload_n hx hb dX6_put_30 rfl (lv_at hl 1 rfl) ?_
      have g31_4 := (gd_some hf).1; replace hf := (gd_some hf).2
      refine k_iald C0 hW 5 (ix x1) rfl (inb_in g31_4) rfl dX6_put_31 ?_
      refine lv_iconst (v := 1) hx hb dX6_put_32 (by decide) ?_
      refine lv_isub hx hb dX6_put_33 ?_
      obtain ⟨q34, hq34⟩ := ob_s hf
      replace hf := hq34.2
      replace hq34 := hq34.1
      refine cS0 (rest := []) (st1 := [.int q34]) C0 hW hl.1 (c_X6_in l G x2 (0 : Int32) (((md_textSizes w) (ix x1)) - (1 : Int32)) _ hq34) cb_X6_in mm_X6_89 [] rfl rfl (by decide) rfl rfl (Nat.le_of_ble_eq_true rfl) ⟨Nat.zero_le _, Nat.zero_le _⟩ dX6_put_34 rfl (fun H locs hW => ?_)
      refine lv_if_ne (tgt := 46) hx hb dX6_put_37 (by decide) (fun c37_5 => ?_) (fun c37_5 => ?_)
      · replace hf := if_f c37_5 hf
        refine lv_aload_n hx hb dX6_put_46 rfl (lv_at hl 0 rfl) ?_
        refine k_get C0 hW 6 9 0 (v := .ref (a (o + 6))) rfl (by decide) inX6 mf_X6_29 rfl rfl dX6_put_47 ?_
        refine lv_bipush (v := 60) hx hb dX6_put_50 (by decide) ?_
        refine lv_iload_n hx hb dX6_put_52 rfl (lv_at hl 1 rfl) ?_
        refine lv_imul hx hb dX6_put_53 ?_
        refine lv_iload_n hx hb dX6_put_54 rfl (lv_at hl 2 rfl) ?_
        refine lv_iadd hx hb dX6_put_55 ?_
        have g56_6 := (gd_some hf).1; replace hf := (gd_some hf).2
        refine k_bald C0 hW 6 (ix (((60 : Int32) * x1) + x2)) rfl (inb_in g56_6) rfl dX6_put_56 ?_
        refine lv_topi (fun v57 ev57 => ?_)
        replace hf := nm_s ev57 hf
        refine lv_istore (lv' := [(4, .int v57), (0, .ref (a o)), (1, .int x1), (2, .int x2), (3, .int x3)]) hx hb dX6_put_57 hl (by decide) rfl (fun ls hl => ?_)
        refine lv_aload_n hx hb dX6_put_59 rfl (lv_at hl 1 rfl) ?_
        refine k_get C0 hW 6 9 0 (v := .ref (a (o + 6))) rfl (by decide) inX6 mf_X6_29 rfl rfl dX6_put_60 ?_
        refine lv_bipush (v := 60) hx hb dX6_put_63 (by decide) ?_
        refine lv_iload_n hx hb dX6_put_65 rfl (lv_at hl 2 rfl) ?_
        refine lv_imul hx hb dX6_put_66 ?_
        refine lv_iload_n hx hb dX6_put_67 rfl (lv_at hl 3 rfl) ?_
        refine lv_iadd hx hb dX6_put_68 ?_
        refine lv_iload_n hx hb dX6_put_69 rfl (lv_at hl 4 rfl) ?_
        refine lv_i2b (v := x3.toInt8.toInt32) hx hb dX6_put_70 rfl ?_
        have g71_8 := (gd_some hf).1; replace hf := (gd_some hf).2
        refine k_bast C0 hW 6 (ix (((60 : Int32) * x1) + x2)) rfl (inb_in g71_8) rfl (y := (x3.toInt8.toInt32)) (pk_vb _) dX6_put_71 (fun H locs hW => ?_)
        have hW : Wd G A s.heap H (bMd G a o (md_set_bytes w (upd (md_bytes w) (ix (((60 : Int32) * x1) + x2)) (x3.toInt8.toInt32)))) locs := hW
        refine lv_sipush (v := 1000) hx hb dX6_put_72 (by decide) ?_
        refine lv_iload hx hb dX6_put_75 (lv_at hl 0 rfl) ?_
        refine lv_iadd hx hb dX6_put_77 ?_
        have e1 := Option.some.inj hf
        subst e1
        have hF : ((((1000 : Int32) + v57), (md_set_bytes w (upd (md_bytes w) (ix (((60 : Int32) * x1) + x2)) (x3.toInt8.toInt32)))) : Int32 × Md) = out := hF
        subst hF
        exact k_iret C0 hW dX6_put_78
      · replace hf := if_t c37_5 hf
        refine lv_aload_n hx hb dX6_put_40 rfl (lv_at hl 0 rfl) ?_
        refine lv_iconst (v := 2) hx hb dX6_put_41 (by decide) ?_
        obtain ⟨q42, hq42⟩ := ob_s hf
        replace hf := hq42.2
        replace hq42 := hq42.1
        refine cW1 (rest := []) (ws1 := (bMd G a o q42.2)) (st1 := [.int q42.1]) C0 hW hl.1 (c_X6_meets l G a o w (2 : Int32) _ hq42) cb_X6_meets mm_X6_97 fst_Md 0 6 rfl rfl rfl (by decide) rfl rfl (Nat.le_of_ble_eq_true rfl) ⟨Nat.zero_le _, Nat.zero_le _⟩ dX6_put_42 rfl (fun H locs hW => ?_)
        have e1 := Option.some.inj hf
        subst e1
        have hF : ((q42.1, q42.2) : Int32 × Md) = out := hF
        subst hF
        exact k_iret C0 hW dX6_put_45
    · replace hf := if_f c15_3 hf
      refine lv_aload_n hx hb dX6_put_18 rfl (lv_at hl 0 rfl) ?_
      refine lv_iconst (v := 1) hx hb dX6_put_19 (by decide) ?_
      obtain ⟨q20, hq20⟩ := ob_s hf
      replace hf := hq20.2
      replace hq20 := hq20.1
      refine cW1 (rest := []) (ws1 := (bMd G a o q20.2)) (st1 := [.int q20.1]) C0 hW hl.1 (c_X6_meets l G a o w (1 : Int32) _ hq20) cb_X6_meets mm_X6_97 fst_Md 0 6 rfl rfl rfl (by decide) rfl rfl (Nat.le_of_ble_eq_true rfl) ⟨Nat.zero_le _, Nat.zero_le _⟩ dX6_put_20 rfl (fun H locs hW => ?_)
      have e1 := Option.some.inj hf
      subst e1
      have hF : ((q20.1, q20.2) : Int32 × Md) = out := hF
      subst hF
      exact k_iret C0 hW dX6_put_23
  · replace hf := if_t c4_1 hf
    refine lv_iconst (v := -1) hx hb dX6_put_7 (by decide) ?_
    have e1 := Option.some.inj hf
    subst e1
    have hF : (((-1 : Int32), w) : Int32 × Md) = out := hF
    subst hF
    exact k_iret C0 hW dX6_put_8

def f_X6_soak (w : Md) : Option (Int32 × Md) :=
  Option.bind (f_X6_need w) (fun q1 => if 0 ≤ q1 then (Option.bind (f_X6_remember w) (fun q13 => Option.bind (f_X6_soaks 12 (md_now q13)) (fun q20 => some (q20.1, (md_set_now q13 q20.2))))) else (Option.bind (f_X6_need w) (fun q8 => some (q8, w))))
set_option maxRecDepth 100000 in
set_option maxHeartbeats 1000000 in
theorem c_X6_soak (l : Launch) (G : GG) (a : Nat → Nat) (o : Nat) (w : Md) (out : Int32 × Md) (hf : f_X6_soak w = some out) : Cn l G 1 yX6_soak cX6_soak 1 (some .int) [.ref (a o)] (bMd G a o w) (some (.int out.1)) (bMd G a o out.2) := by
  refine cn_start (by decide) (Nat.le_of_ble_eq_true rfl) ?_
  intro p e s m below meth c A ls C0 hW hl
  have hx := C0.1
  have hb := C0.2.1
  have hl : lv_has ls 1 [(0, .ref (a o))] := hl
  obtain ⟨r, hr⟩ : ∃ r, f_X6_soak w = some r ∧ r = out := ⟨out, hf, rfl⟩
  replace hf := hr.1
  have hF := hr.2
  clear hr
  unfold f_X6_soak at hf
  refine lv_aload_n hx hb dX6_soak_0 rfl (lv_at hl 0 rfl) ?_
  obtain ⟨q1, hq1⟩ := ob_s hf
  replace hf := hq1.2
  replace hq1 := hq1.1
  refine cW1 (rest := []) (ws1 := (bMd G a o w)) (st1 := [.int q1]) C0 hW hl.1 (c_X6_need l G a o w _ hq1) cb_X6_need mm_X6_191 fst_Md 0 6 rfl rfl rfl (by decide) rfl rfl (Nat.le_of_ble_eq_true rfl) ⟨Nat.zero_le _, Nat.zero_le _⟩ dX6_soak_1 rfl (fun H locs hW => ?_)
  refine lv_if_ge (tgt := 12) hx hb dX6_soak_4 (by decide) (fun c4_1 => ?_) (fun c4_1 => ?_)
  · replace hf := if_t c4_1 hf
    refine lv_aload_n hx hb dX6_soak_12 rfl (lv_at hl 0 rfl) ?_
    obtain ⟨q13, hq13⟩ := ob_s hf
    replace hf := hq13.2
    replace hq13 := hq13.1
    refine cW1 (rest := []) (ws1 := (bMd G a o q13)) (st1 := []) C0 hW hl.1 (c_X6_remember l G a o w _ hq13) cb_X6_remember mm_X6_185 fst_Md 0 6 rfl rfl rfl (by decide) rfl rfl (Nat.le_of_ble_eq_true rfl) ⟨Nat.zero_le _, Nat.zero_le _⟩ dX6_soak_13 rfl (fun H locs hW => ?_)
    refine lv_aload_n hx hb dX6_soak_16 rfl (lv_at hl 0 rfl) ?_
    refine k_get C0 hW 6 24 0 (v := .ref (a (o + 15))) rfl (by decide) inX6 mf_X6_57 rfl rfl dX6_soak_17 ?_
    obtain ⟨q20, hq20⟩ := ob_s hf
    replace hf := hq20.2
    replace hq20 := hq20.1
    refine cS1 (rest := []) (ws1 := (bMd G a o (md_set_now q13 q20.2))) (st1 := [.int q20.1]) C0 hW hl.1 (c_X6_soaks l G (a (o + 15)) 12 (md_now q13) _ hq20) cb_X6_soaks mm_X6_195 [15] rfl rfl rfl (by decide) rfl rfl (Nat.le_of_ble_eq_true rfl) ⟨Nat.zero_le _, Nat.zero_le _⟩ dX6_soak_20 rfl rfl (fun H locs hW => ?_)
    have e1 := Option.some.inj hf
    subst e1
    have hF : ((q20.1, (md_set_now q13 q20.2)) : Int32 × Md) = out := hF
    subst hF
    exact k_iret C0 hW dX6_soak_23
  · replace hf := if_f c4_1 hf
    refine lv_aload_n hx hb dX6_soak_7 rfl (lv_at hl 0 rfl) ?_
    obtain ⟨q8, hq8⟩ := ob_s hf
    replace hf := hq8.2
    replace hq8 := hq8.1
    refine cW1 (rest := []) (ws1 := (bMd G a o w)) (st1 := [.int q8]) C0 hW hl.1 (c_X6_need l G a o w _ hq8) cb_X6_need mm_X6_191 fst_Md 0 6 rfl rfl rfl (by decide) rfl rfl (Nat.le_of_ble_eq_true rfl) ⟨Nat.zero_le _, Nat.zero_le _⟩ dX6_soak_8 rfl (fun H locs hW => ?_)
    have e1 := Option.some.inj hf
    subst e1
    have hF : ((q8, w) : Int32 × Md) = out := hF
    subst hF
    exact k_iret C0 hW dX6_soak_11

def f_X6_spoke (w : Md) (x1 : Int32) (x2 : Int32) : Option (Int32 × Md) :=
  Option.bind (f_X6_isSpoke w x1) (fun q2 => if q2 = 0 then (some ((-1 : Int32), w)) else (Option.bind (f_X6_in x2 (0 : Int32) (5 : Int32)) (fun q11 => if q11 = 0 then (some ((-1 : Int32), w)) else (Option.bind (f_X6_spokeTells w x1 x2) (fun q21 => Option.bind (f_X6_tells w q21 (1 : Int32)) (fun q25 => some (q25.1, q25.2)))))))
set_option maxRecDepth 100000 in
set_option maxHeartbeats 1000000 in
theorem c_X6_spoke (l : Launch) (G : GG) (a : Nat → Nat) (o : Nat) (w : Md) (x1 : Int32) (x2 : Int32) (out : Int32 × Md) (hf : f_X6_spoke w x1 x2 = some out) : Cn l G 4 yX6_spoke cX6_spoke 3 (some .int) [.ref (a o), .int x1, .int x2] (bMd G a o w) (some (.int out.1)) (bMd G a o out.2) := by
  refine cn_start (by decide) (Nat.le_of_ble_eq_true rfl) ?_
  intro p e s m below meth c A ls C0 hW hl
  have hx := C0.1
  have hb := C0.2.1
  have hl : lv_has ls 3 [(0, .ref (a o)), (1, .int x1), (2, .int x2)] := hl
  obtain ⟨r, hr⟩ : ∃ r, f_X6_spoke w x1 x2 = some r ∧ r = out := ⟨out, hf, rfl⟩
  replace hf := hr.1
  have hF := hr.2
  clear hr
  unfold f_X6_spoke at hf
  refine lv_aload_n hx hb dX6_spoke_0 rfl (lv_at hl 0 rfl) ?_
  refine lv_iload_n hx hb dX6_spoke_1 rfl (lv_at hl 1 rfl) ?_
  obtain ⟨q2, hq2⟩ := ob_s hf
  replace hf := hq2.2
  replace hq2 := hq2.1
  refine cW1 (rest := []) (ws1 := (bMd G a o w)) (st1 := [.int q2]) C0 hW hl.1 (c_X6_isSpoke l G a o w x1 _ hq2) cb_X6_isSpoke mm_X6_169 fst_Md 0 6 rfl rfl rfl (by decide) rfl rfl (Nat.le_of_ble_eq_true rfl) ⟨Nat.zero_le _, Nat.zero_le _⟩ dX6_spoke_2 rfl (fun H locs hW => ?_)
  refine lv_if_eq (tgt := 31) hx hb dX6_spoke_5 (by decide) (fun c5_1 => ?_) (fun c5_1 => ?_)
  · replace hf := if_t c5_1 hf
    refine lv_iconst (v := -1) hx hb dX6_spoke_31 (by decide) ?_
    have e1 := Option.some.inj hf
    subst e1
    have hF : (((-1 : Int32), w) : Int32 × Md) = out := hF
    subst hF
    exact k_iret C0 hW dX6_spoke_32
  · replace hf := if_f c5_1 hf
    refine lv_iload_n hx hb dX6_spoke_8 rfl (lv_at hl 2 rfl) ?_
    refine lv_iconst (v := 0) hx hb dX6_spoke_9 (by decide) ?_
    refine lv_iconst (v := 5) hx hb dX6_spoke_10 (by decide) ?_
    obtain ⟨q11, hq11⟩ := ob_s hf
    replace hf := hq11.2
    replace hq11 := hq11.1
    refine cS0 (rest := []) (st1 := [.int q11]) C0 hW hl.1 (c_X6_in l G x2 (0 : Int32) (5 : Int32) _ hq11) cb_X6_in mm_X6_89 [] rfl rfl (by decide) rfl rfl (Nat.le_of_ble_eq_true rfl) ⟨Nat.zero_le _, Nat.zero_le _⟩ dX6_spoke_11 rfl (fun H locs hW => ?_)
    refine lv_if_eq (tgt := 31) hx hb dX6_spoke_14 (by decide) (fun c14_2 => ?_) (fun c14_2 => ?_)
    · replace hf := if_t c14_2 hf
      refine lv_iconst (v := -1) hx hb dX6_spoke_31 (by decide) ?_
      have e1 := Option.some.inj hf
      subst e1
      have hF : (((-1 : Int32), w) : Int32 × Md) = out := hF
      subst hF
      exact k_iret C0 hW dX6_spoke_32
    · replace hf := if_f c14_2 hf
      refine lv_aload_n hx hb dX6_spoke_17 rfl (lv_at hl 0 rfl) ?_
      refine lv_aload_n hx hb dX6_spoke_18 rfl (lv_at hl 0 rfl) ?_
      refine lv_iload_n hx hb dX6_spoke_19 rfl (lv_at hl 1 rfl) ?_
      refine lv_iload_n hx hb dX6_spoke_20 rfl (lv_at hl 2 rfl) ?_
      obtain ⟨q21, hq21⟩ := ob_s hf
      replace hf := hq21.2
      replace hq21 := hq21.1
      refine cW1 (rest := [.ref (a o)]) (ws1 := (bMd G a o w)) (st1 := [.int q21, .ref (a o)]) C0 hW hl.1 (c_X6_spokeTells l G a o w x1 x2 _ hq21) cb_X6_spokeTells mm_X6_172 fst_Md 0 6 rfl rfl rfl (by decide) rfl rfl (Nat.le_of_ble_eq_true rfl) ⟨Nat.zero_le _, Nat.zero_le _⟩ dX6_spoke_21 rfl (fun H locs hW => ?_)
      refine lv_iconst (v := 1) hx hb dX6_spoke_24 (by decide) ?_
      obtain ⟨q25, hq25⟩ := ob_s hf
      replace hf := hq25.2
      replace hq25 := hq25.1
      refine cW1 (rest := []) (ws1 := (bMd G a o q25.2)) (st1 := [.int q25.1]) C0 hW hl.1 (c_X6_tells l G a o w q21 (1 : Int32) _ hq25) cb_X6_tells mm_X6_105 fst_Md 0 6 rfl rfl rfl (by decide) rfl rfl (Nat.le_of_ble_eq_true rfl) ⟨Nat.zero_le _, Nat.zero_le _⟩ dX6_spoke_25 rfl (fun H locs hW => ?_)
      refine lv_goto (tgt := 32) hx hb dX6_spoke_28 (by decide) ?_
      have e1 := Option.some.inj hf
      subst e1
      have hF : ((q25.1, q25.2) : Int32 × Md) = out := hF
      subst hF
      exact k_iret C0 hW dX6_spoke_32

def f_X6_step (w : Md) : Option (Int32 × Md) :=
  if (md_n w) = 0 then (some ((-4 : Int32), w)) else (Option.bind (f_X6_isOver_now w) (fun q12 => if q12 = 0 then (if (md_deedMany w) = (40 : Int32) then (some ((-2 : Int32), w)) else (Option.bind (f_X6_remember w) (fun q34 => Option.bind (f_X6_steps_now q34) (fun q42 => if q42.1 = 0 then (some ((0 : Int32), q42.2)) else (some ((1 : Int32), q42.2)))))) else (some ((-4 : Int32), w))))
set_option maxRecDepth 100000 in
set_option maxHeartbeats 1000000 in
theorem c_X6_step (l : Launch) (G : GG) (a : Nat → Nat) (o : Nat) (w : Md) (out : Int32 × Md) (hf : f_X6_step w = some out) : Cn l G 4 yX6_step cX6_step 1 (some .int) [.ref (a o)] (bMd G a o w) (some (.int out.1)) (bMd G a o out.2) := by
  refine cn_start (by decide) (Nat.le_of_ble_eq_true rfl) ?_
  intro p e s m below meth c A ls C0 hW hl
  have hx := C0.1
  have hb := C0.2.1
  have hl : lv_has ls 1 [(0, .ref (a o))] := hl
  obtain ⟨r, hr⟩ : ∃ r, f_X6_step w = some r ∧ r = out := ⟨out, hf, rfl⟩
  replace hf := hr.1
  have hF := hr.2
  clear hr
  unfold f_X6_step at hf
  refine lv_aload_n hx hb dX6_step_0 rfl (lv_at hl 0 rfl) ?_
  refine k_get C0 hW 6 18 0 (v := .int (md_n w)) rfl (by decide) inX6 mf_X6_142 rfl rfl dX6_step_1 ?_
  refine lv_if_eq (tgt := 18) hx hb dX6_step_4 (by decide) (fun c4_1 => ?_) (fun c4_1 => ?_)
  · replace hf := if_t c4_1 hf
    refine lv_bipush (v := -4) hx hb dX6_step_18 (by decide) ?_
    have e1 := Option.some.inj hf
    subst e1
    have hF : (((-4 : Int32), w) : Int32 × Md) = out := hF
    subst hF
    exact k_iret C0 hW dX6_step_20
  · replace hf := if_f c4_1 hf
    refine lv_aload_n hx hb dX6_step_7 rfl (lv_at hl 0 rfl) ?_
    refine lv_aload_n hx hb dX6_step_8 rfl (lv_at hl 0 rfl) ?_
    refine k_get C0 hW 6 24 0 (v := .ref (a (o + 15))) rfl (by decide) inX6 mf_X6_57 rfl rfl dX6_step_9 ?_
    obtain ⟨q12, hq12⟩ := ob_s hf
    replace hf := hq12.2
    replace hq12 := hq12.1
    refine cW1 (rest := []) (ws1 := (bMd G a o w)) (st1 := [.int q12]) C0 hW hl.1 (c_X6_isOver_now l G a o w _ hq12) cb_X6_isOver mm_X6_181 fst_Md 0 6 rfl rfl rfl (by decide) rfl rfl (Nat.le_of_ble_eq_true rfl) ⟨Nat.zero_le _, Nat.zero_le _⟩ dX6_step_12 rfl (fun H locs hW => ?_)
    refine lv_if_eq (tgt := 21) hx hb dX6_step_15 (by decide) (fun c15_2 => ?_) (fun c15_2 => ?_)
    · replace hf := if_t c15_2 hf
      refine lv_aload_n hx hb dX6_step_21 rfl (lv_at hl 0 rfl) ?_
      refine k_get C0 hW 6 26 0 (v := .int (md_deedMany w)) rfl (by decide) inX6 mf_X6_148 rfl rfl dX6_step_22 ?_
      refine lv_bipush (v := 40) hx hb dX6_step_25 (by decide) ?_
      refine lv_icmp_ne (tgt := 33) hx hb dX6_step_27 (by decide) (fun c27_3 => ?_) (fun c27_3 => ?_)
      · replace hf := if_f c27_3 hf
        refine lv_aload_n hx hb dX6_step_33 rfl (lv_at hl 0 rfl) ?_
        obtain ⟨q34, hq34⟩ := ob_s hf
        replace hf := hq34.2
        replace hq34 := hq34.1
        refine cW1 (rest := []) (ws1 := (bMd G a o q34)) (st1 := []) C0 hW hl.1 (c_X6_remember l G a o w _ hq34) cb_X6_remember mm_X6_185 fst_Md 0 6 rfl rfl rfl (by decide) rfl rfl (Nat.le_of_ble_eq_true rfl) ⟨Nat.zero_le _, Nat.zero_le _⟩ dX6_step_34 rfl (fun H locs hW => ?_)
        refine lv_aload_n hx hb dX6_step_37 rfl (lv_at hl 0 rfl) ?_
        refine lv_aload_n hx hb dX6_step_38 rfl (lv_at hl 0 rfl) ?_
        refine k_get C0 hW 6 24 0 (v := .ref (a (o + 15))) rfl (by decide) inX6 mf_X6_57 rfl rfl dX6_step_39 ?_
        obtain ⟨q42, hq42⟩ := ob_s hf
        replace hf := hq42.2
        replace hq42 := hq42.1
        refine cW1 (rest := []) (ws1 := (bMd G a o q42.2)) (st1 := [.int q42.1]) C0 hW hl.1 (c_X6_steps_now l G a o q34 _ hq42) cb_X6_steps mm_X6_188 fst_Md 0 6 rfl rfl rfl (by decide) rfl rfl (Nat.le_of_ble_eq_true rfl) ⟨Nat.zero_le _, Nat.zero_le _⟩ dX6_step_42 rfl (fun H locs hW => ?_)
        refine lv_if_eq (tgt := 52) hx hb dX6_step_45 (by decide) (fun c45_4 => ?_) (fun c45_4 => ?_)
        · replace hf := if_t c45_4 hf
          refine lv_iconst (v := 0) hx hb dX6_step_52 (by decide) ?_
          have e1 := Option.some.inj hf
          subst e1
          have hF : (((0 : Int32), q42.2) : Int32 × Md) = out := hF
          subst hF
          exact k_iret C0 hW dX6_step_53
        · replace hf := if_f c45_4 hf
          refine lv_iconst (v := 1) hx hb dX6_step_48 (by decide) ?_
          refine lv_goto (tgt := 53) hx hb dX6_step_49 (by decide) ?_
          have e1 := Option.some.inj hf
          subst e1
          have hF : (((1 : Int32), q42.2) : Int32 × Md) = out := hF
          subst hF
          exact k_iret C0 hW dX6_step_53
      · replace hf := if_t c27_3 hf
        refine lv_bipush (v := -2) hx hb dX6_step_30 (by decide) ?_
        have e1 := Option.some.inj hf
        subst e1
        have hF : (((-2 : Int32), w) : Int32 × Md) = out := hF
        subst hF
        exact k_iret C0 hW dX6_step_32
    · replace hf := if_f c15_2 hf
      refine lv_bipush (v := -4) hx hb dX6_step_18 (by decide) ?_
      have e1 := Option.some.inj hf
      subst e1
      have hF : (((-4 : Int32), w) : Int32 × Md) = out := hF
      subst hF
      exact k_iret C0 hW dX6_step_20

def f_X6_strengths_J89 (w : Md) (x1 : Int32) (x4 : Int32) (x5 : Int32) : Option (Int32 × Md) :=
  gd (inb x1 8) (some (x5, (md_set_strongs w (upd (md_strongs w) (ix x1) x4))))
def f_X6_strengths_J80 (w : Md) (x1 : Int32) (x2 : Int32) (x4 : Int32) (x6 : Int32) (t0 : Int32) (t1 : Int32) : Option ((Int32 × Int32 × Md) ⊕ (Int32 × Md)) :=
  some (Sum.inl ((t0 ||| t1), (x6 + (1 : Int32)), w))
def f_X6_strengths_B43 (x1 : Int32) (x2 : Int32) (x4 : Int32) (x5 : Int32) (x6 : Int32) (w : Md) : Option ((Int32 × Int32 × Md) ⊕ (Int32 × Md)) :=
  if (10 : Int32) ≤ x6 then (Option.map Sum.inr (f_X6_strengths_J89 w x1 x4 x5)) else (Option.bind (f_X6_copyNow w) (fun q51 => gd (inb x1 8) (Option.bind (f_X6_isSo (md_set_strongs q51 (upd (md_strongs q51) (ix x1) x6)) x2) (fun q66 => if q66.1 = 0 then (f_X6_strengths_J80 q66.2 x1 x2 x4 x6 x5 (0 : Int32)) else (f_X6_strengths_J80 q66.2 x1 x2 x4 x6 x5 (jshl (1 : Int32) x6))))))
def f_X6_strengths_L43 (x1 : Int32) (x2 : Int32) (x4 : Int32) (sg : Int32 × Int32 × Md) : Option ((Int32 × Int32 × Md) ⊕ (Int32 × Md)) := f_X6_strengths_B43 x1 x2 x4 sg.1 sg.2.1 sg.2.2
def f_X6_strengths (w : Md) (x1 : Int32) (x2 : Int32) : Option (Int32 × Md) :=
  Option.bind (f_X6_isSpoke w x1) (fun q2 => if q2 = 0 then (some ((-1 : Int32), w)) else (Option.bind (f_X6_isRow x2) (fun q9 => if q9 = 0 then (some ((-1 : Int32), w)) else (Option.bind (f_X6_needLimps w x2) (fun q19 => if 0 ≤ q19.1 then (gd (inb x1 8) (nm ((md_strongs q19.2) (ix x1)) (fun v35 => lp (f_X6_strengths_L43 x1 x2 v35) fuel ((0 : Int32), (0 : Int32), q19.2)))) else (some (q19.1, q19.2)))))))
set_option maxRecDepth 100000 in
set_option maxHeartbeats 1000000 in
theorem c_X6_strengths (l : Launch) (G : GG) (a : Nat → Nat) (o : Nat) (w : Md) (x1 : Int32) (x2 : Int32) (out : Int32 × Md) (hf : f_X6_strengths w x1 x2 = some out) : Cn l G 6 yX6_strengths cX6_strengths 7 (some .int) [.ref (a o), .int x1, .int x2] (bMd G a o w) (some (.int out.1)) (bMd G a o out.2) := by
  refine cn_start (by decide) (Nat.le_of_ble_eq_true rfl) ?_
  intro p e s m below meth c A ls C0 hW hl
  have hx := C0.1
  have hb := C0.2.1
  have hl : lv_has ls 7 [(0, .ref (a o)), (1, .int x1), (2, .int x2)] := hl
  have J89 : ∀ (x4 : Int32) (x5 : Int32) (w : Md) (r : Int32 × Md), f_X6_strengths_J89 w x1 x4 x5 = some r → (fun (r : Int32 × Md) => r = out) r → ∀ (H : Heap) (locs : List Loc) (ls : Array Slot), Wd G A s.heap H (bMd G a o w) locs → lv_has ls 7 [(0, .ref (a o)), (1, .int x1), (4, .int x4), (5, .int x5)] → WW p l e 6 s m [.ref (a o), .int x1, .int x2] below meth c G A (some (.int out.1)) ((bMd G a o out.2)) H locs 89 ls [] := by
    intro x4 x5 w r hf hF H locs ls hW hl
    unfold f_X6_strengths_J89 at hf
    refine lv_aload_n hx hb dX6_strengths_89 rfl (lv_at hl 0 rfl) ?_
    refine k_get C0 hW 6 23 0 (v := .ref (a (o + 14))) rfl (by decide) inX6 mf_X6_54 rfl rfl dX6_strengths_90 ?_
    refine lv_iload_n hx hb dX6_strengths_93 rfl (lv_at hl 1 rfl) ?_
    refine lv_iload hx hb dX6_strengths_94 (lv_at hl 2 rfl) ?_
    have g96_7 := (gd_some hf).1; replace hf := (gd_some hf).2
    refine k_iast C0 hW 14 (ix x1) rfl (inb_in g96_7) rfl dX6_strengths_96 (fun H locs hW => ?_)
    have hW : Wd G A s.heap H (bMd G a o (md_set_strongs w (upd (md_strongs w) (ix x1) x4))) locs := hW
    refine lv_iload hx hb dX6_strengths_97 (lv_at hl 3 rfl) ?_
    have e1 := Option.some.inj hf
    subst e1
    have hF : ((x5, (md_set_strongs w (upd (md_strongs w) (ix x1) x4))) : Int32 × Md) = out := hF
    subst hF
    exact k_iret C0 hW dX6_strengths_99
  have L43 : ∀ (x4 : Int32) (k8 : Nat) (sg : Int32 × Int32 × Md) (o9 : Int32 × Md), lp (f_X6_strengths_L43 x1 x2 x4) k8 sg = some o9 → (fun (r : Int32 × Md) => r = out) o9 → (fun (sg : Int32 × Int32 × Md) => ∀ (H : Heap) (locs : List Loc) (ls : Array Slot), Wd G A s.heap H (bMd G a o sg.2.2) locs → lv_has ls 7 [(0, .ref (a o)), (1, .int x1), (2, .int x2), (4, .int x4), (5, .int sg.1), (6, .int sg.2.1)] → WW p l e 6 s m [.ref (a o), .int x1, .int x2] below meth c G A (some (.int out.1)) ((bMd G a o out.2)) H locs 43 ls []) sg := by
    intro x4
    have J80 : ∀ (x6 : Int32) (t0 : Int32) (t1 : Int32) (w : Md) (r : (Int32 × Int32 × Md) ⊕ (Int32 × Md)), f_X6_strengths_J80 w x1 x2 x4 x6 t0 t1 = some r → (Sum.elim (fun (sg : Int32 × Int32 × Md) => ∀ (H : Heap) (locs : List Loc) (ls : Array Slot), Wd G A s.heap H (bMd G a o sg.2.2) locs → lv_has ls 7 [(0, .ref (a o)), (1, .int x1), (2, .int x2), (4, .int x4), (5, .int sg.1), (6, .int sg.2.1)] → WW p l e 6 s m [.ref (a o), .int x1, .int x2] below meth c G A (some (.int out.1)) ((bMd G a o out.2)) H locs 43 ls []) (fun (r : Int32 × Md) => r = out)) r → ∀ (H : Heap) (locs : List Loc) (ls : Array Slot), Wd G A s.heap H (bMd G a o w) locs → lv_has ls 7 [(0, .ref (a o)), (1, .int x1), (2, .int x2), (4, .int x4), (6, .int x6)] → WW p l e 6 s m [.ref (a o), .int x1, .int x2] below meth c G A (some (.int out.1)) ((bMd G a o out.2)) H locs 80 ls [.int t1, .int t0] := by
      intro x6 t0 t1 w r hf hF H locs ls hW hl
      unfold f_X6_strengths_J80 at hf
      refine lv_ior hx hb dX6_strengths_80 ?_
      refine lv_istore (lv' := [(5, .int (t0 ||| t1)), (0, .ref (a o)), (1, .int x1), (2, .int x2), (4, .int x4), (6, .int x6)]) hx hb dX6_strengths_81 hl (by decide) rfl (fun ls hl => ?_)
      refine lv_iinc (v := (x6 + (1 : Int32))) (lv' := [(6, .int (x6 + (1 : Int32))), (5, .int (t0 ||| t1)), (0, .ref (a o)), (1, .int x1), (2, .int x2), (4, .int x4)]) hx hb dX6_strengths_83 hl (k := 5) rfl rfl (by decide) rfl (fun ls hl => ?_)
      refine lv_goto (tgt := 43) hx hb dX6_strengths_86 (by decide) ?_
      have e1 := Option.some.inj hf
      subst e1
      exact (elim_l hF) _ _ _ hW (lv_sub hl [2, 3, 4, 5, 1, 0] rfl)
    have B43 : ∀ (x5 : Int32) (x6 : Int32) (w : Md) (r : (Int32 × Int32 × Md) ⊕ (Int32 × Md)), f_X6_strengths_B43 x1 x2 x4 x5 x6 w = some r → (Sum.elim (fun (sg : Int32 × Int32 × Md) => ∀ (H : Heap) (locs : List Loc) (ls : Array Slot), Wd G A s.heap H (bMd G a o sg.2.2) locs → lv_has ls 7 [(0, .ref (a o)), (1, .int x1), (2, .int x2), (4, .int x4), (5, .int sg.1), (6, .int sg.2.1)] → WW p l e 6 s m [.ref (a o), .int x1, .int x2] below meth c G A (some (.int out.1)) ((bMd G a o out.2)) H locs 43 ls []) (fun (r : Int32 × Md) => r = out)) r → ∀ (H : Heap) (locs : List Loc) (ls : Array Slot), Wd G A s.heap H (bMd G a o w) locs → lv_has ls 7 [(0, .ref (a o)), (1, .int x1), (2, .int x2), (4, .int x4), (5, .int x5), (6, .int x6)] → WW p l e 6 s m [.ref (a o), .int x1, .int x2] below meth c G A (some (.int out.1)) ((bMd G a o out.2)) H locs 43 ls [] := by
      intro x5 x6 w r hf hF H locs ls hW hl
      unfold f_X6_strengths_B43 at hf
      refine lv_iload hx hb dX6_strengths_43 (lv_at hl 5 rfl) ?_
      refine lv_bipush (v := 10) hx hb dX6_strengths_45 (by decide) ?_
      refine lv_icmp_ge (tgt := 89) hx hb dX6_strengths_47 (by decide) (fun c47_6 => ?_) (fun c47_6 => ?_)
      · replace hf := if_t c47_6 hf
        obtain ⟨r2, e2⟩ := om_s hf
        replace hf := e2.1
        replace e2 := e2.2
        subst e2
        replace hF := elim_r hF
        exact J89 _ _ _ _ hf hF _ _ _ hW (lv_sub hl [0, 1, 3, 4] rfl)
      · replace hf := if_f c47_6 hf
        refine lv_aload_n hx hb dX6_strengths_50 rfl (lv_at hl 0 rfl) ?_
        obtain ⟨q51, hq51⟩ := ob_s hf
        replace hf := hq51.2
        replace hq51 := hq51.1
        refine cW1 (rest := []) (ws1 := (bMd G a o q51)) (st1 := []) C0 hW hl.1 (c_X6_copyNow l G a o w _ hq51) cb_X6_copyNow mm_X6_203 fst_Md 0 6 rfl rfl rfl (by decide) rfl rfl (Nat.le_of_ble_eq_true rfl) ⟨Nat.zero_le _, Nat.zero_le _⟩ dX6_strengths_51 rfl (fun H locs hW => ?_)
        refine lv_aload_n hx hb dX6_strengths_54 rfl (lv_at hl 0 rfl) ?_
        refine k_get C0 hW 6 23 0 (v := .ref (a (o + 14))) rfl (by decide) inX6 mf_X6_54 rfl rfl dX6_strengths_55 ?_
        refine lv_iload_n hx hb dX6_strengths_58 rfl (lv_at hl 1 rfl) ?_
        refine lv_iload hx hb dX6_strengths_59 (lv_at hl 5 rfl) ?_
        have g61_8 := (gd_some hf).1; replace hf := (gd_some hf).2
        refine k_iast C0 hW 14 (ix x1) rfl (inb_in g61_8) rfl dX6_strengths_61 (fun H locs hW => ?_)
        have hW : Wd G A s.heap H (bMd G a o (md_set_strongs q51 (upd (md_strongs q51) (ix x1) x6))) locs := hW
        refine lv_iload hx hb dX6_strengths_62 (lv_at hl 4 rfl) ?_
        refine lv_aload_n hx hb dX6_strengths_64 rfl (lv_at hl 0 rfl) ?_
        refine lv_iload_n hx hb dX6_strengths_65 rfl (lv_at hl 2 rfl) ?_
        obtain ⟨q66, hq66⟩ := ob_s hf
        replace hf := hq66.2
        replace hq66 := hq66.1
        refine cW1 (rest := [.int x5]) (ws1 := (bMd G a o q66.2)) (st1 := [.int q66.1, .int x5]) C0 hW hl.1 (c_X6_isSo l G a o (md_set_strongs q51 (upd (md_strongs q51) (ix x1) x6)) x2 _ hq66) cb_X6_isSo mm_X6_235 fst_Md 0 6 rfl rfl rfl (by decide) rfl rfl (Nat.le_of_ble_eq_true rfl) ⟨Nat.zero_le _, Nat.zero_le _⟩ dX6_strengths_66 rfl (fun H locs hW => ?_)
        refine lv_if_eq (tgt := 79) hx hb dX6_strengths_69 (by decide) (fun c69_9 => ?_) (fun c69_9 => ?_)
        · replace hf := if_t c69_9 hf
          refine lv_iconst (v := 0) hx hb dX6_strengths_79 (by decide) ?_
          exact J80 _ _ _ _ _ hf hF _ _ _ hW (lv_sub hl [0, 1, 2, 3, 5] rfl)
        · replace hf := if_f c69_9 hf
          refine lv_iconst (v := 1) hx hb dX6_strengths_72 (by decide) ?_
          refine lv_iload hx hb dX6_strengths_73 (lv_at hl 5 rfl) ?_
          refine lv_ishl hx hb dX6_strengths_75 ?_
          refine lv_goto (tgt := 80) hx hb dX6_strengths_76 (by decide) ?_
          exact J80 _ _ _ _ _ hf hF _ _ _ hW (lv_sub hl [0, 1, 2, 3, 5] rfl)
    exact lp_sound (fun sg r hb hz => B43 sg.1 sg.2.1 sg.2.2 r hb hz)
  obtain ⟨r, hr⟩ : ∃ r, f_X6_strengths w x1 x2 = some r ∧ r = out := ⟨out, hf, rfl⟩
  replace hf := hr.1
  have hF := hr.2
  clear hr
  unfold f_X6_strengths at hf
  refine lv_aload_n hx hb dX6_strengths_0 rfl (lv_at hl 0 rfl) ?_
  refine lv_iload_n hx hb dX6_strengths_1 rfl (lv_at hl 1 rfl) ?_
  obtain ⟨q2, hq2⟩ := ob_s hf
  replace hf := hq2.2
  replace hq2 := hq2.1
  refine cW1 (rest := []) (ws1 := (bMd G a o w)) (st1 := [.int q2]) C0 hW hl.1 (c_X6_isSpoke l G a o w x1 _ hq2) cb_X6_isSpoke mm_X6_169 fst_Md 0 6 rfl rfl rfl (by decide) rfl rfl (Nat.le_of_ble_eq_true rfl) ⟨Nat.zero_le _, Nat.zero_le _⟩ dX6_strengths_2 rfl (fun H locs hW => ?_)
  refine lv_if_eq (tgt := 15) hx hb dX6_strengths_5 (by decide) (fun c5_1 => ?_) (fun c5_1 => ?_)
  · replace hf := if_t c5_1 hf
    refine lv_iconst (v := -1) hx hb dX6_strengths_15 (by decide) ?_
    have e1 := Option.some.inj hf
    subst e1
    have hF : (((-1 : Int32), w) : Int32 × Md) = out := hF
    subst hF
    exact k_iret C0 hW dX6_strengths_16
  · replace hf := if_f c5_1 hf
    refine lv_iload_n hx hb dX6_strengths_8 rfl (lv_at hl 2 rfl) ?_
    obtain ⟨q9, hq9⟩ := ob_s hf
    replace hf := hq9.2
    replace hq9 := hq9.1
    refine cS0 (rest := []) (st1 := [.int q9]) C0 hW hl.1 (c_X6_isRow l G x2 _ hq9) cb_X6_isRow mm_X6_93 [] rfl rfl (by decide) rfl rfl (Nat.le_of_ble_eq_true rfl) ⟨Nat.zero_le _, Nat.zero_le _⟩ dX6_strengths_9 rfl (fun H locs hW => ?_)
    refine lv_if_ne (tgt := 17) hx hb dX6_strengths_12 (by decide) (fun c12_2 => ?_) (fun c12_2 => ?_)
    · replace hf := if_f c12_2 hf
      refine lv_aload_n hx hb dX6_strengths_17 rfl (lv_at hl 0 rfl) ?_
      refine lv_iload_n hx hb dX6_strengths_18 rfl (lv_at hl 2 rfl) ?_
      obtain ⟨q19, hq19⟩ := ob_s hf
      replace hf := hq19.2
      replace hq19 := hq19.1
      refine cW1 (rest := []) (ws1 := (bMd G a o q19.2)) (st1 := [.int q19.1]) C0 hW hl.1 (c_X6_needLimps l G a o w x2 _ hq19) cb_X6_needLimps mm_X6_232 fst_Md 0 6 rfl rfl rfl (by decide) rfl rfl (Nat.le_of_ble_eq_true rfl) ⟨Nat.zero_le _, Nat.zero_le _⟩ dX6_strengths_19 rfl (fun H locs hW => ?_)
      refine lv_istore_n (lv' := [(3, .int q19.1), (0, .ref (a o)), (1, .int x1), (2, .int x2)]) hx hb dX6_strengths_22 rfl hl (by decide) rfl (fun ls hl => ?_)
      refine lv_iload_n hx hb dX6_strengths_23 rfl (lv_at hl 0 rfl) ?_
      refine lv_if_ge (tgt := 29) hx hb dX6_strengths_24 (by decide) (fun c24_3 => ?_) (fun c24_3 => ?_)
      · replace hf := if_t c24_3 hf
        refine lv_aload_n hx hb dX6_strengths_29 rfl (lv_at hl 1 rfl) ?_
        refine k_get C0 hW 6 23 0 (v := .ref (a (o + 14))) rfl (by decide) inX6 mf_X6_54 rfl rfl dX6_strengths_30 ?_
        refine lv_iload_n hx hb dX6_strengths_33 rfl (lv_at hl 2 rfl) ?_
        have g34_4 := (gd_some hf).1; replace hf := (gd_some hf).2
        refine k_iald C0 hW 14 (ix x1) rfl (inb_in g34_4) rfl dX6_strengths_34 ?_
        refine lv_topi (fun v35 ev35 => ?_)
        replace hf := nm_s ev35 hf
        refine lv_istore (lv' := [(4, .int v35), (3, .int q19.1), (0, .ref (a o)), (1, .int x1), (2, .int x2)]) hx hb dX6_strengths_35 hl (by decide) rfl (fun ls hl => ?_)
        refine lv_iconst (v := 0) hx hb dX6_strengths_37 (by decide) ?_
        refine lv_istore (lv' := [(5, .int (0 : Int32)), (4, .int v35), (3, .int q19.1), (0, .ref (a o)), (1, .int x1), (2, .int x2)]) hx hb dX6_strengths_38 hl (by decide) rfl (fun ls hl => ?_)
        refine lv_iconst (v := 0) hx hb dX6_strengths_40 (by decide) ?_
        refine lv_istore (lv' := [(6, .int (0 : Int32)), (5, .int (0 : Int32)), (4, .int v35), (3, .int q19.1), (0, .ref (a o)), (1, .int x1), (2, .int x2)]) hx hb dX6_strengths_41 hl (by decide) rfl (fun ls hl => ?_)
        exact L43 _ fuel ((0 : Int32), (0 : Int32), q19.2) _ hf hF _ _ _ hW (lv_sub hl [4, 5, 6, 2, 1, 0] rfl)
      · replace hf := if_f c24_3 hf
        refine lv_iload_n hx hb dX6_strengths_27 rfl (lv_at hl 0 rfl) ?_
        have e1 := Option.some.inj hf
        subst e1
        have hF : ((q19.1, q19.2) : Int32 × Md) = out := hF
        subst hF
        exact k_iret C0 hW dX6_strengths_28
    · replace hf := if_t c12_2 hf
      refine lv_iconst (v := -1) hx hb dX6_strengths_15 (by decide) ?_
      have e1 := Option.some.inj hf
      subst e1
      have hF : (((-1 : Int32), w) : Int32 × Md) = out := hF
      subst hF
      exact k_iret C0 hW dX6_strengths_16

def f_X6_tear (w : Md) (x1 : Int32) : Option (Int32 × Md) :=
  Option.bind (f_X6_isRow x1) (fun q1 => if q1 = 0 then (some ((-1 : Int32), w)) else (gd (inb x1 6) (if 0 ≤ ((md_sizes w) (ix x1)) then (gd (inb x1 6) (some ((1 : Int32), (md_set_sizes w (upd (md_sizes w) (ix x1) (-1 : Int32)))))) else (Option.bind (f_X6_meets w (1 : Int32)) (fun q20 => some (q20.1, q20.2))))))
set_option maxRecDepth 100000 in
set_option maxHeartbeats 1000000 in
theorem c_X6_tear (l : Launch) (G : GG) (a : Nat → Nat) (o : Nat) (w : Md) (x1 : Int32) (out : Int32 × Md) (hf : f_X6_tear w x1 = some out) : Cn l G 2 yX6_tear cX6_tear 2 (some .int) [.ref (a o), .int x1] (bMd G a o w) (some (.int out.1)) (bMd G a o out.2) := by
  refine cn_start (by decide) (Nat.le_of_ble_eq_true rfl) ?_
  intro p e s m below meth c A ls C0 hW hl
  have hx := C0.1
  have hb := C0.2.1
  have hl : lv_has ls 2 [(0, .ref (a o)), (1, .int x1)] := hl
  obtain ⟨r, hr⟩ : ∃ r, f_X6_tear w x1 = some r ∧ r = out := ⟨out, hf, rfl⟩
  replace hf := hr.1
  have hF := hr.2
  clear hr
  unfold f_X6_tear at hf
  refine lv_iload_n hx hb dX6_tear_0 rfl (lv_at hl 1 rfl) ?_
  obtain ⟨q1, hq1⟩ := ob_s hf
  replace hf := hq1.2
  replace hq1 := hq1.1
  refine cS0 (rest := []) (st1 := [.int q1]) C0 hW hl.1 (c_X6_isRow l G x1 _ hq1) cb_X6_isRow mm_X6_93 [] rfl rfl (by decide) rfl rfl (Nat.le_of_ble_eq_true rfl) ⟨Nat.zero_le _, Nat.zero_le _⟩ dX6_tear_1 rfl (fun H locs hW => ?_)
  refine lv_if_ne (tgt := 9) hx hb dX6_tear_4 (by decide) (fun c4_1 => ?_) (fun c4_1 => ?_)
  · replace hf := if_f c4_1 hf
    refine lv_aload_n hx hb dX6_tear_9 rfl (lv_at hl 0 rfl) ?_
    refine k_get C0 hW 6 5 0 (v := .ref (a (o + 2))) rfl (by decide) inX6 mf_X6_17 rfl rfl dX6_tear_10 ?_
    refine lv_iload_n hx hb dX6_tear_13 rfl (lv_at hl 1 rfl) ?_
    have g14_2 := (gd_some hf).1; replace hf := (gd_some hf).2
    refine k_iald C0 hW 2 (ix x1) rfl (inb_in g14_2) rfl dX6_tear_14 ?_
    refine lv_if_ge (tgt := 24) hx hb dX6_tear_15 (by decide) (fun c15_3 => ?_) (fun c15_3 => ?_)
    · replace hf := if_t c15_3 hf
      refine lv_aload_n hx hb dX6_tear_24 rfl (lv_at hl 0 rfl) ?_
      refine k_get C0 hW 6 5 0 (v := .ref (a (o + 2))) rfl (by decide) inX6 mf_X6_17 rfl rfl dX6_tear_25 ?_
      refine lv_iload_n hx hb dX6_tear_28 rfl (lv_at hl 1 rfl) ?_
      refine lv_iconst (v := -1) hx hb dX6_tear_29 (by decide) ?_
      have g30_4 := (gd_some hf).1; replace hf := (gd_some hf).2
      refine k_iast C0 hW 2 (ix x1) rfl (inb_in g30_4) rfl dX6_tear_30 (fun H locs hW => ?_)
      have hW : Wd G A s.heap H (bMd G a o (md_set_sizes w (upd (md_sizes w) (ix x1) (-1 : Int32)))) locs := hW
      refine lv_iconst (v := 1) hx hb dX6_tear_31 (by decide) ?_
      have e1 := Option.some.inj hf
      subst e1
      have hF : (((1 : Int32), (md_set_sizes w (upd (md_sizes w) (ix x1) (-1 : Int32)))) : Int32 × Md) = out := hF
      subst hF
      exact k_iret C0 hW dX6_tear_32
    · replace hf := if_f c15_3 hf
      refine lv_aload_n hx hb dX6_tear_18 rfl (lv_at hl 0 rfl) ?_
      refine lv_iconst (v := 1) hx hb dX6_tear_19 (by decide) ?_
      obtain ⟨q20, hq20⟩ := ob_s hf
      replace hf := hq20.2
      replace hq20 := hq20.1
      refine cW1 (rest := []) (ws1 := (bMd G a o q20.2)) (st1 := [.int q20.1]) C0 hW hl.1 (c_X6_meets l G a o w (1 : Int32) _ hq20) cb_X6_meets mm_X6_97 fst_Md 0 6 rfl rfl rfl (by decide) rfl rfl (Nat.le_of_ble_eq_true rfl) ⟨Nat.zero_le _, Nat.zero_le _⟩ dX6_tear_20 rfl (fun H locs hW => ?_)
      have e1 := Option.some.inj hf
      subst e1
      have hF : ((q20.1, q20.2) : Int32 × Md) = out := hF
      subst hF
      exact k_iret C0 hW dX6_tear_23
  · replace hf := if_t c4_1 hf
    refine lv_iconst (v := -1) hx hb dX6_tear_7 (by decide) ?_
    have e1 := Option.some.inj hf
    subst e1
    have hF : (((-1 : Int32), w) : Int32 × Md) = out := hF
    subst hF
    exact k_iret C0 hW dX6_tear_8

def f_X6_text_B34 (x1 : Int32) (x2 : Int32) (x3 : Int32) (w : Md) : Option ((Int32 × Md) ⊕ (Int32 × Md)) :=
  if (60 : Int32) ≤ x3 then (Option.map Sum.inr (some (x2, w))) else (gd (inb (((60 : Int32) * x1) + x3) 480) (some (Sum.inl ((x3 + (1 : Int32)), (md_set_bytes w (upd (md_bytes w) (ix (((60 : Int32) * x1) + x3)) (32 : Int32)))))))
def f_X6_text_L34 (x1 : Int32) (x2 : Int32) (sg : Int32 × Md) : Option ((Int32 × Md) ⊕ (Int32 × Md)) := f_X6_text_B34 x1 x2 sg.1 sg.2
def f_X6_text (w : Md) (x1 : Int32) (x2 : Int32) : Option (Int32 × Md) :=
  Option.bind (f_X6_isText x1) (fun q1 => if q1 = 0 then (some ((-1 : Int32), w)) else (if x2 ≤ (60 : Int32) then (if 0 ≤ x2 then (gd (inb x1 4) (lp (f_X6_text_L34 x1 x2) fuel ((0 : Int32), (md_set_textSizes w (upd (md_textSizes w) (ix x1) x2))))) else (Option.bind (f_X6_meets w (5 : Int32)) (fun q21 => some (q21.1, q21.2)))) else (some ((-1 : Int32), w))))
set_option maxRecDepth 100000 in
set_option maxHeartbeats 1000000 in
theorem c_X6_text (l : Launch) (G : GG) (a : Nat → Nat) (o : Nat) (w : Md) (x1 : Int32) (x2 : Int32) (out : Int32 × Md) (hf : f_X6_text w x1 x2 = some out) : Cn l G 2 yX6_text cX6_text 4 (some .int) [.ref (a o), .int x1, .int x2] (bMd G a o w) (some (.int out.1)) (bMd G a o out.2) := by
  refine cn_start (by decide) (Nat.le_of_ble_eq_true rfl) ?_
  intro p e s m below meth c A ls C0 hW hl
  have hx := C0.1
  have hb := C0.2.1
  have hl : lv_has ls 4 [(0, .ref (a o)), (1, .int x1), (2, .int x2)] := hl
  have L34 : ∀ (k8 : Nat) (sg : Int32 × Md) (o9 : Int32 × Md), lp (f_X6_text_L34 x1 x2) k8 sg = some o9 → (fun (r : Int32 × Md) => r = out) o9 → (fun (sg : Int32 × Md) => ∀ (H : Heap) (locs : List Loc) (ls : Array Slot), Wd G A s.heap H (bMd G a o sg.2) locs → lv_has ls 4 [(0, .ref (a o)), (1, .int x1), (2, .int x2), (3, .int sg.1)] → WW p l e 2 s m [.ref (a o), .int x1, .int x2] below meth c G A (some (.int out.1)) ((bMd G a o out.2)) H locs 34 ls []) sg := by
    have B34 : ∀ (x3 : Int32) (w : Md) (r : (Int32 × Md) ⊕ (Int32 × Md)), f_X6_text_B34 x1 x2 x3 w = some r → (Sum.elim (fun (sg : Int32 × Md) => ∀ (H : Heap) (locs : List Loc) (ls : Array Slot), Wd G A s.heap H (bMd G a o sg.2) locs → lv_has ls 4 [(0, .ref (a o)), (1, .int x1), (2, .int x2), (3, .int sg.1)] → WW p l e 2 s m [.ref (a o), .int x1, .int x2] below meth c G A (some (.int out.1)) ((bMd G a o out.2)) H locs 34 ls []) (fun (r : Int32 × Md) => r = out)) r → ∀ (H : Heap) (locs : List Loc) (ls : Array Slot), Wd G A s.heap H (bMd G a o w) locs → lv_has ls 4 [(0, .ref (a o)), (1, .int x1), (2, .int x2), (3, .int x3)] → WW p l e 2 s m [.ref (a o), .int x1, .int x2] below meth c G A (some (.int out.1)) ((bMd G a o out.2)) H locs 34 ls [] := by
      intro x3 w r hf hF H locs ls hW hl
      unfold f_X6_text_B34 at hf
      refine lv_iload_n hx hb dX6_text_34 rfl (lv_at hl 3 rfl) ?_
      refine lv_bipush (v := 60) hx hb dX6_text_35 (by decide) ?_
      refine lv_icmp_ge (tgt := 59) hx hb dX6_text_37 (by decide) (fun c37_5 => ?_) (fun c37_5 => ?_)
      · replace hf := if_t c37_5 hf
        obtain ⟨r2, e2⟩ := om_s hf
        replace hf := e2.1
        replace e2 := e2.2
        subst e2
        replace hF := elim_r hF
        refine lv_iload_n hx hb dX6_text_59 rfl (lv_at hl 2 rfl) ?_
        have e1 := Option.some.inj hf
        subst e1
        have hF : ((x2, w) : Int32 × Md) = out := hF
        subst hF
        exact k_iret C0 hW dX6_text_60
      · replace hf := if_f c37_5 hf
        refine lv_aload_n hx hb dX6_text_40 rfl (lv_at hl 0 rfl) ?_
        refine k_get C0 hW 6 9 0 (v := .ref (a (o + 6))) rfl (by decide) inX6 mf_X6_29 rfl rfl dX6_text_41 ?_
        refine lv_bipush (v := 60) hx hb dX6_text_44 (by decide) ?_
        refine lv_iload_n hx hb dX6_text_46 rfl (lv_at hl 1 rfl) ?_
        refine lv_imul hx hb dX6_text_47 ?_
        refine lv_iload_n hx hb dX6_text_48 rfl (lv_at hl 3 rfl) ?_
        refine lv_iadd hx hb dX6_text_49 ?_
        refine lv_bipush (v := 32) hx hb dX6_text_50 (by decide) ?_
        have g52_6 := (gd_some hf).1; replace hf := (gd_some hf).2
        refine k_bast C0 hW 6 (ix (((60 : Int32) * x1) + x3)) rfl (inb_in g52_6) rfl (y := (32 : Int32)) (by decide) dX6_text_52 (fun H locs hW => ?_)
        have hW : Wd G A s.heap H (bMd G a o (md_set_bytes w (upd (md_bytes w) (ix (((60 : Int32) * x1) + x3)) (32 : Int32)))) locs := hW
        refine lv_iinc (v := (x3 + (1 : Int32))) (lv' := [(3, .int (x3 + (1 : Int32))), (0, .ref (a o)), (1, .int x1), (2, .int x2)]) hx hb dX6_text_53 hl (k := 3) rfl rfl (by decide) rfl (fun ls hl => ?_)
        refine lv_goto (tgt := 34) hx hb dX6_text_56 (by decide) ?_
        have e1 := Option.some.inj hf
        subst e1
        exact (elim_l hF) _ _ _ hW (lv_sub hl [1, 2, 3, 0] rfl)
    exact lp_sound (fun sg r hb hz => B34 sg.1 sg.2 r hb hz)
  obtain ⟨r, hr⟩ : ∃ r, f_X6_text w x1 x2 = some r ∧ r = out := ⟨out, hf, rfl⟩
  replace hf := hr.1
  have hF := hr.2
  clear hr
  unfold f_X6_text at hf
  refine lv_iload_n hx hb dX6_text_0 rfl (lv_at hl 1 rfl) ?_
  obtain ⟨q1, hq1⟩ := ob_s hf
  replace hf := hq1.2
  replace hq1 := hq1.1
  refine cS0 (rest := []) (st1 := [.int q1]) C0 hW hl.1 (c_X6_isText l G x1 _ hq1) cb_X6_isText mm_X6_108 [] rfl rfl (by decide) rfl rfl (Nat.le_of_ble_eq_true rfl) ⟨Nat.zero_le _, Nat.zero_le _⟩ dX6_text_1 rfl (fun H locs hW => ?_)
  refine lv_if_eq (tgt := 13) hx hb dX6_text_4 (by decide) (fun c4_1 => ?_) (fun c4_1 => ?_)
  · replace hf := if_t c4_1 hf
    refine lv_iconst (v := -1) hx hb dX6_text_13 (by decide) ?_
    have e1 := Option.some.inj hf
    subst e1
    have hF : (((-1 : Int32), w) : Int32 × Md) = out := hF
    subst hF
    exact k_iret C0 hW dX6_text_14
  · replace hf := if_f c4_1 hf
    refine lv_iload_n hx hb dX6_text_7 rfl (lv_at hl 2 rfl) ?_
    refine lv_bipush (v := 60) hx hb dX6_text_8 (by decide) ?_
    refine lv_icmp_le (tgt := 15) hx hb dX6_text_10 (by decide) (fun c10_2 => ?_) (fun c10_2 => ?_)
    · replace hf := if_t c10_2 hf
      refine lv_iload_n hx hb dX6_text_15 rfl (lv_at hl 2 rfl) ?_
      refine lv_if_ge (tgt := 25) hx hb dX6_text_16 (by decide) (fun c16_3 => ?_) (fun c16_3 => ?_)
      · replace hf := if_t c16_3 hf
        refine lv_aload_n hx hb dX6_text_25 rfl (lv_at hl 0 rfl) ?_
        refine k_get C0 hW 6 8 0 (v := .ref (a (o + 5))) rfl (by decide) inX6 mf_X6_26 rfl rfl dX6_text_26 ?_
        refine lv_iload_n hx hb dX6_text_29 rfl (lv_at hl 1 rfl) ?_
        refine lv_iload_n hx hb dX6_text_30 rfl (lv_at hl 2 rfl) ?_
        have g31_4 := (gd_some hf).1; replace hf := (gd_some hf).2
        refine k_iast C0 hW 5 (ix x1) rfl (inb_in g31_4) rfl dX6_text_31 (fun H locs hW => ?_)
        have hW : Wd G A s.heap H (bMd G a o (md_set_textSizes w (upd (md_textSizes w) (ix x1) x2))) locs := hW
        refine lv_iconst (v := 0) hx hb dX6_text_32 (by decide) ?_
        refine lv_istore_n (lv' := [(3, .int (0 : Int32)), (0, .ref (a o)), (1, .int x1), (2, .int x2)]) hx hb dX6_text_33 rfl hl (by decide) rfl (fun ls hl => ?_)
        exact L34  fuel ((0 : Int32), (md_set_textSizes w (upd (md_textSizes w) (ix x1) x2))) _ hf hF _ _ _ hW (lv_sub hl [1, 2, 3, 0] rfl)
      · replace hf := if_f c16_3 hf
        refine lv_aload_n hx hb dX6_text_19 rfl (lv_at hl 0 rfl) ?_
        refine lv_iconst (v := 5) hx hb dX6_text_20 (by decide) ?_
        obtain ⟨q21, hq21⟩ := ob_s hf
        replace hf := hq21.2
        replace hq21 := hq21.1
        refine cW1 (rest := []) (ws1 := (bMd G a o q21.2)) (st1 := [.int q21.1]) C0 hW hl.1 (c_X6_meets l G a o w (5 : Int32) _ hq21) cb_X6_meets mm_X6_97 fst_Md 0 6 rfl rfl rfl (by decide) rfl rfl (Nat.le_of_ble_eq_true rfl) ⟨Nat.zero_le _, Nat.zero_le _⟩ dX6_text_21 rfl (fun H locs hW => ?_)
        have e1 := Option.some.inj hf
        subst e1
        have hF : ((q21.1, q21.2) : Int32 × Md) = out := hF
        subst hF
        exact k_iret C0 hW dX6_text_24
    · replace hf := if_f c10_2 hf
      refine lv_iconst (v := -1) hx hb dX6_text_13 (by decide) ?_
      have e1 := Option.some.inj hf
      subst e1
      have hF : (((-1 : Int32), w) : Int32 × Md) = out := hF
      subst hF
      exact k_iret C0 hW dX6_text_14

def f_X6_turned_J76 (w : Md) (x1 : Int32) (x2 : Int32) : Option (Int32 × Md) :=
  Option.bind (f_X6_tells w x2 x1) (fun q79 => some (q79.1, q79.2))
def f_X6_turned_J69 (w : Md) (x1 : Int32) (x3 : Int32) (t0 : Int32) : Option ((Int32 × Int32 × Int32 × Md) ⊕ (Int32 × Md)) :=
  some (Sum.inl (x1, t0, (x3 + (1 : Int32)), w))
def f_X6_turned_J56 (w : Md) (x2 : Int32) (x3 : Int32) (x4 : Int32) (t0 : Int32) : Option ((Int32 × Int32 × Int32 × Md) ⊕ (Int32 × Md)) :=
  if x2 ≤ x4 then (f_X6_turned_J69 w t0 x3 x2) else (f_X6_turned_J69 w t0 x3 x4)
def f_X6_turned_B17 (x1 : Int32) (x2 : Int32) (x3 : Int32) (w : Md) : Option ((Int32 × Int32 × Int32 × Md) ⊕ (Int32 × Md)) :=
  if (md_n w) ≤ x3 then (Option.map Sum.inr (f_X6_turned_J76 w x1 x2)) else (Option.bind (f_X6_copyNow w) (fun q26 => Option.bind (f_X6_limpsIn (md_set_tried q26 (upd (md_tried q26) 1 x3)) (20 : Int32) (1 : Int32)) (fun q40 => if x2 ≤ q40.1 then (f_X6_turned_J56 q40.2 x2 x3 q40.1 x1) else (f_X6_turned_J56 q40.2 x2 x3 q40.1 x3))))
def f_X6_turned_L17 (sg : Int32 × Int32 × Int32 × Md) : Option ((Int32 × Int32 × Int32 × Md) ⊕ (Int32 × Md)) := f_X6_turned_B17 sg.1 sg.2.1 sg.2.2.1 sg.2.2.2
def f_X6_turned (w : Md) : Option (Int32 × Md) :=
  if (md_n w) = 0 then (some ((-4 : Int32), w)) else (lp (f_X6_turned_L17) fuel ((0 : Int32), (1000000 : Int32), (0 : Int32), w))
set_option maxRecDepth 100000 in
set_option maxHeartbeats 1000000 in
theorem c_X6_turned (l : Launch) (G : GG) (a : Nat → Nat) (o : Nat) (w : Md) (out : Int32 × Md) (hf : f_X6_turned w = some out) : Cn l G 5 yX6_turned cX6_turned 5 (some .int) [.ref (a o)] (bMd G a o w) (some (.int out.1)) (bMd G a o out.2) := by
  refine cn_start (by decide) (Nat.le_of_ble_eq_true rfl) ?_
  intro p e s m below meth c A ls C0 hW hl
  have hx := C0.1
  have hb := C0.2.1
  have hl : lv_has ls 5 [(0, .ref (a o))] := hl
  have J76 : ∀ (x1 : Int32) (x2 : Int32) (w : Md) (r : Int32 × Md), f_X6_turned_J76 w x1 x2 = some r → (fun (r : Int32 × Md) => r = out) r → ∀ (H : Heap) (locs : List Loc) (ls : Array Slot), Wd G A s.heap H (bMd G a o w) locs → lv_has ls 5 [(0, .ref (a o)), (1, .int x1), (2, .int x2)] → WW p l e 5 s m [.ref (a o)] below meth c G A (some (.int out.1)) ((bMd G a o out.2)) H locs 76 ls [] := by
    intro x1 x2 w r hf hF H locs ls hW hl
    unfold f_X6_turned_J76 at hf
    refine lv_aload_n hx hb dX6_turned_76 rfl (lv_at hl 0 rfl) ?_
    refine lv_iload_n hx hb dX6_turned_77 rfl (lv_at hl 2 rfl) ?_
    refine lv_iload_n hx hb dX6_turned_78 rfl (lv_at hl 1 rfl) ?_
    obtain ⟨q79, hq79⟩ := ob_s hf
    replace hf := hq79.2
    replace hq79 := hq79.1
    refine cW1 (rest := []) (ws1 := (bMd G a o q79.2)) (st1 := [.int q79.1]) C0 hW hl.1 (c_X6_tells l G a o w x2 x1 _ hq79) cb_X6_tells mm_X6_105 fst_Md 0 6 rfl rfl rfl (by decide) rfl rfl (Nat.le_of_ble_eq_true rfl) ⟨Nat.zero_le _, Nat.zero_le _⟩ dX6_turned_79 rfl (fun H locs hW => ?_)
    have e1 := Option.some.inj hf
    subst e1
    have hF : ((q79.1, q79.2) : Int32 × Md) = out := hF
    subst hF
    exact k_iret C0 hW dX6_turned_82
  have L17 : ∀ (k8 : Nat) (sg : Int32 × Int32 × Int32 × Md) (o9 : Int32 × Md), lp (f_X6_turned_L17) k8 sg = some o9 → (fun (r : Int32 × Md) => r = out) o9 → (fun (sg : Int32 × Int32 × Int32 × Md) => ∀ (H : Heap) (locs : List Loc) (ls : Array Slot), Wd G A s.heap H (bMd G a o sg.2.2.2) locs → lv_has ls 5 [(0, .ref (a o)), (1, .int sg.1), (2, .int sg.2.1), (3, .int sg.2.2.1)] → WW p l e 5 s m [.ref (a o)] below meth c G A (some (.int out.1)) ((bMd G a o out.2)) H locs 17 ls []) sg := by
    have J69 : ∀ (x1 : Int32) (x3 : Int32) (t0 : Int32) (w : Md) (r : (Int32 × Int32 × Int32 × Md) ⊕ (Int32 × Md)), f_X6_turned_J69 w x1 x3 t0 = some r → (Sum.elim (fun (sg : Int32 × Int32 × Int32 × Md) => ∀ (H : Heap) (locs : List Loc) (ls : Array Slot), Wd G A s.heap H (bMd G a o sg.2.2.2) locs → lv_has ls 5 [(0, .ref (a o)), (1, .int sg.1), (2, .int sg.2.1), (3, .int sg.2.2.1)] → WW p l e 5 s m [.ref (a o)] below meth c G A (some (.int out.1)) ((bMd G a o out.2)) H locs 17 ls []) (fun (r : Int32 × Md) => r = out)) r → ∀ (H : Heap) (locs : List Loc) (ls : Array Slot), Wd G A s.heap H (bMd G a o w) locs → lv_has ls 5 [(0, .ref (a o)), (1, .int x1), (3, .int x3)] → WW p l e 5 s m [.ref (a o)] below meth c G A (some (.int out.1)) ((bMd G a o out.2)) H locs 69 ls [.int t0] := by
      intro x1 x3 t0 w r hf hF H locs ls hW hl
      unfold f_X6_turned_J69 at hf
      refine lv_istore_n (lv' := [(2, .int t0), (0, .ref (a o)), (1, .int x1), (3, .int x3)]) hx hb dX6_turned_69 rfl hl (by decide) rfl (fun ls hl => ?_)
      refine lv_iinc (v := (x3 + (1 : Int32))) (lv' := [(3, .int (x3 + (1 : Int32))), (2, .int t0), (0, .ref (a o)), (1, .int x1)]) hx hb dX6_turned_70 hl (k := 3) rfl rfl (by decide) rfl (fun ls hl => ?_)
      refine lv_goto (tgt := 17) hx hb dX6_turned_73 (by decide) ?_
      have e1 := Option.some.inj hf
      subst e1
      exact (elim_l hF) _ _ _ hW (lv_sub hl [2, 3, 1, 0] rfl)
    have J56 : ∀ (x2 : Int32) (x3 : Int32) (x4 : Int32) (t0 : Int32) (w : Md) (r : (Int32 × Int32 × Int32 × Md) ⊕ (Int32 × Md)), f_X6_turned_J56 w x2 x3 x4 t0 = some r → (Sum.elim (fun (sg : Int32 × Int32 × Int32 × Md) => ∀ (H : Heap) (locs : List Loc) (ls : Array Slot), Wd G A s.heap H (bMd G a o sg.2.2.2) locs → lv_has ls 5 [(0, .ref (a o)), (1, .int sg.1), (2, .int sg.2.1), (3, .int sg.2.2.1)] → WW p l e 5 s m [.ref (a o)] below meth c G A (some (.int out.1)) ((bMd G a o out.2)) H locs 17 ls []) (fun (r : Int32 × Md) => r = out)) r → ∀ (H : Heap) (locs : List Loc) (ls : Array Slot), Wd G A s.heap H (bMd G a o w) locs → lv_has ls 5 [(0, .ref (a o)), (2, .int x2), (3, .int x3), (4, .int x4)] → WW p l e 5 s m [.ref (a o)] below meth c G A (some (.int out.1)) ((bMd G a o out.2)) H locs 56 ls [.int t0] := by
      intro x2 x3 x4 t0 w r hf hF H locs ls hW hl
      unfold f_X6_turned_J56 at hf
      refine lv_istore_n (lv' := [(1, .int t0), (0, .ref (a o)), (2, .int x2), (3, .int x3), (4, .int x4)]) hx hb dX6_turned_56 rfl hl (by decide) rfl (fun ls hl => ?_)
      refine lv_iload hx hb dX6_turned_57 (lv_at hl 4 rfl) ?_
      refine lv_iload_n hx hb dX6_turned_59 rfl (lv_at hl 2 rfl) ?_
      refine lv_icmp_ge (tgt := 68) hx hb dX6_turned_60 (by decide) (fun c60_4 => ?_) (fun c60_4 => ?_)
      · replace hf := if_t c60_4 hf
        refine lv_iload_n hx hb dX6_turned_68 rfl (lv_at hl 2 rfl) ?_
        exact J69 _ _ _ _ _ hf hF _ _ _ hW (lv_sub hl [1, 0, 3] rfl)
      · replace hf := if_f c60_4 hf
        refine lv_iload hx hb dX6_turned_63 (lv_at hl 4 rfl) ?_
        refine lv_goto (tgt := 69) hx hb dX6_turned_65 (by decide) ?_
        exact J69 _ _ _ _ _ hf hF _ _ _ hW (lv_sub hl [1, 0, 3] rfl)
    have B17 : ∀ (x1 : Int32) (x2 : Int32) (x3 : Int32) (w : Md) (r : (Int32 × Int32 × Int32 × Md) ⊕ (Int32 × Md)), f_X6_turned_B17 x1 x2 x3 w = some r → (Sum.elim (fun (sg : Int32 × Int32 × Int32 × Md) => ∀ (H : Heap) (locs : List Loc) (ls : Array Slot), Wd G A s.heap H (bMd G a o sg.2.2.2) locs → lv_has ls 5 [(0, .ref (a o)), (1, .int sg.1), (2, .int sg.2.1), (3, .int sg.2.2.1)] → WW p l e 5 s m [.ref (a o)] below meth c G A (some (.int out.1)) ((bMd G a o out.2)) H locs 17 ls []) (fun (r : Int32 × Md) => r = out)) r → ∀ (H : Heap) (locs : List Loc) (ls : Array Slot), Wd G A s.heap H (bMd G a o w) locs → lv_has ls 5 [(0, .ref (a o)), (1, .int x1), (2, .int x2), (3, .int x3)] → WW p l e 5 s m [.ref (a o)] below meth c G A (some (.int out.1)) ((bMd G a o out.2)) H locs 17 ls [] := by
      intro x1 x2 x3 w r hf hF H locs ls hW hl
      unfold f_X6_turned_B17 at hf
      refine lv_iload_n hx hb dX6_turned_17 rfl (lv_at hl 3 rfl) ?_
      refine lv_aload_n hx hb dX6_turned_18 rfl (lv_at hl 0 rfl) ?_
      refine k_get C0 hW 6 18 0 (v := .int (md_n w)) rfl (by decide) inX6 mf_X6_142 rfl rfl dX6_turned_19 ?_
      refine lv_icmp_ge (tgt := 76) hx hb dX6_turned_22 (by decide) (fun c22_2 => ?_) (fun c22_2 => ?_)
      · replace hf := if_t c22_2 hf
        obtain ⟨r2, e2⟩ := om_s hf
        replace hf := e2.1
        replace e2 := e2.2
        subst e2
        replace hF := elim_r hF
        exact J76 _ _ _ _ hf hF _ _ _ hW (lv_sub hl [0, 1, 2] rfl)
      · replace hf := if_f c22_2 hf
        refine lv_aload_n hx hb dX6_turned_25 rfl (lv_at hl 0 rfl) ?_
        obtain ⟨q26, hq26⟩ := ob_s hf
        replace hf := hq26.2
        replace hq26 := hq26.1
        refine cW1 (rest := []) (ws1 := (bMd G a o q26)) (st1 := []) C0 hW hl.1 (c_X6_copyNow l G a o w _ hq26) cb_X6_copyNow mm_X6_203 fst_Md 0 6 rfl rfl rfl (by decide) rfl rfl (Nat.le_of_ble_eq_true rfl) ⟨Nat.zero_le _, Nat.zero_le _⟩ dX6_turned_26 rfl (fun H locs hW => ?_)
        refine lv_aload_n hx hb dX6_turned_29 rfl (lv_at hl 0 rfl) ?_
        refine k_get C0 hW 6 25 0 (v := .ref (a (o + 16))) rfl (by decide) inX6 mf_X6_60 rfl rfl dX6_turned_30 ?_
        refine lv_iconst (v := 1) hx hb dX6_turned_33 (by decide) ?_
        refine lv_iload_n hx hb dX6_turned_34 rfl (lv_at hl 3 rfl) ?_
        refine k_iast C0 hW 16 1 rfl (inb_in rfl) rfl dX6_turned_35 (fun H locs hW => ?_)
        have hW : Wd G A s.heap H (bMd G a o (md_set_tried q26 (upd (md_tried q26) 1 x3))) locs := hW
        refine lv_aload_n hx hb dX6_turned_36 rfl (lv_at hl 0 rfl) ?_
        refine lv_bipush (v := 20) hx hb dX6_turned_37 (by decide) ?_
        refine lv_iconst (v := 1) hx hb dX6_turned_39 (by decide) ?_
        obtain ⟨q40, hq40⟩ := ob_s hf
        replace hf := hq40.2
        replace hq40 := hq40.1
        refine cW1 (rest := []) (ws1 := (bMd G a o q40.2)) (st1 := [.int q40.1]) C0 hW hl.1 (c_X6_limpsIn l G a o (md_set_tried q26 (upd (md_tried q26) 1 x3)) (20 : Int32) (1 : Int32) _ hq40) cb_X6_limpsIn mm_X6_206 fst_Md 0 6 rfl rfl rfl (by decide) rfl rfl (Nat.le_of_ble_eq_true rfl) ⟨Nat.zero_le _, Nat.zero_le _⟩ dX6_turned_40 rfl (fun H locs hW => ?_)
        refine lv_istore (lv' := [(4, .int q40.1), (0, .ref (a o)), (1, .int x1), (2, .int x2), (3, .int x3)]) hx hb dX6_turned_43 hl (by decide) rfl (fun ls hl => ?_)
        refine lv_iload hx hb dX6_turned_45 (lv_at hl 0 rfl) ?_
        refine lv_iload_n hx hb dX6_turned_47 rfl (lv_at hl 3 rfl) ?_
        refine lv_icmp_ge (tgt := 55) hx hb dX6_turned_48 (by decide) (fun c48_3 => ?_) (fun c48_3 => ?_)
        · replace hf := if_t c48_3 hf
          refine lv_iload_n hx hb dX6_turned_55 rfl (lv_at hl 2 rfl) ?_
          exact J56 _ _ _ _ _ _ hf hF _ _ _ hW (lv_sub hl [1, 3, 4, 0] rfl)
        · replace hf := if_f c48_3 hf
          refine lv_iload_n hx hb dX6_turned_51 rfl (lv_at hl 4 rfl) ?_
          refine lv_goto (tgt := 56) hx hb dX6_turned_52 (by decide) ?_
          exact J56 _ _ _ _ _ _ hf hF _ _ _ hW (lv_sub hl [1, 3, 4, 0] rfl)
    exact lp_sound (fun sg r hb hz => B17 sg.1 sg.2.1 sg.2.2.1 sg.2.2.2 r hb hz)
  obtain ⟨r, hr⟩ : ∃ r, f_X6_turned w = some r ∧ r = out := ⟨out, hf, rfl⟩
  replace hf := hr.1
  have hF := hr.2
  clear hr
  unfold f_X6_turned at hf
  refine lv_aload_n hx hb dX6_turned_0 rfl (lv_at hl 0 rfl) ?_
  refine k_get C0 hW 6 18 0 (v := .int (md_n w)) rfl (by decide) inX6 mf_X6_142 rfl rfl dX6_turned_1 ?_
  refine lv_if_ne (tgt := 10) hx hb dX6_turned_4 (by decide) (fun c4_1 => ?_) (fun c4_1 => ?_)
  · replace hf := if_f c4_1 hf
    refine lv_iconst (v := 0) hx hb dX6_turned_10 (by decide) ?_
    refine lv_istore_n (lv' := [(1, .int (0 : Int32)), (0, .ref (a o))]) hx hb dX6_turned_11 rfl hl (by decide) rfl (fun ls hl => ?_)
    refine lv_ldc hx hb C0.2.2.2.2.2.1 (C0.2.2.2.2.2.2.1 _ mk_X6_223) dX6_turned_12 ?_
    refine lv_istore_n (lv' := [(2, .int (1000000 : Int32)), (1, .int (0 : Int32)), (0, .ref (a o))]) hx hb dX6_turned_14 rfl hl (by decide) rfl (fun ls hl => ?_)
    refine lv_iconst (v := 0) hx hb dX6_turned_15 (by decide) ?_
    refine lv_istore_n (lv' := [(3, .int (0 : Int32)), (2, .int (1000000 : Int32)), (1, .int (0 : Int32)), (0, .ref (a o))]) hx hb dX6_turned_16 rfl hl (by decide) rfl (fun ls hl => ?_)
    exact L17  fuel ((0 : Int32), (1000000 : Int32), (0 : Int32), w) _ hf hF _ _ _ hW (lv_sub hl [3, 2, 1, 0] rfl)
  · replace hf := if_t c4_1 hf
    refine lv_bipush (v := -4) hx hb dX6_turned_7 (by decide) ?_
    have e1 := Option.some.inj hf
    subst e1
    have hF : (((-4 : Int32), w) : Int32 × Md) = out := hF
    subst hF
    exact k_iret C0 hW dX6_turned_9

def f_X6_undo_J56 (w : Md) (x1 : Int32) (x2 : Int32) : Option (Int32 × Md) :=
  some (x2, (md_set_deedMany w x1))
def f_X6_undo_B23 (x1 : Int32) (x2 : Int32) (x3 : Int32) (w : Md) : Option ((Int32 × Md) ⊕ (Int32 × Md)) :=
  if (12 : Int32) ≤ x3 then (Option.map Sum.inr (f_X6_undo_J56 w x1 x2)) else (if x2 ≤ 0 then (Option.map Sum.inr (f_X6_undo_J56 w x1 x2)) else (gd (inb (((12 : Int32) * x1) + x3) 480) (gd (inb x3 12) (some (Sum.inl ((x3 + (1 : Int32)), (md_set_now w (upd (md_now w) (ix x3) ((md_log w) (ix (((12 : Int32) * x1) + x3)))))))))))
def f_X6_undo_L23 (x1 : Int32) (x2 : Int32) (sg : Int32 × Md) : Option ((Int32 × Md) ⊕ (Int32 × Md)) := f_X6_undo_B23 x1 x2 sg.1 sg.2
def f_X6_undo (w : Md) (x1 : Int32) : Option (Int32 × Md) :=
  Option.bind (f_X6_in x1 (0 : Int32) (md_deedMany w)) (fun q6 => if q6 = 0 then (some ((-1 : Int32), w)) else (lp (f_X6_undo_L23 x1 ((md_deedMany w) - x1)) fuel ((0 : Int32), w)))
set_option maxRecDepth 100000 in
set_option maxHeartbeats 1000000 in
theorem c_X6_undo (l : Launch) (G : GG) (a : Nat → Nat) (o : Nat) (w : Md) (x1 : Int32) (out : Int32 × Md) (hf : f_X6_undo w x1 = some out) : Cn l G 1 yX6_undo cX6_undo 4 (some .int) [.ref (a o), .int x1] (bMd G a o w) (some (.int out.1)) (bMd G a o out.2) := by
  refine cn_start (by decide) (Nat.le_of_ble_eq_true rfl) ?_
  intro p e s m below meth c A ls C0 hW hl
  have hx := C0.1
  have hb := C0.2.1
  have hl : lv_has ls 4 [(0, .ref (a o)), (1, .int x1)] := hl
  have J56 : ∀ (x2 : Int32) (w : Md) (r : Int32 × Md), f_X6_undo_J56 w x1 x2 = some r → (fun (r : Int32 × Md) => r = out) r → ∀ (H : Heap) (locs : List Loc) (ls : Array Slot), Wd G A s.heap H (bMd G a o w) locs → lv_has ls 4 [(0, .ref (a o)), (1, .int x1), (2, .int x2)] → WW p l e 1 s m [.ref (a o), .int x1] below meth c G A (some (.int out.1)) ((bMd G a o out.2)) H locs 56 ls [] := by
    intro x2 w r hf hF H locs ls hW hl
    unfold f_X6_undo_J56 at hf
    refine lv_aload_n hx hb dX6_undo_56 rfl (lv_at hl 0 rfl) ?_
    refine lv_iload_n hx hb dX6_undo_57 rfl (lv_at hl 1 rfl) ?_
    refine k_put C0 hW 6 26 0 rfl (by decide) inX6 tyX6_ok nmX6 mf_X6_148 rfl rfl rfl rfl (Nat.le_of_ble_eq_true rfl) dX6_undo_58 (fun H locs hW => ?_)
    have hW : Wd G A s.heap H (bMd G a o (md_set_deedMany w x1)) locs := hW
    refine lv_iload_n hx hb dX6_undo_61 rfl (lv_at hl 2 rfl) ?_
    have e1 := Option.some.inj hf
    subst e1
    have hF : ((x2, (md_set_deedMany w x1)) : Int32 × Md) = out := hF
    subst hF
    exact k_iret C0 hW dX6_undo_62
  have L23 : ∀ (x2 : Int32) (k8 : Nat) (sg : Int32 × Md) (o9 : Int32 × Md), lp (f_X6_undo_L23 x1 x2) k8 sg = some o9 → (fun (r : Int32 × Md) => r = out) o9 → (fun (sg : Int32 × Md) => ∀ (H : Heap) (locs : List Loc) (ls : Array Slot), Wd G A s.heap H (bMd G a o sg.2) locs → lv_has ls 4 [(0, .ref (a o)), (1, .int x1), (2, .int x2), (3, .int sg.1)] → WW p l e 1 s m [.ref (a o), .int x1] below meth c G A (some (.int out.1)) ((bMd G a o out.2)) H locs 23 ls []) sg := by
    intro x2
    have B23 : ∀ (x3 : Int32) (w : Md) (r : (Int32 × Md) ⊕ (Int32 × Md)), f_X6_undo_B23 x1 x2 x3 w = some r → (Sum.elim (fun (sg : Int32 × Md) => ∀ (H : Heap) (locs : List Loc) (ls : Array Slot), Wd G A s.heap H (bMd G a o sg.2) locs → lv_has ls 4 [(0, .ref (a o)), (1, .int x1), (2, .int x2), (3, .int sg.1)] → WW p l e 1 s m [.ref (a o), .int x1] below meth c G A (some (.int out.1)) ((bMd G a o out.2)) H locs 23 ls []) (fun (r : Int32 × Md) => r = out)) r → ∀ (H : Heap) (locs : List Loc) (ls : Array Slot), Wd G A s.heap H (bMd G a o w) locs → lv_has ls 4 [(0, .ref (a o)), (1, .int x1), (2, .int x2), (3, .int x3)] → WW p l e 1 s m [.ref (a o), .int x1] below meth c G A (some (.int out.1)) ((bMd G a o out.2)) H locs 23 ls [] := by
      intro x3 w r hf hF H locs ls hW hl
      unfold f_X6_undo_B23 at hf
      refine lv_iload_n hx hb dX6_undo_23 rfl (lv_at hl 3 rfl) ?_
      refine lv_bipush (v := 12) hx hb dX6_undo_24 (by decide) ?_
      refine lv_icmp_ge (tgt := 56) hx hb dX6_undo_26 (by decide) (fun c26_2 => ?_) (fun c26_2 => ?_)
      · replace hf := if_t c26_2 hf
        obtain ⟨r2, e2⟩ := om_s hf
        replace hf := e2.1
        replace e2 := e2.2
        subst e2
        replace hF := elim_r hF
        exact J56 _ _ _ hf hF _ _ _ hW (lv_sub hl [0, 1, 2] rfl)
      · replace hf := if_f c26_2 hf
        refine lv_iload_n hx hb dX6_undo_29 rfl (lv_at hl 2 rfl) ?_
        refine lv_if_le (tgt := 56) hx hb dX6_undo_30 (by decide) (fun c30_3 => ?_) (fun c30_3 => ?_)
        · replace hf := if_t c30_3 hf
          obtain ⟨r2, e2⟩ := om_s hf
          replace hf := e2.1
          replace e2 := e2.2
          subst e2
          replace hF := elim_r hF
          exact J56 _ _ _ hf hF _ _ _ hW (lv_sub hl [0, 1, 2] rfl)
        · replace hf := if_f c30_3 hf
          refine lv_aload_n hx hb dX6_undo_33 rfl (lv_at hl 0 rfl) ?_
          refine k_get C0 hW 6 24 0 (v := .ref (a (o + 15))) rfl (by decide) inX6 mf_X6_57 rfl rfl dX6_undo_34 ?_
          refine lv_iload_n hx hb dX6_undo_37 rfl (lv_at hl 3 rfl) ?_
          refine lv_aload_n hx hb dX6_undo_38 rfl (lv_at hl 0 rfl) ?_
          refine k_get C0 hW 6 27 0 (v := .ref (a (o + 17))) rfl (by decide) inX6 mf_X6_63 rfl rfl dX6_undo_39 ?_
          refine lv_bipush (v := 12) hx hb dX6_undo_42 (by decide) ?_
          refine lv_iload_n hx hb dX6_undo_44 rfl (lv_at hl 1 rfl) ?_
          refine lv_imul hx hb dX6_undo_45 ?_
          refine lv_iload_n hx hb dX6_undo_46 rfl (lv_at hl 3 rfl) ?_
          refine lv_iadd hx hb dX6_undo_47 ?_
          have g48_4 := (gd_some hf).1; replace hf := (gd_some hf).2
          refine k_iald C0 hW 17 (ix (((12 : Int32) * x1) + x3)) rfl (inb_in g48_4) rfl dX6_undo_48 ?_
          have g49_5 := (gd_some hf).1; replace hf := (gd_some hf).2
          refine k_iast C0 hW 15 (ix x3) rfl (inb_in g49_5) rfl dX6_undo_49 (fun H locs hW => ?_)
          have hW : Wd G A s.heap H (bMd G a o (md_set_now w (upd (md_now w) (ix x3) ((md_log w) (ix (((12 : Int32) * x1) + x3)))))) locs := hW
          refine lv_iinc (v := (x3 + (1 : Int32))) (lv' := [(3, .int (x3 + (1 : Int32))), (0, .ref (a o)), (1, .int x1), (2, .int x2)]) hx hb dX6_undo_50 hl (k := 3) rfl rfl (by decide) rfl (fun ls hl => ?_)
          refine lv_goto (tgt := 23) hx hb dX6_undo_53 (by decide) ?_
          have e1 := Option.some.inj hf
          subst e1
          exact (elim_l hF) _ _ _ hW (lv_sub hl [1, 2, 3, 0] rfl)
    exact lp_sound (fun sg r hb hz => B23 sg.1 sg.2 r hb hz)
  obtain ⟨r, hr⟩ : ∃ r, f_X6_undo w x1 = some r ∧ r = out := ⟨out, hf, rfl⟩
  replace hf := hr.1
  have hF := hr.2
  clear hr
  unfold f_X6_undo at hf
  refine lv_iload_n hx hb dX6_undo_0 rfl (lv_at hl 1 rfl) ?_
  refine lv_iconst (v := 0) hx hb dX6_undo_1 (by decide) ?_
  refine lv_aload_n hx hb dX6_undo_2 rfl (lv_at hl 0 rfl) ?_
  refine k_get C0 hW 6 26 0 (v := .int (md_deedMany w)) rfl (by decide) inX6 mf_X6_148 rfl rfl dX6_undo_3 ?_
  obtain ⟨q6, hq6⟩ := ob_s hf
  replace hf := hq6.2
  replace hq6 := hq6.1
  refine cS0 (rest := []) (st1 := [.int q6]) C0 hW hl.1 (c_X6_in l G x1 (0 : Int32) (md_deedMany w) _ hq6) cb_X6_in mm_X6_89 [] rfl rfl (by decide) rfl rfl (Nat.le_of_ble_eq_true rfl) ⟨Nat.zero_le _, Nat.zero_le _⟩ dX6_undo_6 rfl (fun H locs hW => ?_)
  refine lv_if_ne (tgt := 14) hx hb dX6_undo_9 (by decide) (fun c9_1 => ?_) (fun c9_1 => ?_)
  · replace hf := if_f c9_1 hf
    refine lv_aload_n hx hb dX6_undo_14 rfl (lv_at hl 0 rfl) ?_
    refine k_get C0 hW 6 26 0 (v := .int (md_deedMany w)) rfl (by decide) inX6 mf_X6_148 rfl rfl dX6_undo_15 ?_
    refine lv_iload_n hx hb dX6_undo_18 rfl (lv_at hl 1 rfl) ?_
    refine lv_isub hx hb dX6_undo_19 ?_
    refine lv_istore_n (lv' := [(2, .int ((md_deedMany w) - x1)), (0, .ref (a o)), (1, .int x1)]) hx hb dX6_undo_20 rfl hl (by decide) rfl (fun ls hl => ?_)
    refine lv_iconst (v := 0) hx hb dX6_undo_21 (by decide) ?_
    refine lv_istore_n (lv' := [(3, .int (0 : Int32)), (2, .int ((md_deedMany w) - x1)), (0, .ref (a o)), (1, .int x1)]) hx hb dX6_undo_22 rfl hl (by decide) rfl (fun ls hl => ?_)
    exact L23 _ fuel ((0 : Int32), w) _ hf hF _ _ _ hW (lv_sub hl [2, 3, 1, 0] rfl)
  · replace hf := if_t c9_1 hf
    refine lv_iconst (v := -1) hx hb dX6_undo_12 (by decide) ?_
    have e1 := Option.some.inj hf
    subst e1
    have hF : (((-1 : Int32), w) : Int32 × Md) = out := hF
    subst hF
    exact k_iret C0 hW dX6_undo_13

def f_X6_upper (w : Md) : Option (Int64) :=
  some (md_above w)
set_option maxRecDepth 100000 in
set_option maxHeartbeats 1000000 in
theorem c_X6_upper (l : Launch) (G : GG) (a : Nat → Nat) (o : Nat) (w : Md) (out : Int64) (hf : f_X6_upper w = some out) : Cn l G 0 yX6_upper cX6_upper 1 (some .long) [.ref (a o)] (bMd G a o w) (some (.long out)) (bMd G a o w) := by
  refine cn_start (by decide) (Nat.le_of_ble_eq_true rfl) ?_
  intro p e s m below meth c A ls C0 hW hl
  have hx := C0.1
  have hb := C0.2.1
  have hl : lv_has ls 1 [(0, .ref (a o))] := hl
  obtain ⟨r, hr⟩ : ∃ r, f_X6_upper w = some r ∧ r = out := ⟨out, hf, rfl⟩
  replace hf := hr.1
  have hF := hr.2
  clear hr
  unfold f_X6_upper at hf
  refine lv_aload_n hx hb dX6_upper_0 rfl (lv_at hl 0 rfl) ?_
  refine k_get C0 hW 6 1 0 (v := .long (md_above w)) rfl (by decide) inX6 mf_X6_86 rfl rfl dX6_upper_1 ?_
  have e1 := Option.some.inj hf
  subst e1
  have hF : ((md_above w) : Int64) = out := hF
  subst hF
  exact k_lret C0 hW dX6_upper_4

def f_X6_weather (w : Md) : Option (Int32 × Md) :=
  Option.bind (f_X6_need w) (fun q1 => if 0 ≤ q1 then (Option.bind (f_X6_remember w) (fun q13 => some (((upd (md_now q13) 2 ((1 : Int32) - ((md_now q13) 2))) 2), (md_set_now q13 (upd (md_now q13) 2 ((1 : Int32) - ((md_now q13) 2))))))) else (Option.bind (f_X6_need w) (fun q8 => some (q8, w))))
set_option maxRecDepth 100000 in
set_option maxHeartbeats 1000000 in
theorem c_X6_weather (l : Launch) (G : GG) (a : Nat → Nat) (o : Nat) (w : Md) (out : Int32 × Md) (hf : f_X6_weather w = some out) : Cn l G 1 yX6_weather cX6_weather 1 (some .int) [.ref (a o)] (bMd G a o w) (some (.int out.1)) (bMd G a o out.2) := by
  refine cn_start (by decide) (Nat.le_of_ble_eq_true rfl) ?_
  intro p e s m below meth c A ls C0 hW hl
  have hx := C0.1
  have hb := C0.2.1
  have hl : lv_has ls 1 [(0, .ref (a o))] := hl
  obtain ⟨r, hr⟩ : ∃ r, f_X6_weather w = some r ∧ r = out := ⟨out, hf, rfl⟩
  replace hf := hr.1
  have hF := hr.2
  clear hr
  unfold f_X6_weather at hf
  refine lv_aload_n hx hb dX6_weather_0 rfl (lv_at hl 0 rfl) ?_
  obtain ⟨q1, hq1⟩ := ob_s hf
  replace hf := hq1.2
  replace hq1 := hq1.1
  refine cW1 (rest := []) (ws1 := (bMd G a o w)) (st1 := [.int q1]) C0 hW hl.1 (c_X6_need l G a o w _ hq1) cb_X6_need mm_X6_191 fst_Md 0 6 rfl rfl rfl (by decide) rfl rfl (Nat.le_of_ble_eq_true rfl) ⟨Nat.zero_le _, Nat.zero_le _⟩ dX6_weather_1 rfl (fun H locs hW => ?_)
  refine lv_if_ge (tgt := 12) hx hb dX6_weather_4 (by decide) (fun c4_1 => ?_) (fun c4_1 => ?_)
  · replace hf := if_t c4_1 hf
    refine lv_aload_n hx hb dX6_weather_12 rfl (lv_at hl 0 rfl) ?_
    obtain ⟨q13, hq13⟩ := ob_s hf
    replace hf := hq13.2
    replace hq13 := hq13.1
    refine cW1 (rest := []) (ws1 := (bMd G a o q13)) (st1 := []) C0 hW hl.1 (c_X6_remember l G a o w _ hq13) cb_X6_remember mm_X6_185 fst_Md 0 6 rfl rfl rfl (by decide) rfl rfl (Nat.le_of_ble_eq_true rfl) ⟨Nat.zero_le _, Nat.zero_le _⟩ dX6_weather_13 rfl (fun H locs hW => ?_)
    refine lv_aload_n hx hb dX6_weather_16 rfl (lv_at hl 0 rfl) ?_
    refine k_get C0 hW 6 24 0 (v := .ref (a (o + 15))) rfl (by decide) inX6 mf_X6_57 rfl rfl dX6_weather_17 ?_
    refine lv_iconst (v := 2) hx hb dX6_weather_20 (by decide) ?_
    refine lv_iconst (v := 1) hx hb dX6_weather_21 (by decide) ?_
    refine lv_aload_n hx hb dX6_weather_22 rfl (lv_at hl 0 rfl) ?_
    refine k_get C0 hW 6 24 0 (v := .ref (a (o + 15))) rfl (by decide) inX6 mf_X6_57 rfl rfl dX6_weather_23 ?_
    refine lv_iconst (v := 2) hx hb dX6_weather_26 (by decide) ?_
    refine k_iald C0 hW 15 2 rfl (inb_in rfl) rfl dX6_weather_27 ?_
    refine lv_isub hx hb dX6_weather_28 ?_
    refine k_iast C0 hW 15 2 rfl (inb_in rfl) rfl dX6_weather_29 (fun H locs hW => ?_)
    have hW : Wd G A s.heap H (bMd G a o (md_set_now q13 (upd (md_now q13) 2 ((1 : Int32) - ((md_now q13) 2))))) locs := hW
    refine lv_aload_n hx hb dX6_weather_30 rfl (lv_at hl 0 rfl) ?_
    refine k_get C0 hW 6 24 0 (v := .ref (a (o + 15))) rfl (by decide) inX6 mf_X6_57 rfl rfl dX6_weather_31 ?_
    refine lv_iconst (v := 2) hx hb dX6_weather_34 (by decide) ?_
    refine k_iald C0 hW 15 2 rfl (inb_in rfl) rfl dX6_weather_35 ?_
    have e1 := Option.some.inj hf
    subst e1
    have hF : ((((upd (md_now q13) 2 ((1 : Int32) - ((md_now q13) 2))) 2), (md_set_now q13 (upd (md_now q13) 2 ((1 : Int32) - ((md_now q13) 2))))) : Int32 × Md) = out := hF
    subst hF
    exact k_iret C0 hW dX6_weather_36
  · replace hf := if_f c4_1 hf
    refine lv_aload_n hx hb dX6_weather_7 rfl (lv_at hl 0 rfl) ?_
    obtain ⟨q8, hq8⟩ := ob_s hf
    replace hf := hq8.2
    replace hq8 := hq8.1
    refine cW1 (rest := []) (ws1 := (bMd G a o w)) (st1 := [.int q8]) C0 hW hl.1 (c_X6_need l G a o w _ hq8) cb_X6_need mm_X6_191 fst_Md 0 6 rfl rfl rfl (by decide) rfl rfl (Nat.le_of_ble_eq_true rfl) ⟨Nat.zero_le _, Nat.zero_le _⟩ dX6_weather_8 rfl (fun H locs hW => ?_)
    have e1 := Option.some.inj hf
    subst e1
    have hF : ((q8, w) : Int32 × Md) = out := hF
    subst hF
    exact k_iret C0 hW dX6_weather_11

def f_X6_wheel_J191 (w : Md) : Option (Int32 × Md) :=
  some ((md_n w), w)
def f_X6_wheel_B173 (x2 : Int32) (w : Md) : Option ((Int32 × Md) ⊕ (Int32 × Md)) :=
  if (3 : Int32) ≤ x2 then (Option.map Sum.inr (f_X6_wheel_J191 w)) else (gd (inb x2 3) (some (Sum.inl ((x2 + (1 : Int32)), (md_set_keptMany w (upd (md_keptMany w) (ix x2) (-1 : Int32)))))))
def f_X6_wheel_L173 (sg : Int32 × Md) : Option ((Int32 × Md) ⊕ (Int32 × Md)) := f_X6_wheel_B173 sg.1 sg.2
def f_X6_wheel_J152 (w : Md) : Option (Int32 × Md) :=
  lp (f_X6_wheel_L173) fuel ((0 : Int32), (md_set_deedMany (md_set_now w (upd (md_now w) 3 ((jshl (1 : Int32) (md_n w)) - (1 : Int32)))) (0 : Int32)))
def f_X6_wheel_B133 (x2 : Int32) (w : Md) : Option ((Int32 × Md) ⊕ (Int32 × Md)) :=
  if (12 : Int32) ≤ x2 then (Option.map Sum.inr (f_X6_wheel_J152 w)) else (gd (inb x2 12) (some (Sum.inl ((x2 + (1 : Int32)), (md_set_now w (upd (md_now w) (ix x2) (0 : Int32)))))))
def f_X6_wheel_L133 (sg : Int32 × Md) : Option ((Int32 × Md) ⊕ (Int32 × Md)) := f_X6_wheel_B133 sg.1 sg.2
def f_X6_wheel_J131 (w : Md) : Option (Int32 × Md) :=
  lp (f_X6_wheel_L133) fuel ((0 : Int32), w)
def f_X6_wheel_B81 (x2 : Int32) (w : Md) : Option ((Int32 × Md) ⊕ (Int32 × Md)) :=
  if (md_n w) ≤ x2 then (Option.map Sum.inr (f_X6_wheel_J131 w)) else (gd (inb x2 8) (gd (inb x2 8) (gd (inb x2 8) (gd (inb x2 8) (gd (inb x2 8) (gd (inb x2 8) (some (Sum.inl ((x2 + (1 : Int32)), (md_set_strongs (md_set_longs (md_set_kinds w (upd (md_kinds w) (ix x2) ((md_readKind w) (ix x2)))) (upd (md_longs w) (ix x2) ((md_readLong w) (ix x2)))) (upd (md_strongs w) (ix x2) ((md_readStrong w) (ix x2)))))))))))))
def f_X6_wheel_L81 (sg : Int32 × Md) : Option ((Int32 × Md) ⊕ (Int32 × Md)) := f_X6_wheel_B81 sg.1 sg.2
def f_X6_wheel_J79 (w : Md) : Option (Int32 × Md) :=
  lp (f_X6_wheel_L81) fuel ((0 : Int32), w)
def f_X6_wheel_B55 (x2 : Int32) (w : Md) : Option ((Int32 × Md) ⊕ (Int32 × Md)) :=
  if (8 : Int32) ≤ x2 then (Option.map Sum.inr (f_X6_wheel_J79 w)) else (gd (inb x2 8) (gd (inb x2 8) (some (Sum.inl ((x2 + (1 : Int32)), (md_set_ruts w (upd (md_ruts w) (ix x2) ((md_readRut w) (ix x2)))))))))
def f_X6_wheel_L55 (sg : Int32 × Md) : Option ((Int32 × Md) ⊕ (Int32 × Md)) := f_X6_wheel_B55 sg.1 sg.2
def f_X6_wheel (w : Md) (x1 : Int32) : Option (Int32 × Md) :=
  Option.bind (f_X6_isText x1) (fun q1 => if q1 = 0 then (some ((-1 : Int32), w)) else (gd (inb x1 4) (if 0 ≤ ((md_textSizes w) (ix x1)) then (Option.bind (f_X6_faultOf w x1) (fun q26 => if q26.1 = (-9 : Int32) then (lp (f_X6_wheel_L55) fuel ((0 : Int32), (md_set_gateAt (md_set_n q26.2 (md_readMany q26.2)) (md_readGate q26.2)))) else (some ((-4 : Int32), q26.2)))) else (Option.bind (f_X6_meets w (1 : Int32)) (fun q20 => some (q20.1, q20.2))))))
set_option maxRecDepth 100000 in
set_option maxHeartbeats 1000000 in
theorem c_X6_wheel (l : Launch) (G : GG) (a : Nat → Nat) (o : Nat) (w : Md) (x1 : Int32) (out : Int32 × Md) (hf : f_X6_wheel w x1 = some out) : Cn l G 4 yX6_wheel cX6_wheel 3 (some .int) [.ref (a o), .int x1] (bMd G a o w) (some (.int out.1)) (bMd G a o out.2) := by
  refine cn_start (by decide) (Nat.le_of_ble_eq_true rfl) ?_
  intro p e s m below meth c A ls C0 hW hl
  have hx := C0.1
  have hb := C0.2.1
  have hl : lv_has ls 3 [(0, .ref (a o)), (1, .int x1)] := hl
  have J191 : ∀ (w : Md) (r : Int32 × Md), f_X6_wheel_J191 w = some r → (fun (r : Int32 × Md) => r = out) r → ∀ (H : Heap) (locs : List Loc) (ls : Array Slot), Wd G A s.heap H (bMd G a o w) locs → lv_has ls 3 [(0, .ref (a o))] → WW p l e 4 s m [.ref (a o), .int x1] below meth c G A (some (.int out.1)) ((bMd G a o out.2)) H locs 191 ls [] := by
    intro w r hf hF H locs ls hW hl
    unfold f_X6_wheel_J191 at hf
    refine lv_aload_n hx hb dX6_wheel_191 rfl (lv_at hl 0 rfl) ?_
    refine k_get C0 hW 6 18 0 (v := .int (md_n w)) rfl (by decide) inX6 mf_X6_142 rfl rfl dX6_wheel_192 ?_
    have e1 := Option.some.inj hf
    subst e1
    have hF : (((md_n w), w) : Int32 × Md) = out := hF
    subst hF
    exact k_iret C0 hW dX6_wheel_195
  have L173 : ∀ (k8 : Nat) (sg : Int32 × Md) (o9 : Int32 × Md), lp (f_X6_wheel_L173) k8 sg = some o9 → (fun (r : Int32 × Md) => r = out) o9 → (fun (sg : Int32 × Md) => ∀ (H : Heap) (locs : List Loc) (ls : Array Slot), Wd G A s.heap H (bMd G a o sg.2) locs → lv_has ls 3 [(0, .ref (a o)), (2, .int sg.1)] → WW p l e 4 s m [.ref (a o), .int x1] below meth c G A (some (.int out.1)) ((bMd G a o out.2)) H locs 173 ls []) sg := by
    have B173 : ∀ (x2 : Int32) (w : Md) (r : (Int32 × Md) ⊕ (Int32 × Md)), f_X6_wheel_B173 x2 w = some r → (Sum.elim (fun (sg : Int32 × Md) => ∀ (H : Heap) (locs : List Loc) (ls : Array Slot), Wd G A s.heap H (bMd G a o sg.2) locs → lv_has ls 3 [(0, .ref (a o)), (2, .int sg.1)] → WW p l e 4 s m [.ref (a o), .int x1] below meth c G A (some (.int out.1)) ((bMd G a o out.2)) H locs 173 ls []) (fun (r : Int32 × Md) => r = out)) r → ∀ (H : Heap) (locs : List Loc) (ls : Array Slot), Wd G A s.heap H (bMd G a o w) locs → lv_has ls 3 [(0, .ref (a o)), (2, .int x2)] → WW p l e 4 s m [.ref (a o), .int x1] below meth c G A (some (.int out.1)) ((bMd G a o out.2)) H locs 173 ls [] := by
      intro x2 w r hf hF H locs ls hW hl
      unfold f_X6_wheel_B173 at hf
      refine lv_iload_n hx hb dX6_wheel_173 rfl (lv_at hl 1 rfl) ?_
      refine lv_iconst (v := 3) hx hb dX6_wheel_174 (by decide) ?_
      refine lv_icmp_ge (tgt := 191) hx hb dX6_wheel_175 (by decide) (fun c175_8 => ?_) (fun c175_8 => ?_)
      · replace hf := if_t c175_8 hf
        obtain ⟨r2, e2⟩ := om_s hf
        replace hf := e2.1
        replace e2 := e2.2
        subst e2
        replace hF := elim_r hF
        exact J191 _ _ hf hF _ _ _ hW (lv_sub hl [0] rfl)
      · replace hf := if_f c175_8 hf
        refine lv_aload_n hx hb dX6_wheel_178 rfl (lv_at hl 0 rfl) ?_
        refine k_get C0 hW 6 28 0 (v := .ref (a (o + 18))) rfl (by decide) inX6 mf_X6_66 rfl rfl dX6_wheel_179 ?_
        refine lv_iload_n hx hb dX6_wheel_182 rfl (lv_at hl 1 rfl) ?_
        refine lv_iconst (v := -1) hx hb dX6_wheel_183 (by decide) ?_
        have g184_9 := (gd_some hf).1; replace hf := (gd_some hf).2
        refine k_iast C0 hW 18 (ix x2) rfl (inb_in g184_9) rfl dX6_wheel_184 (fun H locs hW => ?_)
        have hW : Wd G A s.heap H (bMd G a o (md_set_keptMany w (upd (md_keptMany w) (ix x2) (-1 : Int32)))) locs := hW
        refine lv_iinc (v := (x2 + (1 : Int32))) (lv' := [(2, .int (x2 + (1 : Int32))), (0, .ref (a o))]) hx hb dX6_wheel_185 hl (k := 1) rfl rfl (by decide) rfl (fun ls hl => ?_)
        refine lv_goto (tgt := 173) hx hb dX6_wheel_188 (by decide) ?_
        have e1 := Option.some.inj hf
        subst e1
        exact (elim_l hF) _ _ _ hW (lv_sub hl [1, 0] rfl)
    exact lp_sound (fun sg r hb hz => B173 sg.1 sg.2 r hb hz)
  have J152 : ∀ (w : Md) (r : Int32 × Md), f_X6_wheel_J152 w = some r → (fun (r : Int32 × Md) => r = out) r → ∀ (H : Heap) (locs : List Loc) (ls : Array Slot), Wd G A s.heap H (bMd G a o w) locs → lv_has ls 3 [(0, .ref (a o))] → WW p l e 4 s m [.ref (a o), .int x1] below meth c G A (some (.int out.1)) ((bMd G a o out.2)) H locs 152 ls [] := by
    intro w r hf hF H locs ls hW hl
    unfold f_X6_wheel_J152 at hf
    refine lv_aload_n hx hb dX6_wheel_152 rfl (lv_at hl 0 rfl) ?_
    refine k_get C0 hW 6 24 0 (v := .ref (a (o + 15))) rfl (by decide) inX6 mf_X6_57 rfl rfl dX6_wheel_153 ?_
    refine lv_iconst (v := 3) hx hb dX6_wheel_156 (by decide) ?_
    refine lv_iconst (v := 1) hx hb dX6_wheel_157 (by decide) ?_
    refine lv_aload_n hx hb dX6_wheel_158 rfl (lv_at hl 0 rfl) ?_
    refine k_get C0 hW 6 18 0 (v := .int (md_n w)) rfl (by decide) inX6 mf_X6_142 rfl rfl dX6_wheel_159 ?_
    refine lv_ishl hx hb dX6_wheel_162 ?_
    refine lv_iconst (v := 1) hx hb dX6_wheel_163 (by decide) ?_
    refine lv_isub hx hb dX6_wheel_164 ?_
    refine k_iast C0 hW 15 3 rfl (inb_in rfl) rfl dX6_wheel_165 (fun H locs hW => ?_)
    have hW : Wd G A s.heap H (bMd G a o (md_set_now w (upd (md_now w) 3 ((jshl (1 : Int32) (md_n w)) - (1 : Int32))))) locs := hW
    refine lv_aload_n hx hb dX6_wheel_166 rfl (lv_at hl 0 rfl) ?_
    refine lv_iconst (v := 0) hx hb dX6_wheel_167 (by decide) ?_
    refine k_put C0 hW 6 26 0 rfl (by decide) inX6 tyX6_ok nmX6 mf_X6_148 rfl rfl rfl rfl (Nat.le_of_ble_eq_true rfl) dX6_wheel_168 (fun H locs hW => ?_)
    have hW : Wd G A s.heap H (bMd G a o (md_set_deedMany (md_set_now w (upd (md_now w) 3 ((jshl (1 : Int32) (md_n w)) - (1 : Int32)))) (0 : Int32))) locs := hW
    refine lv_iconst (v := 0) hx hb dX6_wheel_171 (by decide) ?_
    refine lv_istore_n (lv' := [(2, .int (0 : Int32)), (0, .ref (a o))]) hx hb dX6_wheel_172 rfl hl (by decide) rfl (fun ls hl => ?_)
    exact L173  fuel ((0 : Int32), (md_set_deedMany (md_set_now w (upd (md_now w) 3 ((jshl (1 : Int32) (md_n w)) - (1 : Int32)))) (0 : Int32))) _ hf hF _ _ _ hW (lv_sub hl [1, 0] rfl)
  have L133 : ∀ (k8 : Nat) (sg : Int32 × Md) (o9 : Int32 × Md), lp (f_X6_wheel_L133) k8 sg = some o9 → (fun (r : Int32 × Md) => r = out) o9 → (fun (sg : Int32 × Md) => ∀ (H : Heap) (locs : List Loc) (ls : Array Slot), Wd G A s.heap H (bMd G a o sg.2) locs → lv_has ls 3 [(0, .ref (a o)), (2, .int sg.1)] → WW p l e 4 s m [.ref (a o), .int x1] below meth c G A (some (.int out.1)) ((bMd G a o out.2)) H locs 133 ls []) sg := by
    have B133 : ∀ (x2 : Int32) (w : Md) (r : (Int32 × Md) ⊕ (Int32 × Md)), f_X6_wheel_B133 x2 w = some r → (Sum.elim (fun (sg : Int32 × Md) => ∀ (H : Heap) (locs : List Loc) (ls : Array Slot), Wd G A s.heap H (bMd G a o sg.2) locs → lv_has ls 3 [(0, .ref (a o)), (2, .int sg.1)] → WW p l e 4 s m [.ref (a o), .int x1] below meth c G A (some (.int out.1)) ((bMd G a o out.2)) H locs 133 ls []) (fun (r : Int32 × Md) => r = out)) r → ∀ (H : Heap) (locs : List Loc) (ls : Array Slot), Wd G A s.heap H (bMd G a o w) locs → lv_has ls 3 [(0, .ref (a o)), (2, .int x2)] → WW p l e 4 s m [.ref (a o), .int x1] below meth c G A (some (.int out.1)) ((bMd G a o out.2)) H locs 133 ls [] := by
      intro x2 w r hf hF H locs ls hW hl
      unfold f_X6_wheel_B133 at hf
      refine lv_iload_n hx hb dX6_wheel_133 rfl (lv_at hl 1 rfl) ?_
      refine lv_bipush (v := 12) hx hb dX6_wheel_134 (by decide) ?_
      refine lv_icmp_ge (tgt := 152) hx hb dX6_wheel_136 (by decide) (fun c136_7 => ?_) (fun c136_7 => ?_)
      · replace hf := if_t c136_7 hf
        obtain ⟨r2, e2⟩ := om_s hf
        replace hf := e2.1
        replace e2 := e2.2
        subst e2
        replace hF := elim_r hF
        exact J152 _ _ hf hF _ _ _ hW (lv_sub hl [0] rfl)
      · replace hf := if_f c136_7 hf
        refine lv_aload_n hx hb dX6_wheel_139 rfl (lv_at hl 0 rfl) ?_
        refine k_get C0 hW 6 24 0 (v := .ref (a (o + 15))) rfl (by decide) inX6 mf_X6_57 rfl rfl dX6_wheel_140 ?_
        refine lv_iload_n hx hb dX6_wheel_143 rfl (lv_at hl 1 rfl) ?_
        refine lv_iconst (v := 0) hx hb dX6_wheel_144 (by decide) ?_
        have g145_10 := (gd_some hf).1; replace hf := (gd_some hf).2
        refine k_iast C0 hW 15 (ix x2) rfl (inb_in g145_10) rfl dX6_wheel_145 (fun H locs hW => ?_)
        have hW : Wd G A s.heap H (bMd G a o (md_set_now w (upd (md_now w) (ix x2) (0 : Int32)))) locs := hW
        refine lv_iinc (v := (x2 + (1 : Int32))) (lv' := [(2, .int (x2 + (1 : Int32))), (0, .ref (a o))]) hx hb dX6_wheel_146 hl (k := 1) rfl rfl (by decide) rfl (fun ls hl => ?_)
        refine lv_goto (tgt := 133) hx hb dX6_wheel_149 (by decide) ?_
        have e1 := Option.some.inj hf
        subst e1
        exact (elim_l hF) _ _ _ hW (lv_sub hl [1, 0] rfl)
    exact lp_sound (fun sg r hb hz => B133 sg.1 sg.2 r hb hz)
  have J131 : ∀ (w : Md) (r : Int32 × Md), f_X6_wheel_J131 w = some r → (fun (r : Int32 × Md) => r = out) r → ∀ (H : Heap) (locs : List Loc) (ls : Array Slot), Wd G A s.heap H (bMd G a o w) locs → lv_has ls 3 [(0, .ref (a o))] → WW p l e 4 s m [.ref (a o), .int x1] below meth c G A (some (.int out.1)) ((bMd G a o out.2)) H locs 131 ls [] := by
    intro w r hf hF H locs ls hW hl
    unfold f_X6_wheel_J131 at hf
    refine lv_iconst (v := 0) hx hb dX6_wheel_131 (by decide) ?_
    refine lv_istore_n (lv' := [(2, .int (0 : Int32)), (0, .ref (a o))]) hx hb dX6_wheel_132 rfl hl (by decide) rfl (fun ls hl => ?_)
    exact L133  fuel ((0 : Int32), w) _ hf hF _ _ _ hW (lv_sub hl [1, 0] rfl)
  have L81 : ∀ (k8 : Nat) (sg : Int32 × Md) (o9 : Int32 × Md), lp (f_X6_wheel_L81) k8 sg = some o9 → (fun (r : Int32 × Md) => r = out) o9 → (fun (sg : Int32 × Md) => ∀ (H : Heap) (locs : List Loc) (ls : Array Slot), Wd G A s.heap H (bMd G a o sg.2) locs → lv_has ls 3 [(0, .ref (a o)), (2, .int sg.1)] → WW p l e 4 s m [.ref (a o), .int x1] below meth c G A (some (.int out.1)) ((bMd G a o out.2)) H locs 81 ls []) sg := by
    have B81 : ∀ (x2 : Int32) (w : Md) (r : (Int32 × Md) ⊕ (Int32 × Md)), f_X6_wheel_B81 x2 w = some r → (Sum.elim (fun (sg : Int32 × Md) => ∀ (H : Heap) (locs : List Loc) (ls : Array Slot), Wd G A s.heap H (bMd G a o sg.2) locs → lv_has ls 3 [(0, .ref (a o)), (2, .int sg.1)] → WW p l e 4 s m [.ref (a o), .int x1] below meth c G A (some (.int out.1)) ((bMd G a o out.2)) H locs 81 ls []) (fun (r : Int32 × Md) => r = out)) r → ∀ (H : Heap) (locs : List Loc) (ls : Array Slot), Wd G A s.heap H (bMd G a o w) locs → lv_has ls 3 [(0, .ref (a o)), (2, .int x2)] → WW p l e 4 s m [.ref (a o), .int x1] below meth c G A (some (.int out.1)) ((bMd G a o out.2)) H locs 81 ls [] := by
      intro x2 w r hf hF H locs ls hW hl
      unfold f_X6_wheel_B81 at hf
      refine lv_iload_n hx hb dX6_wheel_81 rfl (lv_at hl 1 rfl) ?_
      refine lv_aload_n hx hb dX6_wheel_82 rfl (lv_at hl 0 rfl) ?_
      refine k_get C0 hW 6 18 0 (v := .int (md_n w)) rfl (by decide) inX6 mf_X6_142 rfl rfl dX6_wheel_83 ?_
      refine lv_icmp_ge (tgt := 131) hx hb dX6_wheel_86 (by decide) (fun c86_6 => ?_) (fun c86_6 => ?_)
      · replace hf := if_t c86_6 hf
        obtain ⟨r2, e2⟩ := om_s hf
        replace hf := e2.1
        replace e2 := e2.2
        subst e2
        replace hF := elim_r hF
        exact J131 _ _ hf hF _ _ _ hW (lv_sub hl [0] rfl)
      · replace hf := if_f c86_6 hf
        refine lv_aload_n hx hb dX6_wheel_89 rfl (lv_at hl 0 rfl) ?_
        refine k_get C0 hW 6 21 0 (v := .ref (a (o + 12))) rfl (by decide) inX6 mf_X6_48 rfl rfl dX6_wheel_90 ?_
        refine lv_iload_n hx hb dX6_wheel_93 rfl (lv_at hl 1 rfl) ?_
        refine lv_aload_n hx hb dX6_wheel_94 rfl (lv_at hl 0 rfl) ?_
        refine k_get C0 hW 6 15 0 (v := .ref (a (o + 8))) rfl (by decide) inX6 mf_X6_36 rfl rfl dX6_wheel_95 ?_
        refine lv_iload_n hx hb dX6_wheel_98 rfl (lv_at hl 1 rfl) ?_
        have g99_11 := (gd_some hf).1; replace hf := (gd_some hf).2
        refine k_iald C0 hW 8 (ix x2) rfl (inb_in g99_11) rfl dX6_wheel_99 ?_
        have g100_12 := (gd_some hf).1; replace hf := (gd_some hf).2
        refine k_iast C0 hW 12 (ix x2) rfl (inb_in g100_12) rfl dX6_wheel_100 (fun H locs hW => ?_)
        have hW : Wd G A s.heap H (bMd G a o (md_set_kinds w (upd (md_kinds w) (ix x2) ((md_readKind w) (ix x2))))) locs := hW
        refine lv_aload_n hx hb dX6_wheel_101 rfl (lv_at hl 0 rfl) ?_
        refine k_get C0 hW 6 22 0 (v := .ref (a (o + 13))) rfl (by decide) inX6 mf_X6_51 rfl rfl dX6_wheel_102 ?_
        refine lv_iload_n hx hb dX6_wheel_105 rfl (lv_at hl 1 rfl) ?_
        refine lv_aload_n hx hb dX6_wheel_106 rfl (lv_at hl 0 rfl) ?_
        refine k_get C0 hW 6 16 0 (v := .ref (a (o + 9))) rfl (by decide) inX6 mf_X6_39 rfl rfl dX6_wheel_107 ?_
        refine lv_iload_n hx hb dX6_wheel_110 rfl (lv_at hl 1 rfl) ?_
        have g111_13 := (gd_some hf).1; replace hf := (gd_some hf).2
        refine k_iald C0 hW 9 (ix x2) rfl (inb_in g111_13) rfl dX6_wheel_111 ?_
        have g112_14 := (gd_some hf).1; replace hf := (gd_some hf).2
        refine k_iast C0 hW 13 (ix x2) rfl (inb_in g112_14) rfl dX6_wheel_112 (fun H locs hW => ?_)
        have hW : Wd G A s.heap H (bMd G a o (md_set_longs (md_set_kinds w (upd (md_kinds w) (ix x2) ((md_readKind w) (ix x2)))) (upd (md_longs w) (ix x2) ((md_readLong w) (ix x2))))) locs := hW
        refine lv_aload_n hx hb dX6_wheel_113 rfl (lv_at hl 0 rfl) ?_
        refine k_get C0 hW 6 23 0 (v := .ref (a (o + 14))) rfl (by decide) inX6 mf_X6_54 rfl rfl dX6_wheel_114 ?_
        refine lv_iload_n hx hb dX6_wheel_117 rfl (lv_at hl 1 rfl) ?_
        refine lv_aload_n hx hb dX6_wheel_118 rfl (lv_at hl 0 rfl) ?_
        refine k_get C0 hW 6 17 0 (v := .ref (a (o + 10))) rfl (by decide) inX6 mf_X6_42 rfl rfl dX6_wheel_119 ?_
        refine lv_iload_n hx hb dX6_wheel_122 rfl (lv_at hl 1 rfl) ?_
        have g123_15 := (gd_some hf).1; replace hf := (gd_some hf).2
        refine k_iald C0 hW 10 (ix x2) rfl (inb_in g123_15) rfl dX6_wheel_123 ?_
        have g124_16 := (gd_some hf).1; replace hf := (gd_some hf).2
        refine k_iast C0 hW 14 (ix x2) rfl (inb_in g124_16) rfl dX6_wheel_124 (fun H locs hW => ?_)
        have hW : Wd G A s.heap H (bMd G a o (md_set_strongs (md_set_longs (md_set_kinds w (upd (md_kinds w) (ix x2) ((md_readKind w) (ix x2)))) (upd (md_longs w) (ix x2) ((md_readLong w) (ix x2)))) (upd (md_strongs w) (ix x2) ((md_readStrong w) (ix x2))))) locs := hW
        refine lv_iinc (v := (x2 + (1 : Int32))) (lv' := [(2, .int (x2 + (1 : Int32))), (0, .ref (a o))]) hx hb dX6_wheel_125 hl (k := 1) rfl rfl (by decide) rfl (fun ls hl => ?_)
        refine lv_goto (tgt := 81) hx hb dX6_wheel_128 (by decide) ?_
        have e1 := Option.some.inj hf
        subst e1
        exact (elim_l hF) _ _ _ hW (lv_sub hl [1, 0] rfl)
    exact lp_sound (fun sg r hb hz => B81 sg.1 sg.2 r hb hz)
  have J79 : ∀ (w : Md) (r : Int32 × Md), f_X6_wheel_J79 w = some r → (fun (r : Int32 × Md) => r = out) r → ∀ (H : Heap) (locs : List Loc) (ls : Array Slot), Wd G A s.heap H (bMd G a o w) locs → lv_has ls 3 [(0, .ref (a o))] → WW p l e 4 s m [.ref (a o), .int x1] below meth c G A (some (.int out.1)) ((bMd G a o out.2)) H locs 79 ls [] := by
    intro w r hf hF H locs ls hW hl
    unfold f_X6_wheel_J79 at hf
    refine lv_iconst (v := 0) hx hb dX6_wheel_79 (by decide) ?_
    refine lv_istore_n (lv' := [(2, .int (0 : Int32)), (0, .ref (a o))]) hx hb dX6_wheel_80 rfl hl (by decide) rfl (fun ls hl => ?_)
    exact L81  fuel ((0 : Int32), w) _ hf hF _ _ _ hW (lv_sub hl [1, 0] rfl)
  have L55 : ∀ (k8 : Nat) (sg : Int32 × Md) (o9 : Int32 × Md), lp (f_X6_wheel_L55) k8 sg = some o9 → (fun (r : Int32 × Md) => r = out) o9 → (fun (sg : Int32 × Md) => ∀ (H : Heap) (locs : List Loc) (ls : Array Slot), Wd G A s.heap H (bMd G a o sg.2) locs → lv_has ls 3 [(0, .ref (a o)), (2, .int sg.1)] → WW p l e 4 s m [.ref (a o), .int x1] below meth c G A (some (.int out.1)) ((bMd G a o out.2)) H locs 55 ls []) sg := by
    have B55 : ∀ (x2 : Int32) (w : Md) (r : (Int32 × Md) ⊕ (Int32 × Md)), f_X6_wheel_B55 x2 w = some r → (Sum.elim (fun (sg : Int32 × Md) => ∀ (H : Heap) (locs : List Loc) (ls : Array Slot), Wd G A s.heap H (bMd G a o sg.2) locs → lv_has ls 3 [(0, .ref (a o)), (2, .int sg.1)] → WW p l e 4 s m [.ref (a o), .int x1] below meth c G A (some (.int out.1)) ((bMd G a o out.2)) H locs 55 ls []) (fun (r : Int32 × Md) => r = out)) r → ∀ (H : Heap) (locs : List Loc) (ls : Array Slot), Wd G A s.heap H (bMd G a o w) locs → lv_has ls 3 [(0, .ref (a o)), (2, .int x2)] → WW p l e 4 s m [.ref (a o), .int x1] below meth c G A (some (.int out.1)) ((bMd G a o out.2)) H locs 55 ls [] := by
      intro x2 w r hf hF H locs ls hW hl
      unfold f_X6_wheel_B55 at hf
      refine lv_iload_n hx hb dX6_wheel_55 rfl (lv_at hl 1 rfl) ?_
      refine lv_bipush (v := 8) hx hb dX6_wheel_56 (by decide) ?_
      refine lv_icmp_ge (tgt := 79) hx hb dX6_wheel_58 (by decide) (fun c58_5 => ?_) (fun c58_5 => ?_)
      · replace hf := if_t c58_5 hf
        obtain ⟨r2, e2⟩ := om_s hf
        replace hf := e2.1
        replace e2 := e2.2
        subst e2
        replace hF := elim_r hF
        exact J79 _ _ hf hF _ _ _ hW (lv_sub hl [0] rfl)
      · replace hf := if_f c58_5 hf
        refine lv_aload_n hx hb dX6_wheel_61 rfl (lv_at hl 0 rfl) ?_
        refine k_get C0 hW 6 20 0 (v := .ref (a (o + 11))) rfl (by decide) inX6 mf_X6_45 rfl rfl dX6_wheel_62 ?_
        refine lv_iload_n hx hb dX6_wheel_65 rfl (lv_at hl 1 rfl) ?_
        refine lv_aload_n hx hb dX6_wheel_66 rfl (lv_at hl 0 rfl) ?_
        refine k_get C0 hW 6 14 0 (v := .ref (a (o + 7))) rfl (by decide) inX6 mf_X6_33 rfl rfl dX6_wheel_67 ?_
        refine lv_iload_n hx hb dX6_wheel_70 rfl (lv_at hl 1 rfl) ?_
        have g71_17 := (gd_some hf).1; replace hf := (gd_some hf).2
        refine k_iald C0 hW 7 (ix x2) rfl (inb_in g71_17) rfl dX6_wheel_71 ?_
        have g72_18 := (gd_some hf).1; replace hf := (gd_some hf).2
        refine k_iast C0 hW 11 (ix x2) rfl (inb_in g72_18) rfl dX6_wheel_72 (fun H locs hW => ?_)
        have hW : Wd G A s.heap H (bMd G a o (md_set_ruts w (upd (md_ruts w) (ix x2) ((md_readRut w) (ix x2))))) locs := hW
        refine lv_iinc (v := (x2 + (1 : Int32))) (lv' := [(2, .int (x2 + (1 : Int32))), (0, .ref (a o))]) hx hb dX6_wheel_73 hl (k := 1) rfl rfl (by decide) rfl (fun ls hl => ?_)
        refine lv_goto (tgt := 55) hx hb dX6_wheel_76 (by decide) ?_
        have e1 := Option.some.inj hf
        subst e1
        exact (elim_l hF) _ _ _ hW (lv_sub hl [1, 0] rfl)
    exact lp_sound (fun sg r hb hz => B55 sg.1 sg.2 r hb hz)
  obtain ⟨r, hr⟩ : ∃ r, f_X6_wheel w x1 = some r ∧ r = out := ⟨out, hf, rfl⟩
  replace hf := hr.1
  have hF := hr.2
  clear hr
  unfold f_X6_wheel at hf
  refine lv_iload_n hx hb dX6_wheel_0 rfl (lv_at hl 1 rfl) ?_
  obtain ⟨q1, hq1⟩ := ob_s hf
  replace hf := hq1.2
  replace hq1 := hq1.1
  refine cS0 (rest := []) (st1 := [.int q1]) C0 hW hl.1 (c_X6_isText l G x1 _ hq1) cb_X6_isText mm_X6_108 [] rfl rfl (by decide) rfl rfl (Nat.le_of_ble_eq_true rfl) ⟨Nat.zero_le _, Nat.zero_le _⟩ dX6_wheel_1 rfl (fun H locs hW => ?_)
  refine lv_if_ne (tgt := 9) hx hb dX6_wheel_4 (by decide) (fun c4_1 => ?_) (fun c4_1 => ?_)
  · replace hf := if_f c4_1 hf
    refine lv_aload_n hx hb dX6_wheel_9 rfl (lv_at hl 0 rfl) ?_
    refine k_get C0 hW 6 8 0 (v := .ref (a (o + 5))) rfl (by decide) inX6 mf_X6_26 rfl rfl dX6_wheel_10 ?_
    refine lv_iload_n hx hb dX6_wheel_13 rfl (lv_at hl 1 rfl) ?_
    have g14_2 := (gd_some hf).1; replace hf := (gd_some hf).2
    refine k_iald C0 hW 5 (ix x1) rfl (inb_in g14_2) rfl dX6_wheel_14 ?_
    refine lv_if_ge (tgt := 24) hx hb dX6_wheel_15 (by decide) (fun c15_3 => ?_) (fun c15_3 => ?_)
    · replace hf := if_t c15_3 hf
      refine lv_aload_n hx hb dX6_wheel_24 rfl (lv_at hl 0 rfl) ?_
      refine lv_iload_n hx hb dX6_wheel_25 rfl (lv_at hl 1 rfl) ?_
      obtain ⟨q26, hq26⟩ := ob_s hf
      replace hf := hq26.2
      replace hq26 := hq26.1
      refine cW1 (rest := []) (ws1 := (bMd G a o q26.2)) (st1 := [.int q26.1]) C0 hW hl.1 (c_X6_faultOf l G a o w x1 _ hq26) cb_X6_faultOf mm_X6_139 fst_Md 0 6 rfl rfl rfl (by decide) rfl rfl (Nat.le_of_ble_eq_true rfl) ⟨Nat.zero_le _, Nat.zero_le _⟩ dX6_wheel_26 rfl (fun H locs hW => ?_)
      refine lv_bipush (v := -9) hx hb dX6_wheel_29 (by decide) ?_
      refine lv_icmp_eq (tgt := 37) hx hb dX6_wheel_31 (by decide) (fun c31_4 => ?_) (fun c31_4 => ?_)
      · replace hf := if_t c31_4 hf
        refine lv_aload_n hx hb dX6_wheel_37 rfl (lv_at hl 0 rfl) ?_
        refine lv_aload_n hx hb dX6_wheel_38 rfl (lv_at hl 0 rfl) ?_
        refine k_get C0 hW 6 11 0 (v := .int (md_readMany q26.2)) rfl (by decide) inX6 mf_X6_130 rfl rfl dX6_wheel_39 ?_
        refine k_put C0 hW 6 18 0 rfl (by decide) inX6 tyX6_ok nmX6 mf_X6_142 rfl rfl rfl rfl (Nat.le_of_ble_eq_true rfl) dX6_wheel_42 (fun H locs hW => ?_)
        have hW : Wd G A s.heap H (bMd G a o (md_set_n q26.2 (md_readMany q26.2))) locs := hW
        refine lv_aload_n hx hb dX6_wheel_45 rfl (lv_at hl 0 rfl) ?_
        refine lv_aload_n hx hb dX6_wheel_46 rfl (lv_at hl 0 rfl) ?_
        refine k_get C0 hW 6 12 0 (v := .int (md_readGate q26.2)) rfl (by decide) inX6 mf_X6_120 rfl rfl dX6_wheel_47 ?_
        refine k_put C0 hW 6 19 0 rfl (by decide) inX6 tyX6_ok nmX6 mf_X6_145 rfl rfl rfl rfl (Nat.le_of_ble_eq_true rfl) dX6_wheel_50 (fun H locs hW => ?_)
        have hW : Wd G A s.heap H (bMd G a o (md_set_gateAt (md_set_n q26.2 (md_readMany q26.2)) (md_readGate q26.2))) locs := hW
        refine lv_iconst (v := 0) hx hb dX6_wheel_53 (by decide) ?_
        refine lv_istore_n (lv' := [(2, .int (0 : Int32)), (0, .ref (a o)), (1, .int x1)]) hx hb dX6_wheel_54 rfl hl (by decide) rfl (fun ls hl => ?_)
        exact L55  fuel ((0 : Int32), (md_set_gateAt (md_set_n q26.2 (md_readMany q26.2)) (md_readGate q26.2))) _ hf hF _ _ _ hW (lv_sub hl [1, 0] rfl)
      · replace hf := if_f c31_4 hf
        refine lv_bipush (v := -4) hx hb dX6_wheel_34 (by decide) ?_
        have e1 := Option.some.inj hf
        subst e1
        have hF : (((-4 : Int32), q26.2) : Int32 × Md) = out := hF
        subst hF
        exact k_iret C0 hW dX6_wheel_36
    · replace hf := if_f c15_3 hf
      refine lv_aload_n hx hb dX6_wheel_18 rfl (lv_at hl 0 rfl) ?_
      refine lv_iconst (v := 1) hx hb dX6_wheel_19 (by decide) ?_
      obtain ⟨q20, hq20⟩ := ob_s hf
      replace hf := hq20.2
      replace hq20 := hq20.1
      refine cW1 (rest := []) (ws1 := (bMd G a o q20.2)) (st1 := [.int q20.1]) C0 hW hl.1 (c_X6_meets l G a o w (1 : Int32) _ hq20) cb_X6_meets mm_X6_97 fst_Md 0 6 rfl rfl rfl (by decide) rfl rfl (Nat.le_of_ble_eq_true rfl) ⟨Nat.zero_le _, Nat.zero_le _⟩ dX6_wheel_20 rfl (fun H locs hW => ?_)
      have e1 := Option.some.inj hf
      subst e1
      have hF : ((q20.1, q20.2) : Int32 × Md) = out := hF
      subst hF
      exact k_iret C0 hW dX6_wheel_23
  · replace hf := if_t c4_1 hf
    refine lv_iconst (v := -1) hx hb dX6_wheel_7 (by decide) ?_
    have e1 := Option.some.inj hf
    subst e1
    have hF : (((-1 : Int32), w) : Int32 × Md) = out := hF
    subst hF
    exact k_iret C0 hW dX6_wheel_8
