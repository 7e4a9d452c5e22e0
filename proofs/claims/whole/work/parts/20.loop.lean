def Sim (Rel : Ww → Md → Prop) : Prop := S_row Rel ∧ S_lay Rel ∧ S_at Rel ∧ S_tear Rel ∧ S_copy Rel ∧ S_mean Rel ∧ S_text Rel ∧ S_put Rel ∧ S_fault Rel ∧ S_wheel Rel ∧ S_spoke Rel ∧ S_mark Rel ∧ S_bears Rel ∧ S_step Rel ∧ S_soak Rel ∧ S_weather Rel ∧ S_knock Rel ∧ S_mend Rel ∧ S_undo Rel ∧ S_keep Rel ∧ S_on Rel ∧ S_goes Rel ∧ S_over Rel ∧ S_limps Rel ∧ S_gate Rel ∧ S_turned Rel ∧ S_change Rel ∧ S_gone Rel ∧ S_strengths Rel ∧ S_kinds Rel ∧ S_look Rel ∧ S_duel Rel ∧ S_odds Rel ∧ S_mid Rel ∧ S_lots Rel ∧ S_asked Rel ∧ S_upper Rel ∧ S_lower Rel ∧ S_count Rel ∧ S_finding Rel ∧ S_findings Rel ∧ S_digest Rel
theorem ll_le {i L : Nat} {x3 : Int32} (hL : L ≤ 384) (hi : i ≤ L) (ex : x3 = nI i) (h : ¬ Int32.ofNat L - 6 < x3) : i + 6 ≤ L := by
  subst ex
  have h1 : (nI L - nI 6).toInt = (L : Int) - (6 : Nat) := pk_sub_toInt (by omega) (by omega)
  have h2 : (nI i).toInt = (i : Int) := nI_toInt (by omega)
  rw [Int32.lt_iff_toInt_lt] at h
  have h3 : (Int32.ofNat L - 6).toInt = (L : Int) - 6 := h1
  rw [h3, h2] at h
  omega
theorem ll_in {i L : Nat} {x3 : Int32} (hL : L ≤ 384) (ex : x3 = nI i) (k : Nat) (h : i + k < L) : vp_in (x3 + nI k) L := by
  subst ex
  rw [nI_add]
  exact vp_in_nI h (by omega)
theorem ll_out {X : Int32} (h : ¬ X = 0 ∧ ¬ X = 1 ∧ ¬ X = 2 ∧ ¬ X = 3 ∧ ¬ X = 4 ∧ ¬ X = 5 ∧ ¬ X = 6 ∧ ¬ X = 7 ∧ ¬ X = 8 ∧ ¬ X = 9 ∧ ¬ X = 10 ∧ ¬ X = 11 ∧ ¬ X = 12 ∧ ¬ X = 13 ∧ ¬ X = 14 ∧ ¬ X = 15 ∧ ¬ X = 16 ∧ ¬ X = 17 ∧ ¬ X = 18 ∧ ¬ X = 19 ∧ ¬ X = 20 ∧ ¬ X = 21 ∧ ¬ X = 22 ∧ ¬ X = 23 ∧ ¬ X = 24 ∧ ¬ X = 25 ∧ ¬ X = 26 ∧ ¬ X = 27 ∧ ¬ X = 28 ∧ ¬ X = 29 ∧ ¬ X = 30 ∧ ¬ X = 31 ∧ ¬ X = 32 ∧ ¬ X = 33 ∧ ¬ X = 34 ∧ ¬ X = 35 ∧ ¬ X = 36 ∧ ¬ X = 37 ∧ ¬ X = 38 ∧ ¬ X = 39 ∧ ¬ X = 40 ∧ ¬ X = 41) : X.toInt < 0 ∨ 41 < X.toInt := by
  apply Decidable.byContradiction
  intro hn
  obtain ⟨n, hn1, e⟩ : ∃ n : Nat, n < 42 ∧ X.toInt = (n : Int) := ⟨X.toInt.toNat, by omega, by omega⟩
  have e2 : X = nI n := Int32.toInt_inj.mp (by rw [e, nI_toInt (by omega)])
  obtain ⟨h0, h1, h2, h3, h4, h5, h6, h7, h8, h9, h10, h11, h12, h13, h14, h15, h16, h17, h18, h19, h20, h21, h22, h23, h24, h25, h26, h27, h28, h29, h30, h31, h32, h33, h34, h35, h36, h37, h38, h39, h40, h41⟩ := h
  match n, hn1, e2 with
  | 0, _, e2 => exact h0 (e2.trans (by decide))
  | 1, _, e2 => exact h1 (e2.trans (by decide))
  | 2, _, e2 => exact h2 (e2.trans (by decide))
  | 3, _, e2 => exact h3 (e2.trans (by decide))
  | 4, _, e2 => exact h4 (e2.trans (by decide))
  | 5, _, e2 => exact h5 (e2.trans (by decide))
  | 6, _, e2 => exact h6 (e2.trans (by decide))
  | 7, _, e2 => exact h7 (e2.trans (by decide))
  | 8, _, e2 => exact h8 (e2.trans (by decide))
  | 9, _, e2 => exact h9 (e2.trans (by decide))
  | 10, _, e2 => exact h10 (e2.trans (by decide))
  | 11, _, e2 => exact h11 (e2.trans (by decide))
  | 12, _, e2 => exact h12 (e2.trans (by decide))
  | 13, _, e2 => exact h13 (e2.trans (by decide))
  | 14, _, e2 => exact h14 (e2.trans (by decide))
  | 15, _, e2 => exact h15 (e2.trans (by decide))
  | 16, _, e2 => exact h16 (e2.trans (by decide))
  | 17, _, e2 => exact h17 (e2.trans (by decide))
  | 18, _, e2 => exact h18 (e2.trans (by decide))
  | 19, _, e2 => exact h19 (e2.trans (by decide))
  | 20, _, e2 => exact h20 (e2.trans (by decide))
  | 21, _, e2 => exact h21 (e2.trans (by decide))
  | 22, _, e2 => exact h22 (e2.trans (by decide))
  | 23, _, e2 => exact h23 (e2.trans (by decide))
  | 24, _, e2 => exact h24 (e2.trans (by decide))
  | 25, _, e2 => exact h25 (e2.trans (by decide))
  | 26, _, e2 => exact h26 (e2.trans (by decide))
  | 27, _, e2 => exact h27 (e2.trans (by decide))
  | 28, _, e2 => exact h28 (e2.trans (by decide))
  | 29, _, e2 => exact h29 (e2.trans (by decide))
  | 30, _, e2 => exact h30 (e2.trans (by decide))
  | 31, _, e2 => exact h31 (e2.trans (by decide))
  | 32, _, e2 => exact h32 (e2.trans (by decide))
  | 33, _, e2 => exact h33 (e2.trans (by decide))
  | 34, _, e2 => exact h34 (e2.trans (by decide))
  | 35, _, e2 => exact h35 (e2.trans (by decide))
  | 36, _, e2 => exact h36 (e2.trans (by decide))
  | 37, _, e2 => exact h37 (e2.trans (by decide))
  | 38, _, e2 => exact h38 (e2.trans (by decide))
  | 39, _, e2 => exact h39 (e2.trans (by decide))
  | 40, _, e2 => exact h40 (e2.trans (by decide))
  | 41, _, e2 => exact h41 (e2.trans (by decide))
  | k + 42, h, _ => exact absurd h (by omega)
set_option maxRecDepth 100000 in
set_option maxHeartbeats 8000000 in
theorem law_loop {p : Program} {l : Launch} {e : Env} {s : State} {m : MethodId} {below : List Frame} {meth : Method} {c : Code} {G : GG} {b L : Nat} {xs : Nat → Int32} {a1 a2 : Nat → Nat} {Rel : Ww → Md → Prop} (hL : L ≤ 384) (C0 : Cx p s m #[Value.ref b] meth c G (fun q => s.heap.size ≤ q) RL code 4 ret) (hX : va_X b L xs s s.heap) (hbl : b < s.heap.size) (hS : Sim Rel) : ∀ (k i : Nat) (x3 : Int32) (x : Ww) (y : Md) (H : Heap) (locs : List Loc) (ls : Array Slot), L < i + k → i ≤ L → x3 = nI i → Rel x y → lv_has ls 4 [(0, .ref b), (1, .ref (a1 0)), (2, .ref (a2 0)), (3, .int x3)] → Wd G (fun q => s.heap.size ≤ q) s.heap H (bWw G a1 0 x ++ bMd G a2 0 y) locs → W p l e room_1 s m #[Value.ref b] below meth c H locs 92 10666 (lw_Z below #[Value.ref b] s) (F0 m 18 ls []) := by
  have hx := C0.1
  have hb := C0.2.1
  have hbA : ¬ (fun q : Nat => s.heap.size ≤ q) b := Nat.not_le.mpr hbl
  have hcs : 92 ≤ room_1.cells ∧ 10666 ≤ room_1.slots := ⟨Nat.le_of_ble_eq_true rfl, Nat.le_of_ble_eq_true rfl⟩
  intro k
  induction k with
  | zero => intro i x3 x y H locs ls h1 h2; omega
  | succ k ih =>
    intro i x3 x y H locs ls h1 h2 ex hRel hl hW
    refine lv_iload_n hx hb dL_law_18 rfl (lv_at hl 3 rfl) ?_
    refine lv_aload_n hx hb dL_law_19 rfl (lv_at hl 0 rfl) ?_
    refine va_slen hx hb hX hbl hbA hW.2.2 dL_law_20 ?_
    refine lv_bipush (v := 6) hx hb dL_law_21 (by decide) ?_
    refine lv_isub hx hb dL_law_23 ?_
    refine lv_icmp_gt (tgt := 1271) hx hb dL_law_24 (by decide) (fun c9 => ?_) (fun c9 => ?_)
    · refine lv_iconst (v := 1) hx hb dL_law_1271 (by decide) ?_
      refine va_forget (fun q hq => hW.2.2.2.2 q hq) ?_
      refine W.widen (k := 600000) (n := 7302250) (by omega) (by omega) ?_
      exact lw_ret hx hb C0.2.2.2.1 C0.2.2.2.2.1 dL_law_1272
    · have h6 := ll_le hL h2 ex c9
      have hi0 : vp_in x3 L := by rw [ex]; exact vp_in_nI (by omega) (by omega)
      have hi1 : vp_in (x3 + 1) L := ll_in hL ex 1 (by omega)
      have hi2 : vp_in (x3 + 2) L := ll_in hL ex 2 (by omega)
      have hi3 : vp_in (x3 + 3) L := ll_in hL ex 3 (by omega)
      have hi4 : vp_in (x3 + 4) L := ll_in hL ex 4 (by omega)
      have hi5 : vp_in (x3 + 5) L := ll_in hL ex 5 (by omega)
      have back : ∀ (x1 : Ww) (y1 : Md) (H1 : Heap) (locs1 : List Loc), Rel x1 y1 → Wd G (fun q => s.heap.size ≤ q) s.heap H1 (bWw G a1 0 x1 ++ bMd G a2 0 y1) locs1 → W p l e room_1 s m #[Value.ref b] below meth c H1 locs1 92 10666 (lw_Z below #[Value.ref b] s) (F0 m 1265 ls []) := by
        intro x1 y1 H1 locs1 hR1 hW1
        refine lv_iinc (v := x3 + 6) (lv' := [(3, .int (x3 + 6)), (0, .ref b), (1, .ref (a1 0)), (2, .ref (a2 0))]) hx hb dL_law_1265 hl (k := 3) rfl rfl (by decide) rfl (fun ls hl => ?_)
        refine lv_goto (tgt := 18) hx hb dL_law_1268 (by decide) ?_
        exact ih (i + 6) (x3 + 6) x1 y1 H1 locs1 ls (by omega) h6 (by rw [ex]; exact nI_add i 6) hR1 (lv_sub hl [1, 2, 3, 0] rfl) hW1
      refine lv_aload_n hx hb dL_law_27 rfl (lv_at hl 0 rfl) ?_
      refine lv_iload_n hx hb dL_law_28 rfl (lv_at hl 3 rfl) ?_
      refine va_sld hx hb hX hbl hbA hW.2.2 hi0 dL_law_29 ?_
      refine lv_bipush (v := 63) hx hb dL_law_30 (by decide) ?_
      refine lv_iand hx hb dL_law_32 ?_
      refine lv_topi (fun X eX => ?_)
      by_cases s0 : X = 0
      · refine lv_tableIn (off := 183) (tgt := 216) hx hb dL_law_33 (by rw [s0]; decide) (by rw [s0]; decide) (by rw [s0]; rfl) (by decide) ?_
        exact lc_row C0 hX hbl hcs (hS.1) hRel hl hi1 hi2 hW back
      by_cases s1 : X = 1
      · refine lv_tableIn (off := 216) (tgt := 249) hx hb dL_law_33 (by rw [s1]; decide) (by rw [s1]; decide) (by rw [s1]; rfl) (by decide) ?_
        exact lc_lay C0 hX hbl hcs (hS.2.1) hRel hl hi1 hi2 hi3 hW back
      by_cases s2 : X = 2
      · refine lv_tableIn (off := 259) (tgt := 292) hx hb dL_law_33 (by rw [s2]; decide) (by rw [s2]; decide) (by rw [s2]; rfl) (by decide) ?_
        exact lc_at C0 hX hbl hcs (hS.2.2.1) hRel hl hi1 hi2 hW back
      by_cases s3 : X = 3
      · refine lv_tableIn (off := 292) (tgt := 325) hx hb dL_law_33 (by rw [s3]; decide) (by rw [s3]; decide) (by rw [s3]; rfl) (by decide) ?_
        exact lc_tear C0 hX hbl hcs (hS.2.2.2.1) hRel hl hi1 hW back
      by_cases s4 : X = 4
      · refine lv_tableIn (off := 315) (tgt := 348) hx hb dL_law_33 (by rw [s4]; decide) (by rw [s4]; decide) (by rw [s4]; rfl) (by decide) ?_
        exact lc_copy C0 hX hbl hcs (hS.2.2.2.2.1) hRel hl hi1 hi2 hi3 hi4 hi5 hW back
      by_cases s5 : X = 5
      · refine lv_tableIn (off := 378) (tgt := 411) hx hb dL_law_33 (by rw [s5]; decide) (by rw [s5]; decide) (by rw [s5]; rfl) (by decide) ?_
        exact lc_mean C0 hX hbl hcs (hS.2.2.2.2.2.1) hRel hl hi1 hW back
      by_cases s6 : X = 6
      · refine lv_tableIn (off := 401) (tgt := 434) hx hb dL_law_33 (by rw [s6]; decide) (by rw [s6]; decide) (by rw [s6]; rfl) (by decide) ?_
        exact lc_text C0 hX hbl hcs (hS.2.2.2.2.2.2.1) hRel hl hi1 hi2 hW back
      by_cases s7 : X = 7
      · refine lv_tableIn (off := 434) (tgt := 467) hx hb dL_law_33 (by rw [s7]; decide) (by rw [s7]; decide) (by rw [s7]; rfl) (by decide) ?_
        exact lc_put C0 hX hbl hcs (hS.2.2.2.2.2.2.2.1) hRel hl hi1 hi2 hi3 hW back
      by_cases s8 : X = 8
      · refine lv_tableIn (off := 477) (tgt := 510) hx hb dL_law_33 (by rw [s8]; decide) (by rw [s8]; decide) (by rw [s8]; rfl) (by decide) ?_
        exact lc_fault C0 hX hbl hcs (hS.2.2.2.2.2.2.2.2.1) hRel hl hi1 hW back
      by_cases s9 : X = 9
      · refine lv_tableIn (off := 500) (tgt := 533) hx hb dL_law_33 (by rw [s9]; decide) (by rw [s9]; decide) (by rw [s9]; rfl) (by decide) ?_
        exact lc_wheel C0 hX hbl hcs (hS.2.2.2.2.2.2.2.2.2.1) hRel hl hi1 hW back
      by_cases s10 : X = 10
      · refine lv_tableIn (off := 523) (tgt := 556) hx hb dL_law_33 (by rw [s10]; decide) (by rw [s10]; decide) (by rw [s10]; rfl) (by decide) ?_
        exact lc_spoke C0 hX hbl hcs (hS.2.2.2.2.2.2.2.2.2.2.1) hRel hl hi1 hi2 hW back
      by_cases s11 : X = 11
      · refine lv_tableIn (off := 556) (tgt := 589) hx hb dL_law_33 (by rw [s11]; decide) (by rw [s11]; decide) (by rw [s11]; rfl) (by decide) ?_
        exact lc_mark C0 hX hbl hcs (hS.2.2.2.2.2.2.2.2.2.2.2.1) hRel hl hi1 hi2 hW back
      by_cases s12 : X = 12
      · refine lv_tableIn (off := 589) (tgt := 622) hx hb dL_law_33 (by rw [s12]; decide) (by rw [s12]; decide) (by rw [s12]; rfl) (by decide) ?_
        exact lc_bears C0 hX hbl hcs (hS.2.2.2.2.2.2.2.2.2.2.2.2.1) hRel hl hi1 hi2 hi3 hW back
      by_cases s13 : X = 13
      · refine lv_tableIn (off := 632) (tgt := 665) hx hb dL_law_33 (by rw [s13]; decide) (by rw [s13]; decide) (by rw [s13]; rfl) (by decide) ?_
        exact lc_step C0 hX hbl hcs (hS.2.2.2.2.2.2.2.2.2.2.2.2.2.1) hRel hl  hW back
      by_cases s14 : X = 14
      · refine lv_tableIn (off := 645) (tgt := 678) hx hb dL_law_33 (by rw [s14]; decide) (by rw [s14]; decide) (by rw [s14]; rfl) (by decide) ?_
        exact lc_soak C0 hX hbl hcs (hS.2.2.2.2.2.2.2.2.2.2.2.2.2.2.1) hRel hl  hW back
      by_cases s15 : X = 15
      · refine lv_tableIn (off := 658) (tgt := 691) hx hb dL_law_33 (by rw [s15]; decide) (by rw [s15]; decide) (by rw [s15]; rfl) (by decide) ?_
        exact lc_weather C0 hX hbl hcs (hS.2.2.2.2.2.2.2.2.2.2.2.2.2.2.2.1) hRel hl  hW back
      by_cases s16 : X = 16
      · refine lv_tableIn (off := 671) (tgt := 704) hx hb dL_law_33 (by rw [s16]; decide) (by rw [s16]; decide) (by rw [s16]; rfl) (by decide) ?_
        exact lc_knock C0 hX hbl hcs (hS.2.2.2.2.2.2.2.2.2.2.2.2.2.2.2.2.1) hRel hl hi1 hW back
      by_cases s17 : X = 17
      · refine lv_tableIn (off := 694) (tgt := 727) hx hb dL_law_33 (by rw [s17]; decide) (by rw [s17]; decide) (by rw [s17]; rfl) (by decide) ?_
        exact lc_mend C0 hX hbl hcs (hS.2.2.2.2.2.2.2.2.2.2.2.2.2.2.2.2.2.1) hRel hl hi1 hW back
      by_cases s18 : X = 18
      · refine lv_tableIn (off := 717) (tgt := 750) hx hb dL_law_33 (by rw [s18]; decide) (by rw [s18]; decide) (by rw [s18]; rfl) (by decide) ?_
        exact lc_undo C0 hX hbl hcs (hS.2.2.2.2.2.2.2.2.2.2.2.2.2.2.2.2.2.2.1) hRel hl hi1 hW back
      by_cases s19 : X = 19
      · refine lv_tableIn (off := 740) (tgt := 773) hx hb dL_law_33 (by rw [s19]; decide) (by rw [s19]; decide) (by rw [s19]; rfl) (by decide) ?_
        exact lc_keep C0 hX hbl hcs (hS.2.2.2.2.2.2.2.2.2.2.2.2.2.2.2.2.2.2.2.1) hRel hl hi1 hW back
      by_cases s20 : X = 20
      · refine lv_tableIn (off := 763) (tgt := 796) hx hb dL_law_33 (by rw [s20]; decide) (by rw [s20]; decide) (by rw [s20]; rfl) (by decide) ?_
        exact lc_on C0 hX hbl hcs (hS.2.2.2.2.2.2.2.2.2.2.2.2.2.2.2.2.2.2.2.2.1) hRel hl hi1 hW back
      by_cases s21 : X = 21
      · refine lv_tableIn (off := 786) (tgt := 819) hx hb dL_law_33 (by rw [s21]; decide) (by rw [s21]; decide) (by rw [s21]; rfl) (by decide) ?_
        exact lc_goes C0 hX hbl hcs (hS.2.2.2.2.2.2.2.2.2.2.2.2.2.2.2.2.2.2.2.2.2.1) hRel hl hi1 hW back
      by_cases s22 : X = 22
      · refine lv_tableIn (off := 809) (tgt := 842) hx hb dL_law_33 (by rw [s22]; decide) (by rw [s22]; decide) (by rw [s22]; rfl) (by decide) ?_
        exact lc_over C0 hX hbl hcs (hS.2.2.2.2.2.2.2.2.2.2.2.2.2.2.2.2.2.2.2.2.2.2.1) hRel hl  hW back
      by_cases s23 : X = 23
      · refine lv_tableIn (off := 822) (tgt := 855) hx hb dL_law_33 (by rw [s23]; decide) (by rw [s23]; decide) (by rw [s23]; rfl) (by decide) ?_
        exact lc_limps C0 hX hbl hcs (hS.2.2.2.2.2.2.2.2.2.2.2.2.2.2.2.2.2.2.2.2.2.2.2.1) hRel hl hi1 hi2 hW back
      by_cases s24 : X = 24
      · refine lv_tableIn (off := 855) (tgt := 888) hx hb dL_law_33 (by rw [s24]; decide) (by rw [s24]; decide) (by rw [s24]; rfl) (by decide) ?_
        exact lc_gate C0 hX hbl hcs (hS.2.2.2.2.2.2.2.2.2.2.2.2.2.2.2.2.2.2.2.2.2.2.2.2.1) hRel hl  hW back
      by_cases s25 : X = 25
      · refine lv_tableIn (off := 868) (tgt := 901) hx hb dL_law_33 (by rw [s25]; decide) (by rw [s25]; decide) (by rw [s25]; rfl) (by decide) ?_
        exact lc_turned C0 hX hbl hcs (hS.2.2.2.2.2.2.2.2.2.2.2.2.2.2.2.2.2.2.2.2.2.2.2.2.2.1) hRel hl  hW back
      by_cases s26 : X = 26
      · refine lv_tableIn (off := 881) (tgt := 914) hx hb dL_law_33 (by rw [s26]; decide) (by rw [s26]; decide) (by rw [s26]; rfl) (by decide) ?_
        exact lc_change C0 hX hbl hcs (hS.2.2.2.2.2.2.2.2.2.2.2.2.2.2.2.2.2.2.2.2.2.2.2.2.2.2.1) hRel hl  hW back
      by_cases s27 : X = 27
      · refine lv_tableIn (off := 894) (tgt := 927) hx hb dL_law_33 (by rw [s27]; decide) (by rw [s27]; decide) (by rw [s27]; rfl) (by decide) ?_
        exact lc_gone C0 hX hbl hcs (hS.2.2.2.2.2.2.2.2.2.2.2.2.2.2.2.2.2.2.2.2.2.2.2.2.2.2.2.1) hRel hl hi1 hW back
      by_cases s28 : X = 28
      · refine lv_tableIn (off := 917) (tgt := 950) hx hb dL_law_33 (by rw [s28]; decide) (by rw [s28]; decide) (by rw [s28]; rfl) (by decide) ?_
        exact lc_strengths C0 hX hbl hcs (hS.2.2.2.2.2.2.2.2.2.2.2.2.2.2.2.2.2.2.2.2.2.2.2.2.2.2.2.2.1) hRel hl hi1 hi2 hW back
      by_cases s29 : X = 29
      · refine lv_tableIn (off := 950) (tgt := 983) hx hb dL_law_33 (by rw [s29]; decide) (by rw [s29]; decide) (by rw [s29]; rfl) (by decide) ?_
        exact lc_kinds C0 hX hbl hcs (hS.2.2.2.2.2.2.2.2.2.2.2.2.2.2.2.2.2.2.2.2.2.2.2.2.2.2.2.2.2.1) hRel hl hi1 hi2 hW back
      by_cases s30 : X = 30
      · refine lv_tableIn (off := 983) (tgt := 1016) hx hb dL_law_33 (by rw [s30]; decide) (by rw [s30]; decide) (by rw [s30]; rfl) (by decide) ?_
        exact lc_look C0 hX hbl hcs (hS.2.2.2.2.2.2.2.2.2.2.2.2.2.2.2.2.2.2.2.2.2.2.2.2.2.2.2.2.2.2.1) hRel hl hi1 hW back
      by_cases s31 : X = 31
      · refine lv_tableIn (off := 1006) (tgt := 1039) hx hb dL_law_33 (by rw [s31]; decide) (by rw [s31]; decide) (by rw [s31]; rfl) (by decide) ?_
        exact lc_duel C0 hX hbl hcs (hS.2.2.2.2.2.2.2.2.2.2.2.2.2.2.2.2.2.2.2.2.2.2.2.2.2.2.2.2.2.2.2.1) hRel hl hi1 hW back
      by_cases s32 : X = 32
      · refine lv_tableIn (off := 1029) (tgt := 1062) hx hb dL_law_33 (by rw [s32]; decide) (by rw [s32]; decide) (by rw [s32]; rfl) (by decide) ?_
        exact lc_odds C0 hX hbl hcs (hS.2.2.2.2.2.2.2.2.2.2.2.2.2.2.2.2.2.2.2.2.2.2.2.2.2.2.2.2.2.2.2.2.1) hRel hl hi1 hi2 hW back
      by_cases s33 : X = 33
      · refine lv_tableIn (off := 1062) (tgt := 1095) hx hb dL_law_33 (by rw [s33]; decide) (by rw [s33]; decide) (by rw [s33]; rfl) (by decide) ?_
        exact lc_mid C0 hX hbl hcs (hS.2.2.2.2.2.2.2.2.2.2.2.2.2.2.2.2.2.2.2.2.2.2.2.2.2.2.2.2.2.2.2.2.2.1) hRel hl hi1 hW back
      by_cases s34 : X = 34
      · refine lv_tableIn (off := 1085) (tgt := 1118) hx hb dL_law_33 (by rw [s34]; decide) (by rw [s34]; decide) (by rw [s34]; rfl) (by decide) ?_
        exact lc_lots C0 hX hbl hcs (hS.2.2.2.2.2.2.2.2.2.2.2.2.2.2.2.2.2.2.2.2.2.2.2.2.2.2.2.2.2.2.2.2.2.2.1) hRel hl hi1 hi2 hW back
      by_cases s35 : X = 35
      · refine lv_tableIn (off := 1118) (tgt := 1151) hx hb dL_law_33 (by rw [s35]; decide) (by rw [s35]; decide) (by rw [s35]; rfl) (by decide) ?_
        exact lc_asked C0 hX hbl hcs (hS.2.2.2.2.2.2.2.2.2.2.2.2.2.2.2.2.2.2.2.2.2.2.2.2.2.2.2.2.2.2.2.2.2.2.2.1) hRel hl  hW back
      by_cases s36 : X = 36
      · refine lv_tableIn (off := 1131) (tgt := 1164) hx hb dL_law_33 (by rw [s36]; decide) (by rw [s36]; decide) (by rw [s36]; rfl) (by decide) ?_
        exact lc_upper C0 hX hbl hcs (hS.2.2.2.2.2.2.2.2.2.2.2.2.2.2.2.2.2.2.2.2.2.2.2.2.2.2.2.2.2.2.2.2.2.2.2.2.1) hRel hl  hW back
      by_cases s37 : X = 37
      · refine lv_tableIn (off := 1145) (tgt := 1178) hx hb dL_law_33 (by rw [s37]; decide) (by rw [s37]; decide) (by rw [s37]; rfl) (by decide) ?_
        exact lc_lower C0 hX hbl hcs (hS.2.2.2.2.2.2.2.2.2.2.2.2.2.2.2.2.2.2.2.2.2.2.2.2.2.2.2.2.2.2.2.2.2.2.2.2.2.1) hRel hl  hW back
      by_cases s38 : X = 38
      · refine lv_tableIn (off := 1159) (tgt := 1192) hx hb dL_law_33 (by rw [s38]; decide) (by rw [s38]; decide) (by rw [s38]; rfl) (by decide) ?_
        exact lc_count C0 hX hbl hcs (hS.2.2.2.2.2.2.2.2.2.2.2.2.2.2.2.2.2.2.2.2.2.2.2.2.2.2.2.2.2.2.2.2.2.2.2.2.2.2.1) hRel hl hi1 hW back
      by_cases s39 : X = 39
      · refine lv_tableIn (off := 1182) (tgt := 1215) hx hb dL_law_33 (by rw [s39]; decide) (by rw [s39]; decide) (by rw [s39]; rfl) (by decide) ?_
        exact lc_finding C0 hX hbl hcs (hS.2.2.2.2.2.2.2.2.2.2.2.2.2.2.2.2.2.2.2.2.2.2.2.2.2.2.2.2.2.2.2.2.2.2.2.2.2.2.2.1) hRel hl  hW back
      by_cases s40 : X = 40
      · refine lv_tableIn (off := 1195) (tgt := 1228) hx hb dL_law_33 (by rw [s40]; decide) (by rw [s40]; decide) (by rw [s40]; rfl) (by decide) ?_
        exact lc_findings C0 hX hbl hcs (hS.2.2.2.2.2.2.2.2.2.2.2.2.2.2.2.2.2.2.2.2.2.2.2.2.2.2.2.2.2.2.2.2.2.2.2.2.2.2.2.2.1) hRel hl hi1 hW back
      by_cases s41 : X = 41
      · refine lv_tableIn (off := 1218) (tgt := 1251) hx hb dL_law_33 (by rw [s41]; decide) (by rw [s41]; decide) (by rw [s41]; rfl) (by decide) ?_
        exact lc_digest C0 hX hbl hcs (hS.2.2.2.2.2.2.2.2.2.2.2.2.2.2.2.2.2.2.2.2.2.2.2.2.2.2.2.2.2.2.2.2.2.2.2.2.2.2.2.2.2) hRel hl  hW back
      refine lv_tableOut (tgt := 1265) hx hb dL_law_33 (ll_out ⟨s0, s1, s2, s3, s4, s5, s6, s7, s8, s9, s10, s11, s12, s13, s14, s15, s16, s17, s18, s19, s20, s21, s22, s23, s24, s25, s26, s27, s28, s29, s30, s31, s32, s33, s34, s35, s36, s37, s38, s39, s40, s41⟩) (by decide) ?_
      exact back x y H locs hRel hW
