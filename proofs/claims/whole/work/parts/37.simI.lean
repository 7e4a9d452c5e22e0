/-! PURE SIDE: step soak weather knock mend -/
theorem cEmpty {w : Wh} {n : Nat} (h : wh_spokes w = nI n) (hn : n ≤ 8) : f_X4_isEmpty w = some (nI (if n = 0 then 1 else 0)) := by
  unfold f_X4_isEmpty
  rw [h]
  by_cases e : n = 0
  · subst e; rfl
  · rw [if_neg (nI_ne0 (by omega) (by omega)), if_neg e]; rfl
theorem cEmpty0 {w : Wh} {c : Cfg} {d : Dyn} (hW : RW w c d) (h0 : cN c = 0) : f_X4_isEmpty w = some 1 := by
  rw [cEmpty hW.1 (by omega), if_pos h0]; rfl
theorem cEmpty1 {w : Wh} {c : Cfg} {d : Dyn} (hW : RW w c d) (hC : okC c) (h0 : 3 ≤ cN c) : f_X4_isEmpty w = some 0 := by
  rw [cEmpty hW.1 (okC_n hC), if_neg (by omega)]; rfl
theorem mn0 {y : Md} {c : Cfg} (hM : RM y c) (h0 : cN c = 0) : md_n y = 0 := by rw [hM.1, h0]; rfl
theorem mn1 {y : Md} {c : Cfg} (hM : RM y c) (hC : okC c) (h0 : 3 ≤ cN c) : ¬ md_n y = 0 := by rw [hM.1]; have := okC_n hC; exact nI_ne0 (by omega) (by omega)
theorem okC_3 {c : Cfg} (hC : okC c) (h0 : ¬ cN c = 0) : 3 ≤ cN c := by rcases hC.1 with h | h <;> omega
theorem isSpoke_bad {w : Wh} {n : Nat} {v : Int32} (hs : wh_spokes w = nI n) (h : v < 0 ∨ nI n ≤ v) : f_X4_isSpoke w v = some 0 := by
  unfold f_X4_isSpoke
  by_cases h0 : v < 0
  · rw [if_pos h0]
  · rw [if_neg h0, hs, if_pos (h.resolve_left h0)]
theorem isSpoke_in {w : Wh} {n i : Nat} (hs : wh_spokes w = nI n) (hn : n ≤ 8) (hi : i < n) : f_X4_isSpoke w (nI i) = some 1 := by
  unfold f_X4_isSpoke
  rw [if_neg (nI_pos (by omega)), hs, if_neg (nI_ge hi (by omega))]
theorem mSpoke_bad {y : Md} {n : Nat} {v : Int32} (hs : md_n y = nI n) (hn : n ≤ 8) (h : v < 0 ∨ nI n ≤ v) : f_X6_isSpoke y v = some 0 := by
  unfold f_X6_isSpoke
  rw [hs, in_bad (by omega) h]; rfl
theorem mSpoke_in {y : Md} {n i : Nat} (hs : md_n y = nI n) (hn : n ≤ 8) (hi : i < n) : f_X6_isSpoke y (nI i) = some 1 := by
  unfold f_X6_isSpoke
  rw [hs, in_good (by omega) hi]; rfl
theorem doDeed_ok {x : Ww} {c : Cfg} {E : List (Nat × Nat)} (hR : RC (ww_cart x) c E) (hC : okC c) (hE : okE c E) (h3 : 3 ≤ cN c) (hl : E.length < 40) {e : Nat × Nat} (he : okA c e) : ∃ ct, f_X5_doDeed x (nI e.1) (nI e.2) = some (nI (ansN c (repN c E) e), ww_set_cart x ct) ∧ RC ct c (E ++ [e]) := by
  obtain ⟨ct, e1, h1⟩ := add_ok hR hC hE h3 hl he
  refine ⟨ct, ?_, h1⟩
  unfold f_X5_doDeed
  rw [hR.2.1, if_pos (show nI E.length < 40 from nI_lt hl (by decide)), e1]; rfl
theorem doDeed_full {x : Ww} {c : Cfg} {E : List (Nat × Nat)} (hR : RC (ww_cart x) c E) (hl : ¬ E.length < 40) (h40 : E.length ≤ 40) (a b : Int32) : f_X5_doDeed x a b = some (-2, x) := by
  unfold f_X5_doDeed
  rw [hR.2.1, show E.length = 40 by omega, if_neg (by decide)]
theorem m40 {y : Md} {E : List (Nat × Nat)} (hd : md_deedMany y = nI E.length) (hl : ¬ E.length < 40) (h40 : E.length ≤ 40) : md_deedMany y = 40 := by rw [hd, show E.length = 40 by omega]; rfl
theorem m41 {y : Md} {E : List (Nat × Nat)} (hd : md_deedMany y = nI E.length) (hl : E.length < 40) : ¬ md_deedMany y = 40 := by
  rw [hd]
  intro e
  have := (nI_eq (a := E.length) (b := 40) (by omega) (by decide)).mp e
  omega
theorem s_step : S_step Rel := by
  intro x y h
  obtain ⟨hT, hR, hX, c, E, hWE⟩ := h
  obtain ⟨hC, hE, hRC, hM, hd, hN, hL, hK⟩ := id hWE
  obtain ⟨o1, o2⟩ := okD_rep hC hE
  have h40 := hE.1
  unfold f_X5_step f_X6_step
  by_cases h0 : cN c = 0
  · rw [cEmpty0 hRC.1 h0, if_pos (mn0 hM h0)]
    exact ⟨-4, x, y, rfl, rfl, hT, hR, hX, c, E, hWE⟩
  · have h3 := okC_3 hC h0
    rw [cEmpty1 hRC.1 hC h3, if_neg (mn1 hM hC h3), RW_over hRC.1 hC o1, mover_now hM.1 hN.2.2.2.1 (okC_n hC) (there_lt hC o1)]
    rw [ob_some, ob_some, ob_some, if_pos (show (0 : Int32) = 0 from rfl)]
    by_cases ho : overN (cN c) (dThere (repN c E)) = true
    · rw [if_pos ho, if_neg (show ¬ nI 1 = 0 by decide), if_neg (show ¬ nI 1 = 0 by decide)]
      exact ⟨-4, x, y, rfl, rfl, hT, hR, hX, c, E, hWE⟩
    · rw [if_neg ho, if_pos (show nI 0 = 0 from nI_0), if_pos (show nI 0 = 0 from nI_0)]
      by_cases hl : E.length < 40
      · have he : okA c (0, 0) := ⟨by decide, by decide, fun h => absurd h (by decide)⟩
        obtain ⟨ct, e1, h1⟩ := doDeed_ok hRC hC hE h3 hl he
        obtain ⟨L, vv, hv, e2, l1, l2⟩ := rem_ok hd hl
        obtain ⟨t1, e3, h4⟩ := steps_now_ok (y := md_set_deedMany (md_set_log y L) vv) (RM_dl hM L _) hN hC o1 h3 (by omega)
        refine ⟨nI (if (stepN c (repN c E)).1 then 1 else 0), ww_set_cart x ct, md_set_now (md_set_deedMany (md_set_log y L) vv) t1, ?_, ?_, relD hT hR hX (deedW hWE h3 hl he hv h1 l1 l2 h4)⟩
        · rw [show f_X5_doDeed x 0 0 = _ from e1]; rfl
        · rw [if_neg (m41 hd hl), e2, ob_some, e3, ob_some]
          by_cases hb : (stepN c (repN c E)).1 = true
          · rw [if_pos hb, if_neg (show ¬ nI 1 = 0 by decide)]; rfl
          · rw [if_neg hb, if_pos (show nI 0 = 0 from nI_0)]; rfl
      · rw [doDeed_full hRC hl h40, if_pos (m40 hd hl h40)]
        exact ⟨-2, x, y, rfl, rfl, hT, hR, hX, c, E, hWE⟩
theorem need_ok {y : Md} {c : Cfg} {E : List (Nat × Nat)} (hM : RM y c) (hC : okC c) (hd : md_deedMany y = nI E.length) (h40 : E.length ≤ 40) : f_X6_need y = some (if cN c = 0 then -4 else if E.length < 40 then 0 else -2) := by
  unfold f_X6_need
  by_cases h0 : cN c = 0
  · rw [if_pos (mn0 hM h0), if_pos h0]
  · have h3 := okC_3 hC h0
    rw [if_neg (mn1 hM hC h3), if_neg h0]
    by_cases hl : E.length < 40
    · rw [if_neg (m41 hd hl), if_pos hl]
    · rw [if_pos (m40 hd hl h40), if_neg hl]
theorem s_soak : S_soak Rel := by
  intro x y h
  obtain ⟨hT, hR, hX, c, E, hWE⟩ := h
  obtain ⟨hC, hE, hRC, hM, hd, hN, hL, hK⟩ := id hWE
  obtain ⟨o1, o2⟩ := okD_rep hC hE
  have h40 := hE.1
  unfold f_X5_soak f_X6_soak
  rw [need_ok hM hC hd h40]
  by_cases h0 : cN c = 0
  · rw [cEmpty0 hRC.1 h0, if_pos h0]
    exact ⟨-4, x, y, rfl, rfl, hT, hR, hX, c, E, hWE⟩
  · have h3 := okC_3 hC h0
    rw [cEmpty1 hRC.1 hC h3, if_neg h0]
    by_cases hl : E.length < 40
    · rw [if_pos hl]
      have he : okA c (1, 0) := ⟨by decide, by decide, fun h => absurd h (by decide)⟩
      obtain ⟨ct, e1, h1⟩ := doDeed_ok hRC hC hE h3 hl he
      obtain ⟨L, vv, hv, e2, l1, l2⟩ := rem_ok hd hl
      obtain ⟨t1, e3, h4⟩ := msoak_ok hN hC o1
      refine ⟨nI (sumN (fun i => dWear (repN c E) i / 2) (cN c)), ww_set_cart x ct, md_set_now (md_set_deedMany (md_set_log y L) vv) t1, ?_, ?_, relD hT hR hX (deedW hWE h3 hl he hv h1 l1 l2 h4)⟩
      · show Option.bind (f_X5_doDeed x 1 0) _ = _
        rw [show f_X5_doDeed x 1 0 = _ from e1]; rfl
      · show Option.bind (f_X6_remember y) _ = _
        rw [e2, ob_some]
        show Option.bind (f_X6_soaks 12 (md_now y)) _ = _
        rw [e3]; rfl
    · rw [if_neg hl]
      refine ⟨-2, x, y, ?_, rfl, hT, hR, hX, c, E, hWE⟩
      show Option.bind (f_X5_doDeed x 1 0) _ = _
      rw [doDeed_full hRC hl h40]; rfl
theorem s_weather : S_weather Rel := by
  intro x y h
  obtain ⟨hT, hR, hX, c, E, hWE⟩ := h
  obtain ⟨hC, hE, hRC, hM, hd, hN, hL, hK⟩ := id hWE
  obtain ⟨o1, o2⟩ := okD_rep hC hE
  have h40 := hE.1
  unfold f_X5_weather f_X6_weather
  rw [need_ok hM hC hd h40]
  by_cases h0 : cN c = 0
  · rw [cEmpty0 hRC.1 h0, if_pos h0]
    exact ⟨-4, x, y, rfl, rfl, hT, hR, hX, c, E, hWE⟩
  · have h3 := okC_3 hC h0
    rw [cEmpty1 hRC.1 hC h3, if_neg h0]
    by_cases hl : E.length < 40
    · rw [if_pos hl]
      have he : okA c (2, 0) := ⟨by decide, by decide, fun h => absurd h (by decide)⟩
      obtain ⟨ct, e1, h1⟩ := doDeed_ok hRC hC hE h3 hl he
      obtain ⟨L, vv, hv, e2, l1, l2⟩ := rem_ok hd hl
      obtain ⟨h4, h5⟩ := mweather_ok hN o1
      refine ⟨nI (1 - dDry (repN c E)), ww_set_cart x ct, md_set_now (md_set_deedMany (md_set_log y L) vv) (upd (md_now y) 2 (1 - md_now y 2)), ?_, ?_, relD hT hR hX (deedW hWE h3 hl he hv h1 l1 l2 h4)⟩
      · show Option.bind (f_X5_doDeed x 2 0) _ = _
        rw [show f_X5_doDeed x 2 0 = _ from e1]; rfl
      · show Option.bind (f_X6_remember y) _ = _
        rw [e2, ob_some]
        show some (upd (md_now y) 2 (1 - md_now y 2) 2, _) = _
        rw [upd_s]
        exact congrArg (fun z => some (z, md_set_now (md_set_deedMany (md_set_log y L) vv) (upd (md_now y) 2 (1 - md_now y 2)))) h5
    · rw [if_neg hl]
      refine ⟨-2, x, y, ?_, rfl, hT, hR, hX, c, E, hWE⟩
      show Option.bind (f_X5_doDeed x 2 0) _ = _
      rw [doDeed_full hRC hl h40]; rfl
theorem s_knock : S_knock Rel := by
  intro x y h v
  obtain ⟨hT, hR, hX, c, E, hWE⟩ := h
  obtain ⟨hC, hE, hRC, hM, hd, hN, hL, hK⟩ := id hWE
  obtain ⟨o1, o2⟩ := okD_rep hC hE
  have h40 := hE.1
  have hn := okC_n hC
  have ht := there_lt hC o1
  unfold f_X5_knock f_X6_knock
  rcases num_cases v (cN c) (by omega) with hb | ⟨i, hi, rfl⟩
  · rw [isSpoke_bad hRC.1.1 hb, mSpoke_bad hM.1 hn hb]
    exact ⟨-1, x, y, rfl, rfl, hT, hR, hX, c, E, hWE⟩
  · have h3 := okC_3 hC (by omega)
    rw [isSpoke_in hRC.1.1 hn hi, mSpoke_in hM.1 hn hi, isThere_ok hRC.1.2.2.2.2.1 ht (by omega), show md_now y 3 = nI (dThere (repN c E)) from hN.2.2.2.1, has_ok ht (by omega)]
    rw [ob_some, if_neg (show ¬ (1 : Int32) = 0 by decide), ob_some, ob_some, if_neg (show ¬ (1 : Int32) = 0 by decide), ob_some]
    by_cases hb : (dThere (repN c E)).testBit i = true
    · rw [if_pos hb, if_neg (show ¬ nI 1 = 0 by decide), if_neg (show ¬ nI 1 = 0 by decide)]
      by_cases hl : E.length < 40
      · have he : okA c (3, i) := ⟨by show 3 ≤ 4; omega, by show i < 8; omega, fun _ => hi⟩
        obtain ⟨ct, e1, h1⟩ := doDeed_ok hRC hC hE h3 hl he
        obtain ⟨L, vv, hv, e2, l1, l2⟩ := rem_ok hd hl
        have h4 := mknock_ok hN hC o1 hi
        refine ⟨nI (dWear (repN c E) i), ww_set_cart x ct, md_set_now (md_set_deedMany (md_set_log y L) vv) (upd (md_now y) 3 (md_now y 3 &&& (jshl 1 (nI i) ^^^ -1))), ?_, ?_, relD hT hR hX (deedW hWE h3 hl he hv h1 l1 l2 h4)⟩
        · rw [show f_X5_doDeed x 3 (nI i) = _ from e1]; rfl
        · rw [if_neg (m41 hd hl), e2, ob_some, gd4 (by omega), ix4 (by omega)]
          show some (upd (md_now y) 3 (md_now y 3 &&& (jshl 1 (nI i) ^^^ -1)) (4 + i), _) = _
          rw [upd_n (by omega), RT4 hN (by omega)]; rfl
      · rw [doDeed_full hRC hl h40, if_pos (m40 hd hl h40)]
        exact ⟨-2, x, y, rfl, rfl, hT, hR, hX, c, E, hWE⟩
    · rw [if_neg hb, if_pos (show nI 0 = 0 from nI_0), if_pos (show nI 0 = 0 from nI_0)]
      exact ⟨-4, x, y, rfl, rfl, hT, hR, hX, c, E, hWE⟩
theorem s_mend : S_mend Rel := by
  intro x y h v
  obtain ⟨hT, hR, hX, c, E, hWE⟩ := h
  obtain ⟨hC, hE, hRC, hM, hd, hN, hL, hK⟩ := id hWE
  obtain ⟨o1, o2⟩ := okD_rep hC hE
  have h40 := hE.1
  have hn := okC_n hC
  have ht := there_lt hC o1
  unfold f_X5_mend f_X6_mend
  rcases num_cases v (cN c) (by omega) with hb | ⟨i, hi, rfl⟩
  · rw [isSpoke_bad hRC.1.1 hb, mSpoke_bad hM.1 hn hb]
    exact ⟨-1, x, y, rfl, rfl, hT, hR, hX, c, E, hWE⟩
  · have h3 := okC_3 hC (by omega)
    rw [isSpoke_in hRC.1.1 hn hi, mSpoke_in hM.1 hn hi]
    rw [ob_some, ob_some, if_neg (show ¬ (1 : Int32) = 0 by decide), if_neg (show ¬ (1 : Int32) = 0 by decide)]
    by_cases hl : E.length < 40
    · have he : okA c (4, i) := ⟨by show 4 ≤ 4; omega, by show i < 8; omega, fun _ => hi⟩
      obtain ⟨ct, e1, h1⟩ := doDeed_ok hRC hC hE h3 hl he
      obtain ⟨L, vv, hv, e2, l1, l2⟩ := rem_ok hd hl
      obtain ⟨t1, e3, h4⟩ := mputs_ok hN hC o1 hi
      refine ⟨nI (if (dThere (repN c E)).testBit i then 0 else 1), ww_set_cart x ct, md_set_now (md_set_deedMany (md_set_log y L) vv) t1, ?_, ?_, relD hT hR hX (deedW hWE h3 hl he hv h1 l1 l2 h4)⟩
      · rw [show f_X5_doDeed x 4 (nI i) = _ from e1]; rfl
      · rw [if_neg (m41 hd hl), e2, ob_some, nm_eq]
        show Option.bind (f_X6_puts 12 (md_now y) (nI i)) _ = _
        rw [e3, ob_some]
        show some ((1 : Int32) - (jshr (md_now y 3) (nI i) &&& nI 1), _) = _
        rw [show md_now y 3 = nI (dThere (repN c E)) from hN.2.2.2.1, tb_has0 _ ht i (by omega)]
        by_cases hb : (dThere (repN c E)).testBit i = true
        · rw [if_pos hb, if_pos hb]; rfl
        · rw [if_neg hb, if_neg hb]; rfl
    · rw [doDeed_full hRC hl h40, if_pos (m40 hd hl h40)]
      exact ⟨-2, x, y, rfl, rfl, hT, hR, hX, c, E, hWE⟩
