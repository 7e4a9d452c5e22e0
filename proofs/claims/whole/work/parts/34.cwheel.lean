/-! PURE SIDE: the class's wheel -/
theorem pow_n {n : Nat} (h : n ≤ 8) : 2 ^ n ≤ 256 := Nat.pow_le_pow_right (by decide) h
theorem okC_n {c : Cfg} (h : okC c) : cN c ≤ 8 := by
  rcases h.1 with e | e
  · omega
  · omega
theorem bearing_ok {k s w d y : Nat} (hk : k ≤ 5) (hs : s ≤ 9) (hw : w ≤ 30) (hd : d ≤ 9) (hy : y ≤ 1) : f_X5_bearing (nI k) (nI s) (nI w) (nI d) (nI y) = some (nI (bearsN k s w d y)) := by
  have j1 := tb_jmax s (by omega) w (by omega)
  have j2 := tb_jmax s (by omega) (w / 2) (by omega)
  have j3 := tb_jmax s (by omega) 0 (by omega)
  have hdiv : nI w / nI 2 = nI (w / 2) := pk_div (by omega) (by decide) (by decide)
  have hdiv2 : nI (2 * s - w) / nI 2 = nI ((2 * s - w) / 2) := pk_div (by omega) (by decide) (by decide)
  rcases (by omega : k = 0 ∨ k = 1 ∨ k = 2 ∨ k = 3 ∨ k = 4 ∨ k = 5) with rfl | rfl | rfl | rfl | rfl | rfl
  · unfold f_X5_bearing f_X5_feltWear
    simp (disch := omega) only [li0, li1, li2, li3, li4, li5, li6, li7, li8, li9, li10, li12, li13, li20, li21, li30, li32, li40, li48, li60, li63, li100, li114, li492, li1000, nI_add, pk_mul, nI_leI, nI_ltI, nI_eq, nI_mm, gd_b, gd_B0, gd_B1, ix_n, ob_some, om_some, nm_eq, if_true, if_false, if_pos, if_neg, ofn, Nat.sub_zero, hdiv, hdiv2, j1]
    rfl
  · unfold f_X5_bearing f_X5_feltWear
    simp (disch := omega) only [li0, li1, li2, li3, li4, li5, li6, li7, li8, li9, li10, li12, li13, li20, li21, li30, li32, li40, li48, li60, li63, li100, li114, li492, li1000, nI_add, pk_mul, nI_leI, nI_ltI, nI_eq, nI_mm, gd_b, gd_B0, gd_B1, ix_n, ob_some, om_some, nm_eq, if_true, if_false, if_pos, if_neg, ofn, Nat.sub_zero, hdiv, hdiv2, j1]
    rfl
  · unfold f_X5_bearing f_X5_feltWear bearsN
    by_cases h5 : 5 ≤ d
    · simp (disch := omega) only [li0, li1, li2, li3, li4, li5, li6, li7, li8, li9, li10, li12, li13, li20, li21, li30, li32, li40, li48, li60, li63, li100, li114, li492, li1000, nI_add, pk_mul, nI_leI, nI_ltI, nI_eq, nI_mm, gd_b, gd_B0, gd_B1, ix_n, ob_some, om_some, nm_eq, if_true, if_false, if_pos, if_neg, ofn, Nat.sub_zero, hdiv, hdiv2, j1]
    · simp (disch := omega) only [li0, li1, li2, li3, li4, li5, li6, li7, li8, li9, li10, li12, li13, li20, li21, li30, li32, li40, li48, li60, li63, li100, li114, li492, li1000, nI_add, pk_mul, nI_leI, nI_ltI, nI_eq, nI_mm, gd_b, gd_B0, gd_B1, ix_n, ob_some, om_some, nm_eq, if_true, if_false, if_pos, if_neg, ofn, Nat.sub_zero, hdiv, hdiv2, j1, Nat.add_zero]
  · unfold f_X5_bearing f_X5_feltWear bearsN
    by_cases h5 : 5 ≤ d
    · simp (disch := omega) only [li0, li1, li2, li3, li4, li5, li6, li7, li8, li9, li10, li12, li13, li20, li21, li30, li32, li40, li48, li60, li63, li100, li114, li492, li1000, nI_add, pk_mul, nI_leI, nI_ltI, nI_eq, nI_mm, gd_b, gd_B0, gd_B1, ix_n, ob_some, om_some, nm_eq, if_true, if_false, if_pos, if_neg, ofn, Nat.sub_zero, hdiv, hdiv2, j2]
    · simp (disch := omega) only [li0, li1, li2, li3, li4, li5, li6, li7, li8, li9, li10, li12, li13, li20, li21, li30, li32, li40, li48, li60, li63, li100, li114, li492, li1000, nI_add, pk_mul, nI_leI, nI_ltI, nI_eq, nI_mm, gd_b, gd_B0, gd_B1, ix_n, ob_some, om_some, nm_eq, if_true, if_false, if_pos, if_neg, ofn, Nat.sub_zero, hdiv, hdiv2, j2, Nat.add_zero]
  · unfold f_X5_bearing f_X5_feltWear
    simp (disch := omega) only [li0, li1, li2, li3, li4, li5, li6, li7, li8, li9, li10, li12, li13, li20, li21, li30, li32, li40, li48, li60, li63, li100, li114, li492, li1000, nI_add, pk_mul, nI_leI, nI_ltI, nI_eq, nI_mm, gd_b, gd_B0, gd_B1, ix_n, ob_some, om_some, nm_eq, if_true, if_false, if_pos, if_neg, ofn, Nat.sub_zero, hdiv, hdiv2, j3]
    rfl
  · unfold f_X5_bearing f_X5_feltWear bearsN
    by_cases h5 : y = 1
    · simp (disch := omega) only [li0, li1, li2, li3, li4, li5, li6, li7, li8, li9, li10, li12, li13, li20, li21, li30, li32, li40, li48, li60, li63, li100, li114, li492, li1000, nI_add, pk_mul, nI_leI, nI_ltI, nI_eq, nI_mm, gd_b, gd_B0, gd_B1, ix_n, ob_some, om_some, nm_eq, if_true, if_false, if_pos, if_neg, ofn, Nat.sub_zero, hdiv, hdiv2, j1]
    · simp (disch := omega) only [li0, li1, li2, li3, li4, li5, li6, li7, li8, li9, li10, li12, li13, li20, li21, li30, li32, li40, li48, li60, li63, li100, li114, li492, li1000, nI_add, pk_mul, nI_leI, nI_ltI, nI_eq, nI_mm, gd_b, gd_B0, gd_B1, ix_n, ob_some, om_some, nm_eq, if_true, if_false, if_pos, if_neg, ofn, Nat.sub_zero, hdiv, hdiv2, j3]
theorem goneOnes_ok {w : Wh} {n t : Nat} (hs : wh_spokes w = nI n) (ht : wh_there w = nI t) (hn : n ≤ 8) (h : t < 2 ^ n) : f_X4_goneOnes w = some (nI (2 ^ n - 1 - t)) := by
  unfold f_X4_goneOnes
  rw [hs, ht]
  have h1 := tb_all n (by omega)
  have h2 := tb_gone n (by omega) t h
  show some ((jshl (nI 1) (nI n) - nI 1) &&& (nI t ^^^ -nI 1)) = _
  rw [h1, h2]
theorem over_ok {w : Wh} {n t : Nat} (hs : wh_spokes w = nI n) (ht : wh_there w = nI t) (hn : n ≤ 8) (h : t < 2 ^ n) : f_X4_isOver w = some (nI (if overN n t then 1 else 0)) := by
  unfold f_X4_isOver
  rw [goneOnes_ok hs ht hn h]
  have h2 := tb_over n (by omega) (2 ^ n - 1 - t) (by omega)
  rw [show 2 ^ n - 1 - (2 ^ n - 1 - t) = t by omega] at h2
  rw [← h2, hs]
  rfl
theorem isThere_ok {w : Wh} {t i : Nat} (ht : wh_there w = nI t) (h : t < 256) (hi : i < 8) : f_X4_isThere w (nI i) = some (nI (if t.testBit i then 1 else 0)) := by
  unfold f_X4_isThere
  rw [ht]
  show (if jshr (nI t) (nI i) &&& nI 1 = nI 1 then some (nI 1) else some (nI 0)) = _
  rw [tb_has0 t h i hi]
  by_cases e : t.testBit i
  · rw [if_pos e, if_pos rfl]
  · rw [if_neg e, if_neg (by decide)]
/-- the same wheel -/
theorem RW_over {w : Wh} {c : Cfg} {d : Dyn} (hW : RW w c d) (hC : okC c) (hD : okD c d) : f_X4_isOver w = some (nI (if overN (cN c) (dThere d) then 1 else 0)) := over_ok hW.1 hW.2.2.2.2.1 (okC_n hC) hD.2.2.1
theorem there_lt {c : Cfg} {d : Dyn} (hC : okC c) (hD : okD c d) : dThere d < 256 := Nat.lt_of_lt_of_le hD.2.2.1 (pow_n (okC_n hC))
theorem next_mod {i n : Nat} (h : i < n) : (i + 1) % n = if n ≤ i + 1 then 0 else i + 1 := by
  by_cases e : n ≤ i + 1
  · rw [if_pos e, show i + 1 = n by omega, Nat.mod_self]
  · rw [if_neg e, Nat.mod_eq_of_lt (by omega)]
theorem jmin_30 : ∀ w, w < 31 → jmin (nI 30) (nI (w + 1)) = nI (if w < 30 then w + 1 else w) := by decide +kernel
theorem roll124 {w : Wh} {i n : Nat} {b : Bool} (hs : wh_spokes w = nI n) (hn : n ≤ 8) (hi : i < n) : f_X4_roll_J124 w (nI i) (nI (if b then 0 else 1)) = some (nI (if b then 1 else 0), wh_set_stand (wh_set_rut w (wh_rut w + 1)) (nI ((i + 1) % n))) := by
  unfold f_X4_roll_J124 f_X4_roll_J152
  rw [hs, next_mod hi]
  cases b
  · by_cases e : n ≤ i + 1
    · simp (disch := omega) only [li0, li1, li2, li3, li4, li5, li6, li7, li8, li9, li10, li12, li13, li20, li21, li30, li32, li40, li48, li60, li63, li100, li114, li492, li1000, nI_add, pk_mul, nI_leI, nI_ltI, nI_eq, nI_mm, gd_b, gd_B0, gd_B1, ix_n, ob_some, om_some, nm_eq, if_true, if_false, if_pos, if_neg, ofn, Nat.sub_zero, Bool.false_eq_true, if_false, if_true]
    · simp (disch := omega) only [li0, li1, li2, li3, li4, li5, li6, li7, li8, li9, li10, li12, li13, li20, li21, li30, li32, li40, li48, li60, li63, li100, li114, li492, li1000, nI_add, pk_mul, nI_leI, nI_ltI, nI_eq, nI_mm, gd_b, gd_B0, gd_B1, ix_n, ob_some, om_some, nm_eq, if_true, if_false, if_pos, if_neg, ofn, Nat.sub_zero, Bool.false_eq_true, if_false, if_true]
  · by_cases e : n ≤ i + 1
    · simp (disch := omega) only [li0, li1, li2, li3, li4, li5, li6, li7, li8, li9, li10, li12, li13, li20, li21, li30, li32, li40, li48, li60, li63, li100, li114, li492, li1000, nI_add, pk_mul, nI_leI, nI_ltI, nI_eq, nI_mm, gd_b, gd_B0, gd_B1, ix_n, ob_some, om_some, nm_eq, if_true, if_false, if_pos, if_neg, ofn, Nat.sub_zero, Bool.false_eq_true, if_false, if_true]
    · simp (disch := omega) only [li0, li1, li2, li3, li4, li5, li6, li7, li8, li9, li10, li12, li13, li20, li21, li30, li32, li40, li48, li60, li63, li100, li114, li492, li1000, nI_add, pk_mul, nI_leI, nI_ltI, nI_eq, nI_mm, gd_b, gd_B0, gd_B1, ix_n, ob_some, om_some, nm_eq, if_true, if_false, if_pos, if_neg, ofn, Nat.sub_zero, Bool.false_eq_true, if_false, if_true]
theorem roll_ok {w : Wh} {c : Cfg} {d : Dyn} (hW : RW w c d) (hC : okC c) (hD : okD c d) (h3 : 3 ≤ cN c) (hr : dRut d < 1000) : ∃ w1, f_X4_roll w = some (nI (if (stepN c d).1 then 1 else 0), w1) ∧ RW w1 c (stepN c d).2 := by
  have hn := okC_n hC
  have ht := there_lt hC hD
  obtain ⟨hS, hY, -, hE⟩ := hD
  obtain ⟨w1, w2, w3, w4, w5, w6, w7, w8, w9⟩ := hW
  obtain ⟨-, -, hR, hK⟩ := hC
  have hS : dStand d < cN c := by omega
  obtain ⟨k1, k2, k3⟩ := hK _ hS
  obtain ⟨v1, v2, v3⟩ := w9 _ hS
  have hdep : f_X4_depth w = some (nI (cRut c (dRut d % 8))) := by
    unfold f_X4_depth
    rw [w4, show nI (dRut d) &&& (7 : Int32) = nI (dRut d % 8) from and7 (by omega), gd_b (by omega) (by decide), ix_n (by omega), w7 _ (by omega)]
  have hdl := hR (dRut d % 8) (by omega)
  have hth := isThere_ok w5 ht (i := dStand d) (by omega)
  have hwe := (hE (dStand d) (by omega)).1
  have hbe := bearing_ok k1 k3 hwe hdl hY
  have hix : ix (nI (dStand d)) = dStand d := ix_n (by omega)
  unfold f_X4_roll stepN
  rw [hdep, w3, hth]
  show ∃ w1, (if nI (if (dThere d).testBit (dStand d) = true then 1 else 0) = 0 then _ else _) = _ ∧ _
  by_cases hT : (dThere d).testBit (dStand d) = true
  · rw [if_pos hT, if_neg (show ¬ nI 1 = 0 by decide), gd_b (by omega) (by decide), hix, v2]
    by_cases hL : cLong c (dStand d) < cRut c (dRut d % 8)
    · rw [if_pos (nI_lt hL (by omega)), if_pos (Or.inr hL)]
      refine ⟨_, roll124 (b := true) w1 hn hS, w1, w2, rfl, ?_, w5, w6, w7, w8, w9⟩
      show wh_rut w + 1 = _
      rw [w4, nI_1]
    · rw [if_neg (nI_nlt (by omega) (by omega)), if_neg (show ¬ ((dThere d).testBit (dStand d) = false ∨ _) by rw [hT]; simpa using hL)]
      unfold f_X4_roll_J33
      rw [if_neg (show ¬ (1 : Int32) = 0 by decide), gd_b (by omega) (by decide), gd_b (by omega) (by decide), gd_b (by omega) (by decide), hix, v1, v3, w8 _ (by omega), w6, hbe]
      show ∃ w1, (if nI _ ≤ nI _ then _ else _) = _ ∧ _
      by_cases hB : bearsN (cKind c (dStand d)) (cStrong c (dStand d)) (dWear d (dStand d)) (cRut c (dRut d % 8)) (dDry d) < cRut c (dRut d % 8)
      · rw [if_neg (nI_ge hB (by omega)), if_pos hB]
        refine ⟨_, roll124 (b := true) w1 hn hS, w1, w2, rfl, ?_, ?_, w6, w7, w8, w9⟩
        · show wh_rut w + 1 = _
          rw [w4, nI_1]
        · show wh_there w &&& (jshl (nI 1) (nI (dStand d)) ^^^ -nI 1) = nI (dThere d - 2 ^ dStand d)
          rw [w5, tb_knock _ ht _ (by omega), if_pos hT]
      · have hbl : bearsN (cKind c (dStand d)) (cStrong c (dStand d)) (dWear d (dStand d)) (cRut c (dRut d % 8)) (dDry d) < 2 ^ 31 := by
          unfold bearsN
          split <;> (try split) <;> (try split) <;> (try split) <;> (try split) <;> omega
        rw [if_pos (nI_le (by omega) hbl), if_neg hB]
        have hwr : ∃ w1, f_X4_roll_J105 w (nI (dStand d)) 1 = some (nI (if false = true then 1 else 0), w1) ∧ RW w1 c (dRut d + 1, (dStand d + 1) % cN c, dDry d, dThere d, updN (dWear d) (dStand d) (if dWear d (dStand d) < 30 then dWear d (dStand d) + 1 else dWear d (dStand d))) := by
          unfold f_X4_roll_J105
          rw [gd_b (by omega) (by decide), gd_b (by omega) (by decide), hix, w8 _ (by omega), nI_1, show jmin (30 : Int32) (nI (dWear d (dStand d) + 1)) = _ from jmin_30 _ (by omega)]
          refine ⟨_, roll124 (b := false) w1 hn hS, w1, w2, rfl, ?_, w5, w6, w7, fun i hi => ?_, w9⟩
          · show wh_rut w + 1 = _
            rw [w4, nI_1]
          · show upd (wh_wear w) (dStand d) _ i = nI (updN (dWear d) (dStand d) _ i)
            unfold updN
            by_cases e : i = dStand d
            · subst e; rw [upd_s, if_pos rfl]
            · rw [upd_n e, if_neg e, w8 i hi]
        unfold f_X4_roll_J84
        rw [if_neg (show ¬ (1 : Int32) = 0 by decide), w6, w4, show nI (dRut d) &&& (1 : Int32) = nI (dRut d % 2) from and1 (by omega)]
        by_cases hd1 : dDry d = 1
        · rw [if_neg (show ¬ nI (dDry d) = 0 by rw [hd1]; decide), if_pos (Or.inl hd1)]
          exact hwr
        · rw [if_pos (show nI (dDry d) = 0 by rw [show dDry d = 0 by omega]; rfl)]
          by_cases hd2 : dRut d % 2 = 1
          · rw [if_pos (show nI (dRut d % 2) = 1 by rw [hd2]; rfl), if_pos (Or.inr hd2)]
            exact hwr
          · rw [if_neg (show ¬ nI (dRut d % 2) = 1 by rw [show dRut d % 2 = 0 by omega]; decide), if_neg (show ¬ (dDry d = 1 ∨ dRut d % 2 = 1) by omega)]
            refine ⟨_, roll124 (b := false) w1 hn hS, w1, w2, rfl, ?_, w5, w6, w7, w8, w9⟩
            show wh_rut w + 1 = _
            rw [w4, nI_1]
  · rw [if_neg hT, if_pos (show nI 0 = 0 from nI_0), if_pos (Or.inl (by simpa using hT))]
    refine ⟨_, roll124 (b := true) w1 hn hS, w1, w2, rfl, ?_, w5, w6, w7, w8, w9⟩
    show wh_rut w + 1 = _
    rw [w4, nI_1]
