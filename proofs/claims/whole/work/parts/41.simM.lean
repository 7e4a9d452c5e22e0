/-! PURE SIDE: spoke, mark, bears, look -/
theorem cdepth_ok {w : Wh} {c : Cfg} {d : Dyn} (hW : RW w c d) (hr : dRut d < 2 ^ 31) : f_X4_depth w = some (nI (cRut c (dRut d % 8))) := by
  obtain ⟨w1, w2, w3, w4, w5, w6, w7, w8, w9⟩ := hW
  unfold f_X4_depth
  rw [w4, show nI (dRut d) &&& (7 : Int32) = nI (dRut d % 8) from and7 (by omega), gd_b (by omega) (by decide), ix_n (by omega), w7 _ (by omega)]
theorem cbear_ok {w : Wh} {c : Cfg} {d : Dyn} (hW : RW w c d) (hC : okC c) (hD : okD c d) (hr : dRut d < 2 ^ 31) {i k : Nat} (hi : i < cN c) (hk : k ≤ 5) : f_X4_bearingAs w (nI k) (nI i) = some (nI (bearsN k (cStrong c i) (dWear d i) (cRut c (dRut d % 8)) (dDry d))) := by
  have hn := okC_n hC
  obtain ⟨k1, k2, k3⟩ := hC.2.2.2 i hi
  have hdep := cdepth_ok hW hr
  obtain ⟨w1, w2, w3, w4, w5, w6, w7, w8, w9⟩ := hW
  obtain ⟨v1, v2, v3⟩ := w9 i hi
  unfold f_X4_bearingAs
  rw [gd_b (by omega) (by decide), gd_b (by omega) (by decide), ix_n (by omega), hdep, ob_some, v3, w8 i (by omega), w6, bearing_ok hk k3 (hD.2.2.2 i (by omega)).1 (hC.2.2.1 _ (by omega)) hD.2.1]
  rfl
theorem malike_ok {y : Md} {c : Cfg} {d : Dyn} (hM : RM y c) (hN : RT (md_now y) 0 d) (hC : okC c) (hD : okD c d) (hr : dRut d < 2 ^ 31) {i k : Nat} (hi : i < cN c) (hk : k ≤ 5) : f_X6_alike y (nI i) (nI k) = some (nI (bearsN k (cStrong c i) (dWear d i) (cRut c (dRut d % 8)) (dDry d))) := by
  have hn := okC_n hC
  obtain ⟨k1, k2, k3⟩ := hC.2.2.2 i hi
  obtain ⟨v1, v2, v3⟩ := hM.2.2.2 i hi
  unfold f_X6_alike
  rw [gd_b (by omega) (by decide), show md_now y 0 = nI (dRut d) from hN.1, mdepth_ok hM hr, ob_some, gd4 (by omega), ix4 (by omega), ix_n (by omega), v3, RT4 hN (by omega), show md_now y 2 = nI (dDry d) from hN.2.2.1, bearsAs_ok hk k3 (hD.2.2.2 i (by omega)).1 (hC.2.2.1 _ (by omega)) hD.2.1]
  rfl
def facN (c : Cfg) (d : Dyn) (i k : Nat) : Nat :=
  if k = 0 then cKind c i else if k = 1 then cLong c i else if k = 2 then cStrong c i else if k = 3 then dWear d i else if k = 4 then (if (dThere d).testBit i then 1 else 0) else bearsN (cKind c i) (cStrong c i) (dWear d i) (cRut c (dRut d % 8)) (dDry d)
theorem facet_ok {w : Wh} {c : Cfg} {d : Dyn} (hW : RW w c d) (hC : okC c) (hD : okD c d) (hr : dRut d < 2 ^ 31) {i k : Nat} (hi : i < cN c) (hk : k ≤ 5) : f_X4_facet w (nI i) (nI k) = some (nI (facN c d i k)) := by
  have hn := okC_n hC
  have ht := there_lt hC hD
  have hbe := cbear_ok hW hC hD hr hi (hC.2.2.2 i hi).1
  obtain ⟨w1, w2, w3, w4, w5, w6, w7, w8, w9⟩ := hW
  obtain ⟨v1, v2, v3⟩ := w9 i hi
  unfold f_X4_facet
  rcases (by omega : k = 0 ∨ k = 1 ∨ k = 2 ∨ k = 3 ∨ k = 4 ∨ k = 5) with rfl | rfl | rfl | rfl | rfl | rfl
  · rw [if_pos (show nI 0 = 0 by decide), gd_b (by omega) (by decide), ix_n (by omega), v1]; rfl
  · rw [if_neg (show ¬ nI 1 = 0 by decide), if_pos (show nI 1 = 1 by decide), gd_b (by omega) (by decide), ix_n (by omega), v2]; rfl
  · rw [if_neg (show ¬ nI 2 = 0 by decide), if_neg (show ¬ nI 2 = 1 by decide), if_pos (show nI 2 = 2 by decide), gd_b (by omega) (by decide), ix_n (by omega), v3]; rfl
  · rw [if_neg (show ¬ nI 3 = 0 by decide), if_neg (show ¬ nI 3 = 1 by decide), if_neg (show ¬ nI 3 = 2 by decide), if_pos (show nI 3 = 3 by decide), gd_b (by omega) (by decide), ix_n (by omega), w8 i (by omega)]; rfl
  · rw [if_neg (show ¬ nI 4 = 0 by decide), if_neg (show ¬ nI 4 = 1 by decide), if_neg (show ¬ nI 4 = 2 by decide), if_neg (show ¬ nI 4 = 3 by decide), if_pos (show nI 4 = 4 by decide), isThere_ok w5 ht (by omega), ob_some]
    show _ = some (nI (if (dThere d).testBit i = true then 1 else 0))
    by_cases e : (dThere d).testBit i = true
    · rw [if_pos e, if_neg (show ¬ nI 1 = 0 by decide)]; rfl
    · rw [if_neg e, if_pos (show nI 0 = 0 from nI_0)]; rfl
  · rw [if_neg (show ¬ nI 5 = 0 by decide), if_neg (show ¬ nI 5 = 1 by decide), if_neg (show ¬ nI 5 = 2 by decide), if_neg (show ¬ nI 5 = 3 by decide), if_neg (show ¬ nI 5 = 4 by decide), gd_b (by omega) (by decide), ix_n (by omega), v1, hbe]; rfl
theorem tells_ok {y : Md} {c : Cfg} {d : Dyn} (hM : RM y c) (hN : RT (md_now y) 0 d) (hC : okC c) (hD : okD c d) (hr : dRut d < 2 ^ 31) {i k : Nat} (hi : i < cN c) (hk : k ≤ 5) : f_X6_spokeTells y (nI i) (nI k) = some (nI (facN c d i k)) := by
  have hn := okC_n hC
  have ht := there_lt hC hD
  obtain ⟨v1, v2, v3⟩ := hM.2.2.2 i hi
  unfold f_X6_spokeTells
  rcases (by omega : k = 0 ∨ k = 1 ∨ k = 2 ∨ k = 3 ∨ k = 4 ∨ k = 5) with rfl | rfl | rfl | rfl | rfl | rfl
  · rw [if_pos (show nI 0 = 0 by decide), gd_b (by omega) (by decide), ix_n (by omega), v1]; rfl
  · rw [if_neg (show ¬ nI 1 = 0 by decide), if_pos (show nI 1 = 1 by decide), gd_b (by omega) (by decide), ix_n (by omega), v2]; rfl
  · rw [if_neg (show ¬ nI 2 = 0 by decide), if_neg (show ¬ nI 2 = 1 by decide), if_pos (show nI 2 = 2 by decide), gd_b (by omega) (by decide), ix_n (by omega), v3]; rfl
  · rw [if_neg (show ¬ nI 3 = 0 by decide), if_neg (show ¬ nI 3 = 1 by decide), if_neg (show ¬ nI 3 = 2 by decide), if_pos (show nI 3 = 3 by decide), gd4 (by omega), ix4 (by omega), RT4 hN (by omega)]; rfl
  · rw [if_neg (show ¬ nI 4 = 0 by decide), if_neg (show ¬ nI 4 = 1 by decide), if_neg (show ¬ nI 4 = 2 by decide), if_neg (show ¬ nI 4 = 3 by decide), if_pos (show nI 4 = 4 by decide), show md_now y 3 = nI (dThere d) from hN.2.2.2.1]
    show some (jshr (nI (dThere d)) (nI i) &&& nI 1) = some (nI (if (dThere d).testBit i = true then 1 else 0))
    rw [tb_has0 _ ht i (by omega)]
  · rw [if_neg (show ¬ nI 5 = 0 by decide), if_neg (show ¬ nI 5 = 1 by decide), if_neg (show ¬ nI 5 = 2 by decide), if_neg (show ¬ nI 5 = 3 by decide), if_neg (show ¬ nI 5 = 4 by decide), show md_now y 0 = nI (dRut d) from hN.1, mdepth_ok hM hr, ob_some, mbears_now hM hN hC hD hi (hC.2.2.1 _ (by omega))]; rfl
theorem s_spoke : S_spoke Rel := by
  intro x y h v u
  have hRel := h
  obtain ⟨hT, hR, hX, c, E, hWE⟩ := h
  obtain ⟨hC, hE, hRC, hM, hd, hN, hL, hK⟩ := id hWE
  obtain ⟨o1, o2⟩ := okD_rep hC hE
  have h40 := hE.1
  have hn := okC_n hC
  unfold f_X5_spoke f_X6_spoke
  rcases num_cases v (cN c) (by omega) with hb | ⟨i, hi, rfl⟩
  · rw [isSpoke_bad hRC.1.1 hb, mSpoke_bad hM.1 hn hb]
    exact ⟨-1, x, y, rfl, rfl, hRel⟩
  · rw [isSpoke_in hRC.1.1 hn hi, mSpoke_in hM.1 hn hi, ob_some, ob_some, if_neg (show ¬ (1 : Int32) = 0 by decide), if_neg (show ¬ (1 : Int32) = 0 by decide)]
    rcases num_cases u 6 (by decide) with hb | ⟨k, hk, rfl⟩
    · refine ⟨-1, x, y, ?_, ?_, hRel⟩
      · by_cases h0 : u < 0
        · rw [if_pos h0]
        · rw [if_neg h0, if_neg (show ¬ u ≤ (5 : Int32) from fun z => absurd (lt_of_nle (n := 5) (by decide) (hb.resolve_left h0)) (Int32.not_lt.mpr z))]
      · rw [show f_X6_in u 0 5 = some 0 from in_bad (k := 6) (by decide) hb]; rfl
    · rw [if_neg (nI_pos (by omega)), if_pos (show nI k ≤ (5 : Int32) from nI_le (b := 5) (by omega) (by decide)), facet_ok hRC.1 hC o1 (by omega) hi (by omega), show f_X6_in (nI k) 0 5 = some 1 from in_good (k := 6) (by decide) hk, ob_some, ob_some, if_neg (show ¬ (1 : Int32) = 0 by decide), tells_ok hM hN hC o1 (by omega) hi (by omega)]
      exact ⟨1, ww_set_askedLast x (nI (facN c (repN c E) i k)), md_set_told y (nI (facN c (repN c E) i k)), rfl, rfl, relC hRel rfl⟩
def ofN (k a : Nat) : Bool := k == a || (a == 2 && k == 3) || (a == 4 && k == 5)
theorem tb_of5 : ∀ k, k < 6 → ∀ a, a < 6 → 1 ≤ a → f_X5_isOfKind (nI k) (nI a) = some (nI (if ofN k a then 1 else 0)) := by decide +kernel
theorem tb_of6 : ∀ k, k < 6 → ∀ a, a < 6 → 1 ≤ a → f_X6_isOf (nI k) (nI a) = some (nI (if ofN k a then 1 else 0)) := by decide +kernel
theorem s_mark : S_mark Rel := by
  intro x y h v u
  have hRel := h
  obtain ⟨hT, hR, hX, c, E, hWE⟩ := h
  obtain ⟨hC, hE, hRC, hM, hd, hN, hL, hK⟩ := id hWE
  obtain ⟨o1, o2⟩ := okD_rep hC hE
  have h40 := hE.1
  have hn := okC_n hC
  unfold f_X5_mark f_X6_mark
  rcases num_cases v (cN c) (by omega) with hb | ⟨i, hi, rfl⟩
  · rw [isSpoke_bad hRC.1.1 hb, mSpoke_bad hM.1 hn hb]
    exact ⟨-1, x, y, rfl, rfl, hRel⟩
  · obtain ⟨k1, k2, k3⟩ := hC.2.2.2 i hi
    rw [isSpoke_in hRC.1.1 hn hi, mSpoke_in hM.1 hn hi, ob_some, ob_some, if_neg (show ¬ (1 : Int32) = 0 by decide), if_neg (show ¬ (1 : Int32) = 0 by decide), gd_b (show i < 8 by omega) (by decide), gd_b (show i < 8 by omega) (by decide), gd_b (show i < 8 by omega) (by decide), ix_n (j := i) (by omega), (hRC.1.2.2.2.2.2.2.2.2 i hi).1, (hM.2.2.2 i hi).1]
    rcases num_cases u 6 (by decide) with hb | ⟨a, ha, rfl⟩
    · refine ⟨-1, x, y, ?_, ?_, hRel⟩
      · by_cases h0 : u ≤ 0
        · rw [if_pos h0]
        · rw [if_neg h0, if_neg]
          rcases hb with hb | hb
          · exact absurd (Int32.le_of_lt hb) h0
          · exact Int32.not_lt.mpr hb
      · rw [in_ok]
        by_cases h0 : u < 1
        · rw [if_pos h0]; rfl
        · rw [if_neg h0, if_pos (show (5 : Int32) < u from lt_of_nle (n := 5) (by decide) (hb.resolve_left (fun z => h0 (lt1_of_lt0 z))))]; rfl
    · by_cases a0 : a = 0
      · subst a0
        exact ⟨-1, x, y, rfl, rfl, hRel⟩
      · have hin : f_X6_in (nI a) 1 5 = some 1 := by
          rw [in_ok, if_neg (show ¬ nI a < 1 from nI_nlt (b := 1) (by omega) (by omega)), if_neg (show ¬ (5 : Int32) < nI a from nI_nlt (a := 5) (by omega) (by decide))]
        rw [if_neg (nI_nle (by omega) (by omega)), if_pos (show nI a < (6 : Int32) from nI_lt ha (by decide)), hin, tb_of5 _ (by omega) a ha (by omega), ob_some, ob_some, if_neg (show ¬ (1 : Int32) = 0 by decide), tb_of6 _ (by omega) a ha (by omega), ob_some]
        by_cases ho : ofN (cKind c i) a = true
        · rw [if_pos ho, if_neg (show ¬ nI 1 = 0 by decide), if_neg (show ¬ nI 1 = 0 by decide)]
          unfold f_X4_differs
          rw [gd_b (show i < 8 by omega) (by decide), ix_n (j := i) (by omega), (hRC.1.2.2.2.2.2.2.2.2 i hi).1, cbear_ok hRC.1 hC o1 (by omega) hi k1, malike_ok hM hN hC o1 (by omega) hi k1, ob_some, ob_some]
          have c0 := cbear_ok hRC.1 hC o1 (by omega) hi (k := 0) (by omega)
          have c2 := cbear_ok hRC.1 hC o1 (by omega) hi (k := 2) (by omega)
          have c4 := cbear_ok hRC.1 hC o1 (by omega) hi (k := 4) (by omega)
          have m0 := malike_ok hM hN hC o1 (by omega) hi (k := 0) (by omega)
          have m2 := malike_ok hM hN hC o1 (by omega) hi (k := 2) (by omega)
          have m4 := malike_ok hM hN hC o1 (by omega) hi (k := 4) (by omega)
          rw [show f_X4_bearingAs (ct_wheel (ww_cart x)) 0 (nI i) = _ from c0, show f_X4_bearingAs (ct_wheel (ww_cart x)) 2 (nI i) = _ from c2, show f_X4_bearingAs (ct_wheel (ww_cart x)) 4 (nI i) = _ from c4, show f_X6_alike y (nI i) 0 = _ from m0, show f_X6_alike y (nI i) 2 = _ from m2, show f_X6_alike y (nI i) 4 = _ from m4]
          rcases (by omega : a = 1 ∨ a = 2 ∨ a = 3 ∨ a = 4 ∨ a = 5) with rfl | rfl | rfl | rfl | rfl
          · exact ⟨_, x, y, rfl, rfl, hRel⟩
          · exact ⟨_, x, y, rfl, rfl, hRel⟩
          · exact ⟨_, x, y, rfl, rfl, hRel⟩
          · exact ⟨_, x, y, rfl, rfl, hRel⟩
          · exact ⟨_, x, y, rfl, rfl, hRel⟩
        · rw [if_neg ho, if_pos (show nI 0 = 0 from nI_0), if_pos (show nI 0 = 0 from nI_0)]
          obtain ⟨x1, y1, g1, g2, g3⟩ := refuse_ok hRel (f := 3) (by decide)
          refine ⟨-3, x1, y1, ?_, ?_, g3⟩
          · rw [show f_X5_refuse x 3 = some (-3, x1) from g1]; rfl
          · rw [show f_X6_meets y 3 = some (-3, y1) from g2]; rfl
theorem s_bears : S_bears Rel := by
  intro x y h v u t
  have hRel := h
  obtain ⟨hT, hR, hX, c, E, hWE⟩ := h
  obtain ⟨hC, hE, hRC, hM, hd, hN, hL, hK⟩ := id hWE
  obtain ⟨o1, o2⟩ := okD_rep hC hE
  have hn := okC_n hC
  unfold f_X5_bears f_X6_bears
  rcases num_cases v (cN c) (by omega) with hb | ⟨i, hi, rfl⟩
  · rw [isSpoke_bad hRC.1.1 hb, mSpoke_bad hM.1 hn hb]
    exact ⟨-1, rfl, rfl, hRel⟩
  · obtain ⟨k1, k2, k3⟩ := hC.2.2.2 i hi
    rw [isSpoke_in hRC.1.1 hn hi, mSpoke_in hM.1 hn hi, ob_some, ob_some, if_neg (show ¬ (1 : Int32) = 0 by decide), if_neg (show ¬ (1 : Int32) = 0 by decide)]
    rcases num_cases u 10 (by decide) with hb | ⟨d, hd9, rfl⟩
    · refine ⟨-1, ?_, ?_, hRel⟩
      · by_cases h0 : u < 0
        · rw [if_pos h0]
        · rw [if_neg h0, if_pos (show (9 : Int32) < u from lt_of_nle (n := 9) (by decide) (hb.resolve_left h0))]
      · rw [show f_X6_in u 0 9 = some 0 from in_bad (k := 10) (by decide) hb]; rfl
    · rw [if_neg (nI_pos (by omega)), if_neg (show ¬ (9 : Int32) < nI d from nI_nlt (a := 9) (by omega) (by decide)), show f_X6_in (nI d) 0 9 = some 1 from in_good (k := 10) (by decide) hd9, ob_some, if_neg (show ¬ (1 : Int32) = 0 by decide)]
      rcases num_cases t 31 (by decide) with hb | ⟨w, hw, rfl⟩
      · refine ⟨-1, ?_, ?_, hRel⟩
        · by_cases h0 : t < 0
          · rw [if_pos h0]
          · rw [if_neg h0, if_neg (show ¬ t ≤ (30 : Int32) from fun z => absurd (lt_of_nle (n := 30) (by decide) (hb.resolve_left h0)) (Int32.not_lt.mpr z))]
        · rw [show f_X6_in t 0 30 = some 0 from in_bad (k := 31) (by decide) hb]; rfl
      · rw [if_neg (nI_pos (by omega)), if_pos (show nI w ≤ (30 : Int32) from nI_le (b := 30) (by omega) (by decide)), show f_X6_in (nI w) 0 30 = some 1 from in_good (k := 31) (by decide) hw, ob_some, if_neg (show ¬ (1 : Int32) = 0 by decide), gd_b (show i < 8 by omega) (by decide), gd_b (show i < 8 by omega) (by decide), gd_b (show i < 8 by omega) (by decide), gd_b (show i < 8 by omega) (by decide), ix_n (j := i) (by omega), (hRC.1.2.2.2.2.2.2.2.2 i hi).1, (hRC.1.2.2.2.2.2.2.2.2 i hi).2.2, (hM.2.2.2 i hi).1, (hM.2.2.2 i hi).2.2, hRC.1.2.2.2.2.2.1, show md_now y 2 = nI (dDry (repN c E)) from hN.2.2.1, bearing_ok k1 k3 (by omega) (by omega) o1.2.1, bearsAs_ok k1 k3 (by omega) (by omega) o1.2.1]
        exact ⟨_, rfl, rfl, hRel⟩
/-! look -/
def cntN (p : Nat → Bool) : Nat → Nat
  | 0 => 0
  | k + 1 => cntN p k + (if p k then 1 else 0)
theorem cnt_le (p : Nat → Bool) (k : Nat) : cntN p k ≤ k := by
  induction k with
  | zero => exact Nat.le_refl _
  | succ k ih =>
    show cntN p k + (if p k = true then 1 else 0) ≤ k + 1
    split <;> omega
def aminN (f : Nat → Nat) (b : Nat) : Nat → Nat × Nat
  | 0 => (0, b)
  | k + 1 => if (aminN f b k).2 ≤ f k then aminN f b k else (k, f k)
theorem amin_le (f : Nat → Nat) (b k : Nat) : (aminN f b k).2 ≤ b ∧ (aminN f b k).1 ≤ k := by
  induction k with
  | zero => exact ⟨Nat.le_refl _, Nat.le_refl _⟩
  | succ k ih =>
    show (if (aminN f b k).2 ≤ f k then aminN f b k else (k, f k)).2 ≤ b ∧ (if (aminN f b k).2 ≤ f k then aminN f b k else (k, f k)).1 ≤ k + 1
    split
    · omega
    · dsimp only; omega
theorem amin_two {f : Nat → Nat} {b1 b2 : Nat} (h1 : ∀ k, f k < b1) (h2 : ∀ k, f k < b2) (k : Nat) : aminN f b1 (k + 1) = aminN f b2 (k + 1) := by
  induction k with
  | zero =>
    show (if b1 ≤ f 0 then ((0 : Nat), b1) else (0, f 0)) = if b2 ≤ f 0 then (0, b2) else (0, f 0)
    rw [if_neg (by have := h1 0; omega), if_neg (by have := h2 0; omega)]
  | succ k ih =>
    show (if (aminN f b1 (k + 1)).2 ≤ f (k + 1) then aminN f b1 (k + 1) else (k + 1, f (k + 1))) = if (aminN f b2 (k + 1)).2 ≤ f (k + 1) then aminN f b2 (k + 1) else (k + 1, f (k + 1))
    rw [ih]
def lookN (c : Cfg) (d : Dyn) (i dep : Nat) : Nat := cntN (fun k => decide (dep ≤ bearsN k (cStrong c i) (dWear d i) dep (dDry d))) 6
def partN (m : Nat) : Nat := if m ≤ 6 - m then 6 - m else m
theorem part_le (m : Nat) (h : m ≤ 6) : partN m ≤ 6 := by unfold partN; split <;> omega
theorem tb_part : ∀ m, m < 7 → jmax (nI m) ((6 : Int32) - nI m) = nI (partN m) := by decide +kernel
theorem bears_lt (k s w d y : Nat) (hs : s ≤ 9) : bearsN k s w d y < 2 ^ 31 := by
  unfold bearsN
  split <;> (try split) <;> (try split) <;> (try split) <;> (try split) <;> omega
theorem kb_ok {a : As} {w : Wh} {c : Cfg} {d : Dyn} (hW : RW w c d) (hC : okC c) (hD : okD c d) {i dep : Nat} (hi : i < cN c) (hd : dep ≤ 9) : f_X0_kindsBearing a w (nI i) (nI dep) = some (nI (lookN c d i dep)) := by
  have hn := okC_n hC
  obtain ⟨k1, k2, k3⟩ := hC.2.2.2 i hi
  obtain ⟨w1, w2, w3, w4, w5, w6, w7, w8, w9⟩ := hW
  obtain ⟨v1, v2, v3⟩ := w9 i hi
  unfold f_X0_kindsBearing lookN
  refine lp_for0 (fun q => (nI (cntN (fun k => decide (dep ≤ bearsN k (cStrong c i) (dWear d i) dep (dDry d))) q), nI q)) 6 (fun q hq => ?_) ?_ rfl (by decide)
  · show f_X0_kindsBearing_B5 a w (nI i) (nI dep) (nI _) (nI q) = some (Sum.inl (nI (cntN (fun k => decide (dep ≤ bearsN k (cStrong c i) (dWear d i) dep (dDry d))) q + (if decide (dep ≤ bearsN q (cStrong c i) (dWear d i) dep (dDry d)) = true then 1 else 0)), nI (q + 1)))
    unfold f_X0_kindsBearing_B5 f_X0_kindsBearing_J50
    rw [if_neg (show ¬ (6 : Int32) ≤ nI q from nI_ge hq (by decide)), gd_b (by omega) (by decide), gd_b (by omega) (by decide), ix_n (by omega), v3, w8 i (by omega), w6, bearing_ok (by omega) k3 (hD.2.2.2 i (by omega)).1 hd hD.2.1, ob_some]
    by_cases e : dep ≤ bearsN q (cStrong c i) (dWear d i) dep (dDry d)
    · rw [if_neg (nI_nlt e (bears_lt _ _ _ _ _ k3)), if_pos (decide_eq_true e), nI_1, nI_1]
    · rw [if_pos (nI_lt (by omega) (by omega)), if_neg (by simpa using e), Nat.add_zero, nI_1]
  · show f_X0_kindsBearing_B5 a w (nI i) (nI dep) (nI _) (nI 6) = _
    unfold f_X0_kindsBearing_B5
    rw [if_pos (show (6 : Int32) ≤ nI 6 by decide)]; rfl
theorem cbest_ok {a : As} {w : Wh} {c : Cfg} {d : Dyn} (hW : RW w c d) (hC : okC c) (hD : okD c d) {i : Nat} (hi : i < cN c) : f_X0_bestDepth a w (nI i) = some (nI (aminN (fun dep => partN (lookN c d i dep)) 7 10).1, as_set_found a (nI (aminN (fun dep => partN (lookN c d i dep)) 7 10).2)) := by
  unfold f_X0_bestDepth
  refine lp_for0 (fun q => (nI (aminN (fun dep => partN (lookN c d i dep)) 7 q).1, nI q, as_set_found a (nI (aminN (fun dep => partN (lookN c d i dep)) 7 q).2))) 10 (fun q hq => ?_) ?_ rfl (by decide)
  · show f_X0_bestDepth_B10 w (nI i) (nI _) (nI q) (as_set_found a (nI _)) = _
    obtain ⟨b1, b2⟩ := amin_le (fun dep => partN (lookN c d i dep)) 7 q
    have hl : lookN c d i q ≤ 6 := cnt_le _ 6
    have hp := part_le _ hl
    unfold f_X0_bestDepth_B10 f_X0_bestDepth_J53
    rw [if_neg (show ¬ (9 : Int32) < nI q from nI_nlt (a := 9) (by omega) (by decide)), kb_ok hW hC hD hi (by omega), ob_some, nm_eq, tb_part _ (by omega)]
    show (if nI (aminN (fun dep => partN (lookN c d i dep)) 7 q).2 ≤ nI (partN (lookN c d i q)) then _ else _) = some (Sum.inl (nI (if (aminN (fun dep => partN (lookN c d i dep)) 7 q).2 ≤ partN (lookN c d i q) then aminN (fun dep => partN (lookN c d i dep)) 7 q else (q, partN (lookN c d i q))).1, nI (q + 1), as_set_found a (nI (if (aminN (fun dep => partN (lookN c d i dep)) 7 q).2 ≤ partN (lookN c d i q) then aminN (fun dep => partN (lookN c d i dep)) 7 q else (q, partN (lookN c d i q))).2)))
    by_cases e : (aminN (fun dep => partN (lookN c d i dep)) 7 q).2 ≤ partN (lookN c d i q)
    · rw [if_pos (nI_le e (by omega)), if_pos e, nI_1]
    · rw [if_neg (nI_ge (by omega) (by omega)), if_neg e, nI_1]; rfl
  · show f_X0_bestDepth_B10 w (nI i) (nI _) (nI 10) (as_set_found a (nI _)) = _
    unfold f_X0_bestDepth_B10
    rw [if_pos (show (9 : Int32) < nI 10 by decide)]; rfl
theorem mlook_ok {y : Md} {c : Cfg} {d : Dyn} (hM : RM y c) (hN : RT (md_now y) 0 d) (hC : okC c) (hD : okD c d) {i : Nat} (hi : i < cN c) : lp (f_X6_look_L18 y (nI i)) fuel ((0 : Int32), (1000000 : Int32), (0 : Int32)) = some (nI (aminN (fun dep => partN (lookN c d i dep)) 1000000 10).1, md_set_told y (nI (aminN (fun dep => partN (lookN c d i dep)) 1000000 10).2)) := by
  have hn := okC_n hC
  obtain ⟨k1, k2, k3⟩ := hC.2.2.2 i hi
  obtain ⟨v1, v2, v3⟩ := hM.2.2.2 i hi
  refine lp_for0 (fun q => (nI (aminN (fun dep => partN (lookN c d i dep)) 1000000 q).1, nI (aminN (fun dep => partN (lookN c d i dep)) 1000000 q).2, nI q)) 10 (fun q hq => ?_) ?_ rfl (by decide)
  · show f_X6_look_B18 y (nI i) (nI _) (nI _) (nI q) = _
    obtain ⟨b1, b2⟩ := amin_le (fun dep => partN (lookN c d i dep)) 1000000 q
    have hl : lookN c d i q ≤ 6 := cnt_le _ 6
    have hp := part_le _ hl
    unfold f_X6_look_B18
    rw [if_neg (show ¬ (10 : Int32) ≤ nI q from nI_ge hq (by decide))]
    refine lp_for0 (fun k => (nI (cntN (fun k => decide (q ≤ bearsN k (cStrong c i) (dWear d i) q (dDry d))) k), nI k)) 6 (fun k hk => ?_) ?_ rfl (by decide)
    · show f_X6_look_B31 y (nI i) (nI _) (nI _) (nI q) (nI _) (nI k) = some (Sum.inl (nI (cntN (fun k => decide (q ≤ bearsN k (cStrong c i) (dWear d i) q (dDry d))) k + (if decide (q ≤ bearsN k (cStrong c i) (dWear d i) q (dDry d)) = true then 1 else 0)), nI (k + 1)))
      unfold f_X6_look_B31 f_X6_look_J77
      rw [if_neg (show ¬ (6 : Int32) ≤ nI k from nI_ge hk (by decide)), gd_b (by omega) (by decide), gd4 (by omega), ix4 (by omega), ix_n (j := i) (by omega), v3, RT4 hN (by omega), show md_now y 2 = nI (dDry d) from hN.2.2.1, bearsAs_ok (by omega) k3 (hD.2.2.2 i (by omega)).1 (by omega) hD.2.1, ob_some]
      by_cases e : q ≤ bearsN k (cStrong c i) (dWear d i) q (dDry d)
      · rw [if_neg (nI_nlt e (bears_lt _ _ _ _ _ k3)), if_pos (decide_eq_true e), nI_1, nI_1]
      · rw [if_pos (nI_lt (by omega) (by omega)), if_neg (by simpa using e), nI_1]
        show some (Sum.inl (nI _ + nI 0, _)) = _
        rw [nI_add]
    · show f_X6_look_B31 y (nI i) (nI _) (nI _) (nI q) (nI (lookN c d i q)) (nI 6) = _
      unfold f_X6_look_B31 f_X6_look_J86 f_X6_look_J106 f_X6_look_J120 f_X6_look_J133
      rw [if_pos (show (6 : Int32) ≤ nI 6 by decide), show (6 : Int32) - nI (lookN c d i q) = nI (6 - lookN c d i q) from pk_sub hl]
      have hfin : ∀ z : Nat, z = partN (lookN c d i q) → (if nI (aminN (fun dep => partN (lookN c d i dep)) 1000000 q).2 ≤ nI z then (if nI (aminN (fun dep => partN (lookN c d i dep)) 1000000 q).2 ≤ nI z then some (Sum.inl (nI (aminN (fun dep => partN (lookN c d i dep)) 1000000 q).1, nI (aminN (fun dep => partN (lookN c d i dep)) 1000000 q).2, nI q + 1)) else some (Sum.inl (nI (aminN (fun dep => partN (lookN c d i dep)) 1000000 q).1, nI z, nI q + 1))) else (if nI (aminN (fun dep => partN (lookN c d i dep)) 1000000 q).2 ≤ nI z then some (Sum.inl (nI q, nI (aminN (fun dep => partN (lookN c d i dep)) 1000000 q).2, nI q + 1)) else some (Sum.inl (nI q, nI z, nI q + 1)))) = (some (Sum.inl (nI (aminN (fun dep => partN (lookN c d i dep)) 1000000 (q + 1)).1, nI (aminN (fun dep => partN (lookN c d i dep)) 1000000 (q + 1)).2, nI (q + 1))) : Option ((Int32 × Int32 × Int32) ⊕ (Int32 × Md))) := by
        rintro z rfl
        show _ = some (Sum.inl (nI (if (aminN (fun dep => partN (lookN c d i dep)) 1000000 q).2 ≤ partN (lookN c d i q) then aminN (fun dep => partN (lookN c d i dep)) 1000000 q else (q, partN (lookN c d i q))).1, nI (if (aminN (fun dep => partN (lookN c d i dep)) 1000000 q).2 ≤ partN (lookN c d i q) then aminN (fun dep => partN (lookN c d i dep)) 1000000 q else (q, partN (lookN c d i q))).2, nI (q + 1)))
        by_cases e : (aminN (fun dep => partN (lookN c d i dep)) 1000000 q).2 ≤ partN (lookN c d i q)
        · rw [if_pos (nI_le e (by omega)), if_pos (nI_le e (by omega)), if_pos e, nI_1]
        · rw [if_neg (nI_ge (by omega) (by omega)), if_neg (nI_ge (by omega) (by omega)), if_neg e, nI_1]
      by_cases e : lookN c d i q ≤ 6 - lookN c d i q
      · rw [if_pos (nI_le e (by omega)), hfin _ (by unfold partN; rw [if_pos e])]; rfl
      · rw [if_neg (nI_ge (by omega) (by omega)), hfin _ (by unfold partN; rw [if_neg e])]; rfl
  · show f_X6_look_B18 y (nI i) (nI _) (nI _) (nI 10) = _
    unfold f_X6_look_B18
    rw [if_pos (show (10 : Int32) ≤ nI 10 by decide)]; rfl
theorem s_look : S_look Rel := by
  intro x y h v
  have hRel := h
  obtain ⟨hT, hR, hX, c, E, hWE⟩ := h
  obtain ⟨hC, hE, hRC, hM, hd, hN, hL, hK⟩ := id hWE
  obtain ⟨o1, o2⟩ := okD_rep hC hE
  have hn := okC_n hC
  unfold f_X5_look f_X6_look
  rcases num_cases v (cN c) (by omega) with hb | ⟨i, hi, rfl⟩
  · rw [isSpoke_bad hRC.1.1 hb, mSpoke_bad hM.1 hn hb]
    exact ⟨-1, x, y, rfl, rfl, hRel⟩
  · have hb : ∀ k, partN (lookN c (repN c E) i k) ≤ 6 := fun k => part_le _ (cnt_le _ 6)
    have e2 : aminN (fun dep => partN (lookN c (repN c E) i dep)) 7 10 = aminN (fun dep => partN (lookN c (repN c E) i dep)) 1000000 10 := amin_two (fun k => by have := hb k; omega) (fun k => by have := hb k; omega) 9
    obtain ⟨b1, b2⟩ := amin_le (fun dep => partN (lookN c (repN c E) i dep)) 1000000 10
    rw [isSpoke_in hRC.1.1 hn hi, mSpoke_in hM.1 hn hi, ob_some, ob_some, if_neg (show ¬ (1 : Int32) = 0 by decide), if_neg (show ¬ (1 : Int32) = 0 by decide), cbest_ok hRC.1 hC o1 hi, mlook_ok hM hN hC o1 hi, e2, ob_some]
    unfold f_X5_tellBeside
    dsimp only
    rw [if_neg (nI_ne_m9 (by omega))]
    exact ⟨_, _, _, rfl, rfl, relA' hRel rfl⟩
