/-! PURE SIDE: turned, change -/
theorem lim_le (c : Cfg) (lost : Bool) (d : Dyn) (k : Nat) : (limN c lost d k).1 ≤ k := by
  induction k with
  | zero => exact Nat.le_refl _
  | succ k ih =>
    show (nxtN c lost (limN c lost d k)).1 ≤ k + 1
    unfold nxtN
    split
    · show (limN c lost d k).1 + (if lost = true then 1 else 0) ≤ k + 1
      split <;> omega
    · show (limN c lost d k).1 + (if (stepN c (limN c lost d k).2).1 = true then 1 else 0) ≤ k + 1
      split <;> omega
def standN (d : Dyn) (i : Nat) : Dyn := (dRut d, i, dDry d, dThere d, dWear d)
theorem okD_stand {c : Cfg} {d : Dyn} (hD : okD c d) {i : Nat} (hi : i < cN c) : okD c (standN d i) := ⟨Or.inr hi, hD.2.1, hD.2.2.1, hD.2.2.2⟩
theorem RW_stand {w : Wh} {c : Cfg} {d : Dyn} (hW : RW w c d) (i : Nat) : RW (wh_set_stand w (nI i)) c (standN d i) := by
  obtain ⟨w1, w2, w3, w4, w5, w6, w7, w8, w9⟩ := hW
  exact ⟨w1, w2, rfl, w4, w5, w6, w7, w8, w9⟩
theorem RT_stand {t : Ar} {d : Dyn} (h : RT t 0 d) (i : Nat) : RT (upd t 1 (nI i)) 0 (standN d i) := by
  obtain ⟨h0, h1, h2, h3, h4⟩ := h
  exact ⟨(upd_n (by decide)).trans h0, upd_s, (upd_n (by decide)).trans h2, (upd_n (by decide)).trans h3, fun j hj => (upd_n (by omega)).trans (h4 j hj)⟩
theorem cstand_ok {a : As} {w : Wh} {c : Cfg} {d : Dyn} (hW : RW w c d) (hC : okC c) (hD : okD c d) (h3 : 3 ≤ cN c) (hr : dRut d < 400) : ∃ a1, f_X0_bestStand a w = some (nI (aminN (fun i => (limN c true (standN d i) 20).1) 21 (cN c)).1, a1) ∧ as_found a1 = nI (aminN (fun i => (limN c true (standN d i) 20).1) 21 (cN c)).2 := by
  have hn := okC_n hC
  have key : ∃ o, f_X0_bestStand a w = some o ∧ ∃ a1, o = (nI (aminN (fun i => (limN c true (standN d i) 20).1) 21 (cN c)).1, a1) ∧ as_found a1 = nI (aminN (fun i => (limN c true (standN d i) 20).1) 21 (cN c)).2 := by
    unfold f_X0_bestStand
    refine lp_e (fun k s => ∃ a1, s = (nI (aminN (fun i => (limN c true (standN d i) 20).1) 21 k).1, nI k, a1) ∧ as_found a1 = nI (aminN (fun i => (limN c true (standN d i) 20).1) 21 k).2) _ (cN c) ⟨_, rfl, rfl⟩ (by omega) ?_ ?_
    · rintro k s hk ⟨a1, rfl, ha⟩
      obtain ⟨b1, b2⟩ := amin_le (fun i => (limN c true (standN d i) 20).1) 21 k
      obtain ⟨q1, e1, h1⟩ := take_ok (w := as_trial a1) hW hC hD
      obtain ⟨q2, e2, h2⟩ := climps_ok (RW_stand h1 k) hC (okD_stand hD hk) h3 (show dRut d < 500 by omega) (n := 20) (by omega)
      have hle := lim_le c true (standN d k) 20
      show ∃ t, f_X0_bestStand_B10 w (nI _) (nI k) a1 = _ ∧ ∃ a1, t = (nI (if (aminN (fun i => (limN c true (standN d i) 20).1) 21 k).2 ≤ (limN c true (standN d k) 20).1 then aminN (fun i => (limN c true (standN d i) 20).1) 21 k else (k, (limN c true (standN d k) 20).1)).1, nI (k + 1), a1) ∧ as_found a1 = nI (if (aminN (fun i => (limN c true (standN d i) 20).1) 21 k).2 ≤ (limN c true (standN d k) 20).1 then aminN (fun i => (limN c true (standN d i) 20).1) 21 k else (k, (limN c true (standN d k) 20).1)).2
      unfold f_X0_bestStand_B10 f_X0_bestStand_J65
      rw [hW.1, if_neg (nI_ge hk (by omega)), e1, ob_some, show f_X4_limpsIn (wh_set_stand q1 (nI k)) (20 : Int32) = _ from e2, ob_some, ha]
      dsimp only
      by_cases e : (aminN (fun i => (limN c true (standN d i) 20).1) 21 k).2 ≤ (limN c true (standN d k) 20).1
      · rw [if_pos (nI_le e (by omega)), if_pos e, nI_1]
        exact ⟨_, rfl, _, rfl, ha⟩
      · rw [if_neg (nI_ge (by omega) (by omega)), if_neg e, nI_1]
        exact ⟨_, rfl, _, rfl, rfl⟩
    · rintro s ⟨a1, rfl, ha⟩
      refine ⟨_, ?_, a1, rfl, ha⟩
      show f_X0_bestStand_B10 w (nI _) (nI (cN c)) a1 = _
      unfold f_X0_bestStand_B10
      rw [hW.1, if_pos (nI_le (Nat.le_refl _) (by omega))]; rfl
  obtain ⟨o, e, a1, rfl, h⟩ := key
  exact ⟨a1, e, h⟩
theorem mturned_ok {y : Md} {c : Cfg} {d : Dyn} (hM : RM y c) (hN : RT (md_now y) 0 d) (hC : okC c) (hD : okD c d) (h3 : 3 ≤ cN c) (hr : dRut d < 400) : ∃ t, lp f_X6_turned_L17 fuel ((0 : Int32), (1000000 : Int32), (0 : Int32), y) = some (nI (aminN (fun i => (limN c true (standN d i) 20).1) 1000000 (cN c)).1, md_set_told (md_set_tried y t) (nI (aminN (fun i => (limN c true (standN d i) 20).1) 1000000 (cN c)).2)) := by
  have hn := okC_n hC
  have key : ∃ o, lp f_X6_turned_L17 fuel ((0 : Int32), (1000000 : Int32), (0 : Int32), y) = some o ∧ ∃ t, o = (nI (aminN (fun i => (limN c true (standN d i) 20).1) 1000000 (cN c)).1, md_set_told (md_set_tried y t) (nI (aminN (fun i => (limN c true (standN d i) 20).1) 1000000 (cN c)).2)) := by
    refine lp_e (fun k s => ∃ t, s = (nI (aminN (fun i => (limN c true (standN d i) 20).1) 1000000 k).1, nI (aminN (fun i => (limN c true (standN d i) 20).1) 1000000 k).2, nI k, md_set_tried y t)) _ (cN c) ⟨md_tried y, rfl⟩ (by omega) ?_ ?_
    · rintro k s hk ⟨t, rfl⟩
      obtain ⟨b1, b2⟩ := amin_le (fun i => (limN c true (standN d i) 20).1) 1000000 k
      obtain ⟨t1, e1, h1⟩ := copyNow_t hN t
      obtain ⟨t2, e2, h2⟩ := mlimps_t hM (RT_stand h1 k) hC (okD_stand hD hk) h3 (show dRut d < 500 by omega) (n := 20) (by omega) true
      have hle := lim_le c true (standN d k) 20
      show ∃ s1, f_X6_turned_B17 (nI _) (nI _) (nI k) (md_set_tried y t) = _ ∧ ∃ t, s1 = (nI (if (aminN (fun i => (limN c true (standN d i) 20).1) 1000000 k).2 ≤ (limN c true (standN d k) 20).1 then aminN (fun i => (limN c true (standN d i) 20).1) 1000000 k else (k, (limN c true (standN d k) 20).1)).1, nI (if (aminN (fun i => (limN c true (standN d i) 20).1) 1000000 k).2 ≤ (limN c true (standN d k) 20).1 then aminN (fun i => (limN c true (standN d i) 20).1) 1000000 k else (k, (limN c true (standN d k) 20).1)).2, nI (k + 1), md_set_tried y t)
      unfold f_X6_turned_B17 f_X6_turned_J56 f_X6_turned_J69
      rw [show md_n (md_set_tried y t) = nI (cN c) from hM.1, if_neg (nI_ge hk (by omega)), e1, ob_some, tt1, tt, show f_X6_limpsIn (md_set_tried y (upd t1 1 (nI k))) (20 : Int32) (1 : Int32) = _ from e2, ob_some]
      dsimp only
      by_cases e : (aminN (fun i => (limN c true (standN d i) 20).1) 1000000 k).2 ≤ (limN c true (standN d k) 20).1
      · rw [if_pos (nI_le e (by omega)), if_pos (nI_le e (by omega)), if_pos e, nI_1]
        exact ⟨_, rfl, _, rfl⟩
      · rw [if_neg (nI_ge (by omega) (by omega)), if_neg (nI_ge (by omega) (by omega)), if_neg e, nI_1]
        exact ⟨_, rfl, _, rfl⟩
    · rintro s ⟨t, rfl⟩
      refine ⟨_, ?_, t, rfl⟩
      show f_X6_turned_B17 (nI _) (nI _) (nI (cN c)) (md_set_tried y t) = _
      unfold f_X6_turned_B17
      rw [show md_n (md_set_tried y t) = nI (cN c) from hM.1, if_pos (nI_le (Nat.le_refl _) (by omega))]; rfl
  obtain ⟨o, e, t, rfl⟩ := key
  exact ⟨t, e⟩
theorem s_turned : S_turned Rel := by
  intro x y h
  have hRel := h
  obtain ⟨hT, hR, hX, c, E, hWE⟩ := h
  obtain ⟨hC, hE, hRC, hM, hd, hN, hL, hK⟩ := id hWE
  obtain ⟨o1, o2⟩ := okD_rep hC hE
  have h40 := hE.1
  have hn := okC_n hC
  unfold f_X5_turned f_X6_turned
  by_cases h0 : cN c = 0
  · rw [cEmpty0 hRC.1 h0, if_pos (mn0 hM h0)]
    exact ⟨-4, x, y, rfl, rfl, hRel⟩
  · have h3 := okC_3 hC h0
    obtain ⟨a1, e1, g1⟩ := cstand_ok (a := ww_aside x) hRC.1 hC o1 h3 (by omega)
    obtain ⟨t, e2⟩ := mturned_ok hM hN hC o1 h3 (by omega)
    have e3 : aminN (fun i => (limN c true (standN (repN c E) i) 20).1) 21 (cN c) = aminN (fun i => (limN c true (standN (repN c E) i) 20).1) 1000000 (cN c) := by
      have := amin_two (f := fun i => (limN c true (standN (repN c E) i) 20).1) (b1 := 21) (b2 := 1000000) (fun k => by have := lim_le c true (standN (repN c E) k) 20; omega) (fun k => by have := lim_le c true (standN (repN c E) k) 20; omega) (cN c - 1)
      rwa [show cN c - 1 + 1 = cN c by omega] at this
    obtain ⟨b1, b2⟩ := amin_le (fun i => (limN c true (standN (repN c E) i) 20).1) 1000000 (cN c)
    rw [e3] at e1 g1
    rw [cEmpty1 hRC.1 hC h3, if_neg (mn1 hM hC h3), ob_some, if_pos (show (0 : Int32) = 0 from rfl), e1, e2, ob_some]
    unfold f_X5_tellBeside
    dsimp only
    rw [if_neg (nI_ne_m9 (by omega))]
    exact ⟨_, _, _, rfl, rfl, relA hRel g1⟩
/-! change -/
def swF (f : Nat → Nat) (a b : Nat) : Nat → Nat := fun j => if j = b then f a else if j = a then f b else f j
def swC (c : Cfg) (a b : Nat) : Cfg := (cN c, cGate c, cRut c, swF (cKind c) a b, swF (cLong c) a b, swF (cStrong c) a b)
def swT (t a b : Nat) : Nat := if t.testBit a = t.testBit b then t else if t.testBit a then t - 2 ^ a + 2 ^ b else t + 2 ^ a - 2 ^ b
def swD (d : Dyn) (a b : Nat) : Dyn := (dRut d, dStand d, dDry d, swT (dThere d) a b, swF (dWear d) a b)
set_option maxRecDepth 20000 in
theorem tb_swc : ∀ t, t < 256 → ∀ b, b < 8 → ∀ a, a < b → ¬ t.testBit a = t.testBit b → nI t ^^^ (jshl (nI 1) (nI a) ||| jshl (nI 1) (nI b)) = nI (swT t a b) := by decide +kernel
set_option maxRecDepth 20000 in
theorem tb_swm : ∀ t, t < 256 → ∀ b, b < 8 → ∀ a, a < b → (((nI t &&& (jshl (nI 1) (nI a) ^^^ -nI 1)) &&& (jshl (nI 1) (nI b) ^^^ -nI 1)) ||| jshl (nI (if t.testBit b then 1 else 0)) (nI a)) ||| jshl (nI (if t.testBit a then 1 else 0)) (nI b) = nI (swT t a b) := by decide +kernel
set_option maxRecDepth 20000 in
theorem tb_swb : ∀ n, n < 9 → ∀ t, t < 2 ^ n → ∀ b, b < n → ∀ a, a < b → swT t a b < 2 ^ n := by decide +kernel
theorem sw_ok {f : Nat → Nat} {a b n : Nat} (P : Nat → Prop) (h : ∀ i, i < n → P (f i)) (ha : a < n) (hb : b < n) : ∀ i, i < n → P (swF f a b i) := by
  intro i hi
  unfold swF
  split
  · exact h a ha
  · split
    · exact h b hb
    · exact h i hi
theorem okC_sw {c : Cfg} (hC : okC c) {a b : Nat} (ha : a < cN c) (hb : b < cN c) : okC (swC c a b) := by
  obtain ⟨h1, h2, h3, h4⟩ := hC
  refine ⟨h1, h2, h3, fun i hi => ⟨?_, ?_, ?_⟩⟩
  · exact sw_ok (fun v => v ≤ 5) (fun i hi => (h4 i hi).1) ha hb i hi
  · exact sw_ok (fun v => v ≤ 9) (fun i hi => (h4 i hi).2.1) ha hb i hi
  · exact sw_ok (fun v => v ≤ 9) (fun i hi => (h4 i hi).2.2) ha hb i hi
theorem okD_sw {c : Cfg} {d : Dyn} (hC : okC c) (hD : okD c d) {a b : Nat} (hab : a < b) (hb : b < cN c) : okD (swC c a b) (swD d a b) := by
  have hn := okC_n hC
  obtain ⟨h1, h2, h3, h4⟩ := hD
  refine ⟨h1, h2, tb_swb (cN c) (by omega) _ h3 b hb a hab, fun i hi => ?_⟩
  show swF (dWear d) a b i ≤ 30 ∧ (cN c ≤ i → swF (dWear d) a b i = 0)
  unfold swF
  have ha1 := (h4 a (by omega)).1
  have hb1 := (h4 b (by omega)).1
  have hi1 := h4 i hi
  refine ⟨?_, fun hc => ?_⟩
  · split
    · exact ha1
    · split
      · exact hb1
      · exact hi1.1
  · rw [if_neg (by omega), if_neg (by omega)]; exact hi1.2 hc
theorem sw_upd {f : Ar} {g : Nat → Nat} {a b : Nat} {n : Nat} (h : ∀ i, i < n → f i = nI (g i)) (ha : a < n) (hb : b < n) : ∀ i, i < n → upd (upd f a (f b)) b (f a) i = nI (swF g a b i) := by
  intro i hi
  unfold swF
  by_cases e : i = b
  · subst e; rw [upd_s, if_pos rfl, h a ha]
  · rw [upd_n e, if_neg e]
    by_cases e2 : i = a
    · subst e2; rw [upd_s, if_pos rfl, h b hb]
    · rw [upd_n e2, if_neg e2, h i hi]
theorem sw_back {f : Ar} {a b : Nat} (hab : a ≠ b) : upd (upd (upd (upd f a (f b)) b (f a)) a (upd (upd f a (f b)) b (f a) b)) b (upd (upd f a (f b)) b (f a) a) = f := by
  funext j
  by_cases e : j = b
  · subst e
    rw [upd_s, upd_n hab, upd_s]
  · rw [upd_n e]
    by_cases e2 : j = a
    · subst e2
      rw [upd_s, upd_s]
    · rw [upd_n e2, upd_n e, upd_n e2]
theorem swap_n {k a b : Nat} {f : Ar} (ha : a < k) (hb : b < k) (hk : k < 2 ^ 31) : f_X4_swap k f (nI a) (nI b) = some (upd (upd f a (f b)) b (f a)) := by
  unfold f_X4_swap
  rw [gd_b ha hk, gd_b hb hk, gd_b ha hk, gd_b hb hk, ix_n (j := a) (by omega), ix_n (j := b) (by omega)]
theorem mswap_n {k a b : Nat} {f : Ar} (ha : a < k) (hb : b < k) (hk : k < 2 ^ 31) : f_X6_swap k f (nI a) (nI b) = some (upd (upd f a (f b)) b (f a)) := by
  unfold f_X6_swap
  rw [gd_b ha hk, gd_b hb hk, gd_b ha hk, gd_b hb hk, ix_n (j := a) (by omega), ix_n (j := b) (by omega)]
theorem RW_sw1 {w : Wh} {c : Cfg} {d : Dyn} (hW : RW w c d) {a b : Nat} {A B C D : Ar} (g1 : ∀ i, i < cN c → A i = nI (swF (cKind c) a b i)) (g2 : ∀ i, i < cN c → B i = nI (swF (cLong c) a b i)) (g3 : ∀ i, i < cN c → C i = nI (swF (cStrong c) a b i)) (g4 : ∀ i, i < 8 → D i = nI (swF (dWear d) a b i)) (ht : wh_there w = nI (swT (dThere d) a b)) : RW (wh_set_wear (wh_set_strong (wh_set_length (wh_set_kind w A) B) C) D) (swC c a b) (swD d a b) := by
  obtain ⟨w1, w2, w3, w4, w5, w6, w7, w8, w9⟩ := hW
  exact ⟨w1, w2, w3, w4, ht, w6, w7, g4, fun i hi => ⟨g1 i hi, g2 i hi, g3 i hi⟩⟩
theorem RW_sw2 {w : Wh} {c : Cfg} {d : Dyn} (hW : RW w c d) {a b : Nat} {A B C D : Ar} {T : Int32} (g1 : ∀ i, i < cN c → A i = nI (swF (cKind c) a b i)) (g2 : ∀ i, i < cN c → B i = nI (swF (cLong c) a b i)) (g3 : ∀ i, i < cN c → C i = nI (swF (cStrong c) a b i)) (g4 : ∀ i, i < 8 → D i = nI (swF (dWear d) a b i)) (ht : T = nI (swT (dThere d) a b)) : RW (wh_set_there (wh_set_wear (wh_set_strong (wh_set_length (wh_set_kind w A) B) C) D) T) (swC c a b) (swD d a b) := by
  obtain ⟨w1, w2, w3, w4, w5, w6, w7, w8, w9⟩ := hW
  exact ⟨w1, w2, w3, w4, ht, w6, w7, g4, fun i hi => ⟨g1 i hi, g2 i hi, g3 i hi⟩⟩
theorem cround_ok {w : Wh} {c : Cfg} {d : Dyn} (hW : RW w c d) (hC : okC c) (hD : okD c d) {a b : Nat} (hab : a < b) (hb : b < cN c) : ∃ w1, f_X4_changeRound w (nI a) (nI b) = some w1 ∧ RW w1 (swC c a b) (swD d a b) := by
  have hn := okC_n hC
  have ht := there_lt hC hD
  obtain ⟨w1, w2, w3, w4, w5, w6, w7, w8, w9⟩ := id hW
  have g1 := sw_upd (f := wh_kind w) (g := cKind c) (a := a) (b := b) (fun i hi => (w9 i hi).1) (by omega) hb
  have g2 := sw_upd (f := wh_length w) (g := cLong c) (a := a) (b := b) (fun i hi => (w9 i hi).2.1) (by omega) hb
  have g3 := sw_upd (f := wh_strong w) (g := cStrong c) (a := a) (b := b) (fun i hi => (w9 i hi).2.2) (by omega) hb
  have g4 := sw_upd (f := wh_wear w) (g := dWear d) (a := a) (b := b) w8 (by omega) (by omega)
  have hI : ∀ (A B C D : Ar) (i : Nat), i < 8 → f_X4_isThere (wh_set_wear (wh_set_strong (wh_set_length (wh_set_kind w A) B) C) D) (nI i) = some (nI (if (dThere d).testBit i then 1 else 0)) := fun A B C D i hi => isThere_ok (w := wh_set_wear (wh_set_strong (wh_set_length (wh_set_kind w A) B) C) D) w5 ht hi
  unfold f_X4_changeRound
  rw [swap_n (by omega) (by omega) (by decide), ob_some, swap_n (by omega) (by omega) (by decide), ob_some, swap_n (by omega) (by omega) (by decide), ob_some, swap_n (by omega) (by omega) (by decide), ob_some, hI _ _ _ _ a (by omega), ob_some, hI _ _ _ _ b (by omega), ob_some]
  by_cases e : (dThere d).testBit a = (dThere d).testBit b
  · rw [e, if_pos rfl]
    refine ⟨_, rfl, RW_sw1 hW g1 g2 g3 g4 ?_⟩
    unfold swT
    rw [if_pos e, w5]
  · rw [if_neg]
    · refine ⟨_, rfl, RW_sw2 hW g1 g2 g3 g4 ?_⟩
      rw [w5]
      exact tb_swc _ ht b (by omega) a hab e
    · cases e1 : (dThere d).testBit a <;> cases e2 : (dThere d).testBit b
      · exact absurd (e1.trans e2.symm) e
      · decide
      · decide
      · exact absurd (e1.trans e2.symm) e
def chgI (f : Nat → Nat → Nat) (a : Nat) (s : Int32 × Nat) : Nat → Int32 × Nat
  | 0 => s
  | k + 1 => if (chgI f a s k).2 ≤ f a (a + 1 + k) then chgI f a s k else (nI (10 * a + (a + 1 + k)), f a (a + 1 + k))
def chgO (f : Nat → Nat → Nat) (n : Nat) (s : Int32 × Nat) : Nat → Int32 × Nat
  | 0 => s
  | k + 1 => chgI f k (chgO f n s k) (n - (k + 1))
theorem chgI_le (f : Nat → Nat → Nat) (a : Nat) (s : Int32 × Nat) (k : Nat) : (chgI f a s k).2 ≤ s.2 := by
  induction k with
  | zero => exact Nat.le_refl _
  | succ k ih =>
    show (if (chgI f a s k).2 ≤ f a (a + 1 + k) then chgI f a s k else (nI (10 * a + (a + 1 + k)), f a (a + 1 + k))).2 ≤ s.2
    split
    · exact ih
    · dsimp only; omega
theorem chgO_le (f : Nat → Nat → Nat) (n : Nat) (s : Int32 × Nat) (k : Nat) : (chgO f n s k).2 ≤ s.2 := by
  induction k with
  | zero => exact Nat.le_refl _
  | succ k ih => exact Nat.le_trans (chgI_le f k _ _) ih
def chgF (c : Cfg) (d : Dyn) (a b : Nat) : Nat := (limN (swC c a b) true (swD d a b) 20).1
theorem cchange_ok {a : As} {w : Wh} {c : Cfg} {d : Dyn} (hW : RW w c d) (hC : okC c) (hD : okD c d) (h3 : 3 ≤ cN c) (hr : dRut d < 400) : ∃ a1, f_X0_bestChange a w = some ((chgO (chgF c d) (cN c) (-9, (limN c true d 20).1) (cN c)).1, a1) ∧ as_found a1 = nI (chgO (chgF c d) (cN c) (-9, (limN c true d 20).1) (cN c)).2 := by
  have hn := okC_n hC
  obtain ⟨q1, e1, h1⟩ := take_ok (w := as_trial a) hW hC hD
  obtain ⟨q2, e2, h2⟩ := climps_ok h1 hC hD h3 (by omega) (n := 20) (by omega)
  have hl0 := lim_le c true d 20
  have key : ∃ o, f_X0_bestChange a w = some o ∧ ∃ a1, o = ((chgO (chgF c d) (cN c) (-9, (limN c true d 20).1) (cN c)).1, a1) ∧ as_found a1 = nI (chgO (chgF c d) (cN c) (-9, (limN c true d 20).1) (cN c)).2 := by
    unfold f_X0_bestChange
    rw [e1, ob_some, show f_X4_limpsIn q1 (20 : Int32) = _ from e2, ob_some]
    refine lp_e (fun k s => ∃ a1, s = ((chgO (chgF c d) (cN c) (-9, (limN c true d 20).1) k).1, nI k, a1) ∧ as_found a1 = nI (chgO (chgF c d) (cN c) (-9, (limN c true d 20).1) k).2) _ (cN c) ⟨_, rfl, rfl⟩ (by omega) ?_ ?_
    · rintro p s hp ⟨a1, rfl, ha⟩
      have hlo : (chgO (chgF c d) (cN c) (-9, (limN c true d 20).1) p).2 ≤ (limN c true d 20).1 := chgO_le (chgF c d) (cN c) (-9, (limN c true d 20).1) p
      show ∃ t, f_X0_bestChange_B29 w _ (nI p) a1 = _ ∧ ∃ a1, t = ((chgI (chgF c d) p (chgO (chgF c d) (cN c) (-9, (limN c true d 20).1) p) (cN c - (p + 1))).1, nI (p + 1), a1) ∧ as_found a1 = nI (chgI (chgF c d) p (chgO (chgF c d) (cN c) (-9, (limN c true d 20).1) p) (cN c - (p + 1))).2
      generalize chgO (chgF c d) (cN c) (-9, (limN c true d 20).1) p = u at ha hlo ⊢
      unfold f_X0_bestChange_B29
      rw [hW.1, if_neg (nI_ge hp (by omega)), nI_1]
      have hin : ∃ o, lp (f_X0_bestChange_L44 w (nI p)) fuel (u.1, nI (p + 1), a1) = some o ∧ ∃ a2, o = Sum.inl ((chgI (chgF c d) p u (cN c - (p + 1))).1, nI (p + 1), a2) ∧ as_found a2 = nI (chgI (chgF c d) p u (cN c - (p + 1))).2 := by
        refine lp_e (fun k s => ∃ a2, s = ((chgI (chgF c d) p u k).1, nI (p + 1 + k), a2) ∧ as_found a2 = nI (chgI (chgF c d) p u k).2) _ (cN c - (p + 1)) ⟨a1, rfl, ha⟩ (by omega) ?_ ?_
        · rintro k s hk ⟨a2, rfl, ha2⟩
          have hli := chgI_le (chgF c d) p u k
          obtain ⟨q3, e3, h3'⟩ := take_ok (w := as_trial a2) hW hC hD
          obtain ⟨q4, e4, h4⟩ := cround_ok h3' hC hD (a := p) (b := p + 1 + k) (by omega) (by omega)
          obtain ⟨q5, e5, h5⟩ := climps_ok h4 (okC_sw hC (by omega) (by omega)) (okD_sw hC hD (by omega) (by omega)) h3 (show dRut d < 500 by omega) (n := 20) (by omega)
          have hle : chgF c d p (p + 1 + k) ≤ 20 := lim_le _ _ _ _
          show ∃ t, f_X0_bestChange_B44 w (nI p) _ (nI (p + 1 + k)) a2 = _ ∧ ∃ a2, t = ((if (chgI (chgF c d) p u k).2 ≤ chgF c d p (p + 1 + k) then chgI (chgF c d) p u k else (nI (10 * p + (p + 1 + k)), chgF c d p (p + 1 + k))).1, nI (p + 1 + (k + 1)), a2) ∧ as_found a2 = nI (if (chgI (chgF c d) p u k).2 ≤ chgF c d p (p + 1 + k) then chgI (chgF c d) p u k else (nI (10 * p + (p + 1 + k)), chgF c d p (p + 1 + k))).2
          unfold f_X0_bestChange_B44 f_X0_bestChange_J108
          rw [hW.1, if_neg (nI_ge (by omega) (by omega)), e3, ob_some, e4, ob_some, show f_X4_limpsIn q4 (20 : Int32) = _ from e5, ob_some, ha2]
          dsimp only
          by_cases e : (chgI (chgF c d) p u k).2 ≤ chgF c d p (p + 1 + k)
          · rw [if_pos (show nI (chgI (chgF c d) p u k).2 ≤ nI (limN (swC c p (p + 1 + k)) true (swD d p (p + 1 + k)) 20).1 from nI_le (b := chgF c d p (p + 1 + k)) e (by omega)), if_pos e, nI_1]
            exact ⟨_, rfl, _, rfl, ha2⟩
          · rw [if_neg (show ¬ nI (chgI (chgF c d) p u k).2 ≤ nI (limN (swC c p (p + 1 + k)) true (swD d p (p + 1 + k)) 20).1 from nI_ge (Nat.lt_of_not_le e) (by omega)), if_neg e, nI_1, nm_eq, show (10 : Int32) * nI p + nI (p + 1 + k) = nI (10 * p + (p + 1 + k)) by rw [show (10 : Int32) * nI p = nI (10 * p) from pk_mul 10 p, nI_add]]
            exact ⟨_, rfl, _, rfl, rfl⟩
        · rintro s ⟨a2, rfl, ha2⟩
          refine ⟨_, ?_, a2, rfl, ha2⟩
          show f_X0_bestChange_B44 w (nI p) _ (nI (p + 1 + (cN c - (p + 1)))) a2 = _
          unfold f_X0_bestChange_B44 f_X0_bestChange_J114
          rw [hW.1, if_pos (nI_le (by omega) (by omega)), nI_1]; rfl
      obtain ⟨o, eo, a2, rfl, ho⟩ := hin
      exact ⟨_, eo, a2, rfl, ho⟩
    · rintro s ⟨a1, rfl, ha⟩
      refine ⟨_, ?_, a1, rfl, ha⟩
      show f_X0_bestChange_B29 w _ (nI (cN c)) a1 = _
      unfold f_X0_bestChange_B29
      rw [hW.1, if_pos (nI_le (Nat.le_refl _) (by omega))]; rfl
  obtain ⟨o, e, a1, rfl, h⟩ := key
  exact ⟨a1, e, h⟩
theorem RT_sw {t : Ar} {c : Cfg} {d : Dyn} (h : RT t 0 d) (hC : okC c) (hD : okD c d) {a b : Nat} (hab : a < b) (hb : b < cN c) : RT (upd (upd (upd t (4 + a) (t (4 + b))) (4 + b) (t (4 + a))) 3 (nI (swT (dThere d) a b))) 0 (swD d a b) := by
  have hn := okC_n hC
  obtain ⟨h0, h1, h2, h3, -⟩ := id h
  refine ⟨?_, ?_, ?_, upd_s, fun i hi => ?_⟩
  · exact (upd_n (by decide)).trans ((upd_n (by omega)).trans ((upd_n (by omega)).trans h0))
  · exact (upd_n (by decide)).trans ((upd_n (by omega)).trans ((upd_n (by omega)).trans h1))
  · exact (upd_n (by decide)).trans ((upd_n (by omega)).trans ((upd_n (by omega)).trans h2))
  · rw [Nat.zero_add, upd_n (by omega)]
    show _ = nI (swF (dWear d) a b i)
    unfold swF
    by_cases e : i = b
    · subst e; rw [upd_s, if_pos rfl]; exact RT4 h (by omega)
    · rw [upd_n (by omega), if_neg e]
      by_cases e2 : i = a
      · subst e2; rw [upd_s, if_pos rfl]; exact RT4 h (by omega)
      · rw [upd_n (by omega), if_neg e2]; exact RT4 h hi
theorem mchanges_ok {y : Md} {a b : Nat} (ha : a < 8) (hb : b < 8) : f_X6_changes y (nI a) (nI b) = some (md_set_strongs (md_set_longs (md_set_kinds y (upd (upd (md_kinds y) a (md_kinds y b)) b (md_kinds y a))) (upd (upd (md_longs y) a (md_longs y b)) b (md_longs y a))) (upd (upd (md_strongs y) a (md_strongs y b)) b (md_strongs y a))) := by
  unfold f_X6_changes
  rw [mswap_n ha hb (by decide), ob_some, mswap_n ha hb (by decide), ob_some, mswap_n ha hb (by decide), ob_some]
theorem RM_kls {y : Md} {c : Cfg} (hM : RM y c) (a b : Nat) {t Z1 Z2 Z3 : Ar} (g1 : ∀ i, i < cN c → Z1 i = nI (swF (cKind c) a b i)) (g2 : ∀ i, i < cN c → Z2 i = nI (swF (cLong c) a b i)) (g3 : ∀ i, i < cN c → Z3 i = nI (swF (cStrong c) a b i)) : RM (kY y t Z1 Z2 Z3) (swC c a b) := ⟨hM.1, hM.2.1, hM.2.2.1, fun i hi => ⟨g1 i hi, g2 i hi, g3 i hi⟩⟩
theorem RM_sw {y : Md} {c : Cfg} (hM : RM y c) {a b : Nat} (ha : a < cN c) (hb : b < cN c) (t : Ar) : RM (kY y t (upd (upd (md_kinds y) a (md_kinds y b)) b (md_kinds y a)) (upd (upd (md_longs y) a (md_longs y b)) b (md_longs y a)) (upd (upd (md_strongs y) a (md_strongs y b)) b (md_strongs y a))) (swC c a b) :=
  RM_kls hM a b (sw_upd (f := md_kinds y) (g := cKind c) (a := a) (b := b) (fun i hi => (hM.2.2.2 i hi).1) ha hb) (sw_upd (f := md_longs y) (g := cLong c) (a := a) (b := b) (fun i hi => (hM.2.2.2 i hi).2.1) ha hb) (sw_upd (f := md_strongs y) (g := cStrong c) (a := a) (b := b) (fun i hi => (hM.2.2.2 i hi).2.2) ha hb)
theorem mchanges_k {y : Md} {t K L S : Ar} {a b : Nat} (ha : a < 8) (hb : b < 8) : f_X6_changes (kY y t K L S) (nI a) (nI b) = some (kY y t (upd (upd K a (K b)) b (K a)) (upd (upd L a (L b)) b (L a)) (upd (upd S a (S b)) b (S a))) := by
  rw [mchanges_ok ha hb, kY_f_kinds, kY_f_longs, kY_f_strongs, kY_s_kinds, kY_s_longs, kY_s_strongs]
/-- one pair of spokes, tried by the reference -/
theorem mpair_ok {y : Md} {c : Cfg} {d : Dyn} (hM : RM y c) (hN : RT (md_now y) 0 d) (t0 : Ar) (hC : okC c) (hD : okD c d) (h3 : 3 ≤ cN c) (hr : dRut d < 400) {a b : Nat} (hab : a < b) (hb : b < cN c) : ∃ t1 t2 t3, f_X6_copyNow (md_set_tried y t0) = some (md_set_tried y t1) ∧ f_X6_swap 12 t1 ((4 : Int32) + nI a) ((4 : Int32) + nI b) = some t2 ∧ ∃ y1 y2, f_X6_changes (md_set_tried y (upd t2 3 (((((t2 3) &&& ((jshl (1 : Int32) (nI a)) ^^^ (-1 : Int32))) &&& ((jshl (1 : Int32) (nI b)) ^^^ (-1 : Int32))) ||| (jshl ((jshr (t2 3) (nI b)) &&& (1 : Int32)) (nI a))) ||| (jshl ((jshr (t2 3) (nI a)) &&& (1 : Int32)) (nI b))))) (nI a) (nI b) = some y1 ∧ f_X6_limpsIn y1 (20 : Int32) (1 : Int32) = some (nI (chgF c d a b), y2) ∧ f_X6_changes y2 (nI a) (nI b) = some (md_set_tried y t3) := by
  have hn := okC_n hC
  have ht := there_lt hC hD
  obtain ⟨t1, e1, h1⟩ := copyNow_t hN t0
  have e2 : f_X6_swap 12 t1 ((4 : Int32) + nI a) ((4 : Int32) + nI b) = some (upd (upd t1 (4 + a) (t1 (4 + b))) (4 + b) (t1 (4 + a))) := by
    show f_X6_swap 12 t1 (nI 4 + nI a) (nI 4 + nI b) = _
    rw [nI_add, nI_add, mswap_n (by omega) (by omega) (by decide)]
  have e3 : upd (upd t1 (4 + a) (t1 (4 + b))) (4 + b) (t1 (4 + a)) 3 = nI (dThere d) := by
    rw [upd_n (by omega), upd_n (by omega)]; exact h1.2.2.2.1
  have hsw := RT_sw h1 hC hD hab hb
  have etb : (((((nI (dThere d)) &&& ((jshl (1 : Int32) (nI a)) ^^^ (-1 : Int32))) &&& ((jshl (1 : Int32) (nI b)) ^^^ (-1 : Int32))) ||| (jshl ((jshr (nI (dThere d)) (nI b)) &&& (1 : Int32)) (nI a))) ||| (jshl ((jshr (nI (dThere d)) (nI a)) &&& (1 : Int32)) (nI b))) = nI (swT (dThere d) a b) := by
    have g := tb_swm _ ht b (by omega) a hab
    rw [← tb_has0 _ ht b (by omega), ← tb_has0 _ ht a (by omega)] at g
    exact g
  generalize upd (upd t1 (4 + a) (t1 (4 + b))) (4 + b) (t1 (4 + a)) = t2 at e2 e3 hsw
  obtain ⟨t3, e4, -⟩ := limps_kY (RM_sw hM (a := a) (b := b) (by omega) hb (upd t2 3 (nI (swT (dThere d) a b)))) hsw (okC_sw hC (by omega) hb) (okD_sw hC hD hab hb) h3 (show dRut d < 500 by omega) (n := 20) (by omega) true
  refine ⟨t1, t2, t3, e1, e2, ?_⟩
  rw [e3, etb, kY_tr, mchanges_k (by omega) (by omega)]
  refine ⟨_, _, rfl, e4, ?_⟩
  rw [mchanges_k (by omega) (by omega), sw_back (by omega), sw_back (by omega), sw_back (by omega), ← kY_tr]
theorem mchange_ok {y : Md} {c : Cfg} {d : Dyn} (hM : RM y c) (hN : RT (md_now y) 0 d) (hC : okC c) (hD : okD c d) (h3 : 3 ≤ cN c) (hr : dRut d < 400) {l0 : Nat} (hl0 : l0 ≤ 20) (t0 : Ar) : ∃ t, lp f_X6_change_L27 fuel (nI l0, (-9 : Int32), (0 : Int32), md_set_tried y t0) = f_X6_change_J194 (md_set_tried y t) (nI (chgO (chgF c d) (cN c) (-9, l0) (cN c)).2) (chgO (chgF c d) (cN c) (-9, l0) (cN c)).1 := by
  have hn := okC_n hC
  have key : ∃ o, lp f_X6_change_L27 fuel (nI l0, (-9 : Int32), (0 : Int32), md_set_tried y t0) = some o ∧ ∃ t, f_X6_change_J194 (md_set_tried y t) (nI (chgO (chgF c d) (cN c) (-9, l0) (cN c)).2) (chgO (chgF c d) (cN c) (-9, l0) (cN c)).1 = some o := by
    refine lp_e (fun k s => ∃ t, s = (nI (chgO (chgF c d) (cN c) (-9, l0) k).2, (chgO (chgF c d) (cN c) (-9, l0) k).1, nI k, md_set_tried y t)) _ (cN c) ⟨t0, rfl⟩ (by omega) ?_ ?_
    · rintro p s hp ⟨t, rfl⟩
      have hlo : (chgO (chgF c d) (cN c) (-9, l0) p).2 ≤ l0 := chgO_le (chgF c d) (cN c) (-9, l0) p
      show ∃ s1, f_X6_change_B27 (nI _) _ (nI p) (md_set_tried y t) = _ ∧ ∃ t, s1 = (nI (chgI (chgF c d) p (chgO (chgF c d) (cN c) (-9, l0) p) (cN c - (p + 1))).2, (chgI (chgF c d) p (chgO (chgF c d) (cN c) (-9, l0) p) (cN c - (p + 1))).1, nI (p + 1), md_set_tried y t)
      generalize chgO (chgF c d) (cN c) (-9, l0) p = u at hlo ⊢
      unfold f_X6_change_B27
      rw [show md_n (md_set_tried y t) = nI (cN c) from hM.1, if_neg (nI_ge hp (by omega)), nI_1]
      have hin : ∃ o, lp (f_X6_change_L40 (nI p)) fuel (nI u.2, u.1, nI (p + 1), md_set_tried y t) = some o ∧ ∃ t, o = Sum.inl (nI (chgI (chgF c d) p u (cN c - (p + 1))).2, (chgI (chgF c d) p u (cN c - (p + 1))).1, nI (p + 1), md_set_tried y t) := by
        refine lp_e (fun k s => ∃ t, s = (nI (chgI (chgF c d) p u k).2, (chgI (chgF c d) p u k).1, nI (p + 1 + k), md_set_tried y t)) _ (cN c - (p + 1)) ⟨t, rfl⟩ (by omega) ?_ ?_
        · rintro k s hk ⟨t, rfl⟩
          have hli := chgI_le (chgF c d) p u k
          obtain ⟨t1, t2, t3, g1, g2, g3⟩ := mpair_ok hM hN t hC hD h3 hr (a := p) (b := p + 1 + k) (by omega) (by omega)
          obtain ⟨y1, y2, g4, g5, g6⟩ := g3
          have hle : chgF c d p (p + 1 + k) ≤ 20 := lim_le _ _ _ _
          show ∃ s1, f_X6_change_B40 (nI p) (nI _) _ (nI (p + 1 + k)) (md_set_tried y t) = _ ∧ ∃ t, s1 = (nI (if (chgI (chgF c d) p u k).2 ≤ chgF c d p (p + 1 + k) then chgI (chgF c d) p u k else (nI (10 * p + (p + 1 + k)), chgF c d p (p + 1 + k))).2, (if (chgI (chgF c d) p u k).2 ≤ chgF c d p (p + 1 + k) then chgI (chgF c d) p u k else (nI (10 * p + (p + 1 + k)), chgF c d p (p + 1 + k))).1, nI (p + 1 + (k + 1)), md_set_tried y t)
          unfold f_X6_change_B40 f_X6_change_J168 f_X6_change_J181
          rw [show md_n (md_set_tried y t) = nI (cN c) from hM.1, if_neg (nI_ge (by omega) (by omega)), g1, ob_some, tt1, g2, ob_some, nm_eq, nm_eq, tt, g4, ob_some, g5, ob_some, g6, ob_some]
          dsimp only
          by_cases e : (chgI (chgF c d) p u k).2 ≤ chgF c d p (p + 1 + k)
          · rw [if_pos (nI_le e (by omega)), if_pos (nI_le e (by omega)), if_pos e, nI_1]
            exact ⟨_, rfl, t3, rfl⟩
          · rw [if_neg (nI_ge (Nat.lt_of_not_le e) (by omega)), if_neg (nI_ge (Nat.lt_of_not_le e) (by omega)), if_neg e, nI_1, show (10 : Int32) * nI p + nI (p + 1 + k) = nI (10 * p + (p + 1 + k)) by rw [show (10 : Int32) * nI p = nI (10 * p) from pk_mul 10 p, nI_add]]
            exact ⟨_, rfl, t3, rfl⟩
        · rintro s ⟨t, rfl⟩
          refine ⟨_, ?_, t, rfl⟩
          show f_X6_change_B40 (nI p) (nI _) _ (nI (p + 1 + (cN c - (p + 1)))) (md_set_tried y t) = _
          unfold f_X6_change_B40 f_X6_change_J188
          rw [show md_n (md_set_tried y t) = nI (cN c) from hM.1, if_pos (nI_le (by omega) (by omega)), nI_1]; rfl
      obtain ⟨o, eo, t, rfl⟩ := hin
      exact ⟨_, eo, t, rfl⟩
    · rintro s ⟨t, rfl⟩
      have hJ : ∃ o, f_X6_change_J194 (md_set_tried y t) (nI (chgO (chgF c d) (cN c) (-9, l0) (cN c)).2) (chgO (chgF c d) (cN c) (-9, l0) (cN c)).1 = some o := by
        unfold f_X6_change_J194
        split
        · exact ⟨_, rfl⟩
        · exact ⟨_, rfl⟩
      obtain ⟨o, eJ⟩ := hJ
      refine ⟨o, ?_, t, eJ⟩
      show f_X6_change_B27 (nI _) _ (nI (cN c)) (md_set_tried y t) = _
      unfold f_X6_change_B27
      rw [show md_n (md_set_tried y t) = nI (cN c) from hM.1, if_pos (nI_le (Nat.le_refl _) (by omega)), eJ]; rfl
  obtain ⟨o, e, t, h⟩ := key
  exact ⟨t, e.trans h.symm⟩
theorem s_change : S_change Rel := by
  intro x y h
  have hRel := h
  obtain ⟨hT, hR, hX, c, E, hWE⟩ := h
  obtain ⟨hC, hE, hRC, hM, hd, hN, hL, hK⟩ := id hWE
  obtain ⟨o1, o2⟩ := okD_rep hC hE
  have h40 := hE.1
  have hn := okC_n hC
  unfold f_X5_change f_X6_change
  by_cases h0 : cN c = 0
  · rw [cEmpty0 hRC.1 h0, if_pos (mn0 hM h0)]
    exact ⟨-4, x, y, rfl, rfl, hRel⟩
  · have h3 := okC_3 hC h0
    obtain ⟨a1, e1, g1⟩ := cchange_ok (a := ww_aside x) hRC.1 hC o1 h3 (by omega)
    obtain ⟨t1, e2, h5⟩ := copyNow_ok hN
    obtain ⟨t2, e3, h6⟩ := mlimps_t hM h5 hC o1 h3 (by omega) (n := 20) (by omega) true
    obtain ⟨t, e4⟩ := mchange_ok hM hN hC o1 h3 (by omega) (lim_le c true (repN c E) 20) t2
    rw [cEmpty1 hRC.1 hC h3, if_neg (mn1 hM hC h3), ob_some, if_pos (show (0 : Int32) = 0 from rfl), e1, e2, ob_some, ob_some, show f_X6_limpsIn (md_set_tried y t1) (20 : Int32) (1 : Int32) = _ from e3, ob_some]
    try dsimp only
    rw [e4]
    generalize chgO (chgF c (repN c E)) (cN c) (-9, (limN c true (repN c E) 20).1) (cN c) = u at g1 ⊢
    unfold f_X5_tellBeside f_X6_change_J194
    try dsimp only
    by_cases e : u.1 = -9
    · rw [if_pos e, if_pos e]
      exact ⟨-9, ww_set_aside x a1, md_set_tried y t, by rw [ob_some, e], rfl, relB hRel⟩
    · rw [if_neg e, if_neg e]
      exact ⟨u.1, ww_set_askedLast (ww_set_aside x a1) (as_found a1), md_set_told (md_set_tried y t) (nI u.2), rfl, rfl, relA hRel g1⟩
