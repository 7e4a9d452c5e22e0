/-! PURE SIDE: count, digest -/
theorem howMany_ok {n m : Nat} {w : Sh} {sz pl : Ar} (h : RS n m w sz pl) (hn : n < 1000) : f_X3_howMany n m w = some (nI (cntN (fun r => decide (¬ sz r = -1)) n)) := by
  unfold f_X3_howMany
  refine lp_for0 (fun q => (nI (cntN (fun r => decide (¬ sz r = -1)) q), nI q)) n (fun q hq => ?_) ?_ rfl (by show n < 100000; omega)
  · show f_X3_howMany_B4 n m w (nI _) (nI q) = some (Sum.inl (nI (cntN (fun r => decide (¬ sz r = -1)) q + (if decide (¬ sz q = -1) = true then 1 else 0)), nI (q + 1)))
    unfold f_X3_howMany_B4 f_X3_howMany_J26
    rw [if_neg (show ¬ Int32.ofNat n ≤ nI q from nI_ge hq (by omega)), gd_b hq (by omega), ix_n (by omega), (h.2 q hq).1]
    by_cases e : sz q = -1
    · rw [if_pos e, if_neg (by simpa using e), Nat.add_zero, nI_1]
    · rw [if_neg e, if_pos (by simpa using e), nI_1, nI_1]
  · show f_X3_howMany_B4 n m w (nI _) (nI n) = _
    unfold f_X3_howMany_B4
    rw [if_pos (show Int32.ofNat n ≤ nI n from nI_le (Nat.le_refl n) (by omega))]; rfl
theorem sz_neg {n m : Nat} {w : Sh} {sz pl : Ar} (h : RS n m w sz pl) (hm : m < 2 ^ 31) {q : Nat} (hq : q < n) : sz q < 0 ↔ sz q = -1 := by
  rcases (h.2 q hq).2.1 with e | ⟨k, hk, e⟩
  · rw [e]; decide
  · rw [e]
    exact ⟨fun z => absurd z (nI_pos (by omega)), fun z => absurd z (nI_ne_m1 (by omega))⟩
theorem mrowsN_ok {y : Md} {w : Sh} (h : RS 6 40 w (md_sizes y) (md_rows y)) : lp (f_X6_counted_L126 y) fuel ((0 : Int32), (0 : Int32)) = some (nI (cntN (fun r => decide (¬ md_sizes y r = -1)) 6)) := by
  refine lp_for0 (fun q => (nI (cntN (fun r => decide (¬ md_sizes y r = -1)) q), nI q)) 6 (fun q hq => ?_) ?_ rfl (by decide)
  · show f_X6_counted_B126 y (nI _) (nI q) = some (Sum.inl (nI (cntN (fun r => decide (¬ md_sizes y r = -1)) q + (if decide (¬ md_sizes y q = -1) = true then 1 else 0)), nI (q + 1)))
    unfold f_X6_counted_B126 f_X6_counted_J147
    rw [if_neg (show ¬ (6 : Int32) ≤ nI q from nI_ge hq (by decide)), gd_b hq (by decide), ix_n (by omega)]
    by_cases e : md_sizes y q = -1
    · rw [if_pos ((sz_neg h (by decide) hq).mpr e), if_neg (by simpa using e), nI_1]
      show some (Sum.inl (nI _ + nI 0, _)) = _
      rw [nI_add]
    · rw [if_neg (fun z => e ((sz_neg h (by decide) hq).mp z)), if_pos (by simpa using e), nI_1, nI_1]
  · show f_X6_counted_B126 y (nI _) (nI 6) = _
    unfold f_X6_counted_B126
    rw [if_pos (show (6 : Int32) ≤ nI 6 by decide)]; rfl
theorem mtextsN_ok {y : Md} {w : Sh} (h : RS 4 60 w (md_textSizes y) (md_bytes y)) : lp (f_X6_counted_L159 y) fuel ((0 : Int32), (0 : Int32)) = some (nI (cntN (fun r => decide (¬ md_textSizes y r = -1)) 4)) := by
  refine lp_for0 (fun q => (nI (cntN (fun r => decide (¬ md_textSizes y r = -1)) q), nI q)) 4 (fun q hq => ?_) ?_ rfl (by decide)
  · show f_X6_counted_B159 y (nI _) (nI q) = some (Sum.inl (nI (cntN (fun r => decide (¬ md_textSizes y r = -1)) q + (if decide (¬ md_textSizes y q = -1) = true then 1 else 0)), nI (q + 1)))
    unfold f_X6_counted_B159 f_X6_counted_J179
    rw [if_neg (show ¬ (4 : Int32) ≤ nI q from nI_ge hq (by decide)), gd_b hq (by decide), ix_n (by omega)]
    by_cases e : md_textSizes y q = -1
    · rw [if_pos ((sz_neg h (by decide) hq).mpr e), if_neg (by simpa using e), nI_1]
      show some (Sum.inl (nI _ + nI 0, _)) = _
      rw [nI_add]
    · rw [if_neg (fun z => e ((sz_neg h (by decide) hq).mp z)), if_pos (by simpa using e), nI_1, nI_1]
  · show f_X6_counted_B159 y (nI _) (nI 4) = _
    unfold f_X6_counted_B159
    rw [if_pos (show (4 : Int32) ≤ nI 4 by decide)]; rfl
theorem kept_eq {x : Ww} {y : Md} {c : Cfg} {k : Nat} (h : RK x y c k) : ct_done (ww_kept x k) = md_keptMany y k ∧ (md_keptMany y k = -1 ∨ ∃ j : Nat, j ≤ 40 ∧ md_keptMany y k = nI j) := by
  rcases h with ⟨a, b⟩ | ⟨-, E, e1, e2, e3, -⟩
  · exact ⟨a.trans b.symm, Or.inl b⟩
  · exact ⟨e2.2.1.trans e3.symm, Or.inr ⟨E.length, e1.1, e3⟩⟩
theorem kept_b {x : Ww} {a : Int32} {q : Nat} (hq : q < 3) : f_X5_keptOnes_B4 x a (nI q) = if ct_done (ww_kept x q) = -1 then some (.inl (a, nI q + 1)) else some (.inl (a + 1, nI q + 1)) := by
  match q, hq with
  | 0, _ => rfl
  | 1, _ => rfl
  | 2, _ => rfl
  | k + 3, h => exact absurd h (by omega)
theorem ckept_ok {x : Ww} {y : Md} {c : Cfg} (hK : ∀ k, k < 3 → RK x y c k) : f_X5_keptOnes x = some (nI (cntN (fun r => decide (¬ md_keptMany y r = -1)) 3)) := by
  unfold f_X5_keptOnes
  refine lp_for0 (fun q => (nI (cntN (fun r => decide (¬ md_keptMany y r = -1)) q), nI q)) 3 (fun q hq => ?_) ?_ rfl (by decide)
  · show f_X5_keptOnes_B4 x (nI _) (nI q) = some (Sum.inl (nI (cntN (fun r => decide (¬ md_keptMany y r = -1)) q + (if decide (¬ md_keptMany y q = -1) = true then 1 else 0)), nI (q + 1)))
    rw [kept_b hq, (kept_eq (hK q hq)).1]
    by_cases e : md_keptMany y q = -1
    · rw [if_pos e, if_neg (by simpa using e), Nat.add_zero, nI_1]
    · rw [if_neg e, if_pos (by simpa using e), nI_1, nI_1]
  · show f_X5_keptOnes_B4 x (nI _) (nI 3) = _
    unfold f_X5_keptOnes_B4
    rw [if_pos (show (3 : Int32) ≤ nI 3 by decide)]; rfl
theorem mkept_ok {x : Ww} {y : Md} {c : Cfg} (hK : ∀ k, k < 3 → RK x y c k) : lp (f_X6_counted_L191 y) fuel ((0 : Int32), (0 : Int32)) = some (nI (cntN (fun r => decide (¬ md_keptMany y r = -1)) 3)) := by
  refine lp_for0 (fun q => (nI (cntN (fun r => decide (¬ md_keptMany y r = -1)) q), nI q)) 3 (fun q hq => ?_) ?_ rfl (by decide)
  · show f_X6_counted_B191 y (nI _) (nI q) = some (Sum.inl (nI (cntN (fun r => decide (¬ md_keptMany y r = -1)) q + (if decide (¬ md_keptMany y q = -1) = true then 1 else 0)), nI (q + 1)))
    unfold f_X6_counted_B191 f_X6_counted_J211
    rw [if_neg (show ¬ (3 : Int32) ≤ nI q from nI_ge hq (by decide)), gd_b hq (by decide), ix_n (by omega)]
    by_cases e : md_keptMany y q = -1
    · rw [if_pos (show md_keptMany y q < 0 by rw [e]; decide), if_neg (by simpa using e), nI_1]
      show some (Sum.inl (nI _ + nI 0, _)) = _
      rw [nI_add]
    · rw [if_neg (fun z => by rcases (kept_eq (hK q hq)).2 with g | ⟨j, hj, g⟩; exact e g; rw [g] at z; exact nI_pos (by omega) z), if_pos (by simpa using e), nI_1, nI_1]
  · show f_X6_counted_B191 y (nI _) (nI 3) = _
    unfold f_X6_counted_B191
    rw [if_pos (show (3 : Int32) ≤ nI 3 by decide)]; rfl
theorem clen_ok {w : Wh} {c : Cfg} {d : Dyn} (hW : RW w c d) (hC : okC c) (hD : okD c d) : f_X4_lengthThere w = some (nI (sumN (fun i => if (dThere d).testBit i then cLong c i else 0) (cN c))) := by
  have hn := okC_n hC
  have ht := there_lt hC hD
  obtain ⟨w1, w2, w3, w4, w5, w6, w7, w8, w9⟩ := hW
  unfold f_X4_lengthThere
  refine lp_for0 (fun q => (nI (sumN (fun i => if (dThere d).testBit i then cLong c i else 0) q), nI q)) (cN c) (fun q hq => ?_) ?_ rfl (by show cN c < 100000; omega)
  · show f_X4_lengthThere_B4 w (nI _) (nI q) = some (Sum.inl (nI (sumN (fun i => if (dThere d).testBit i then cLong c i else 0) q + (if (dThere d).testBit q = true then cLong c q else 0)), nI (q + 1)))
    unfold f_X4_lengthThere_B4 f_X4_lengthThere_J29
    rw [w1, if_neg (nI_ge hq (by omega)), isThere_ok w5 ht (by omega), ob_some]
    by_cases e : (dThere d).testBit q = true
    · rw [if_pos e, if_pos e, if_neg (show ¬ nI 1 = 0 by decide), gd_b (by omega) (by decide), ix_n (by omega), (w9 q hq).2.1, nm_eq, nI_add, nI_1]
    · rw [if_neg e, if_neg e, if_pos (show nI 0 = 0 from nI_0), Nat.add_zero, nI_1]
  · show f_X4_lengthThere_B4 w (nI _) (nI (cN c)) = _
    unfold f_X4_lengthThere_B4
    rw [w1, if_pos (nI_le (Nat.le_refl _) (by omega))]; rfl
theorem mlen_ok {y : Md} {c : Cfg} {d : Dyn} (hM : RM y c) (hN : RT (md_now y) 0 d) (hC : okC c) (hD : okD c d) : lp (f_X6_counted_L223 y) fuel ((0 : Int32), (0 : Int32)) = some (nI (sumN (fun i => if (dThere d).testBit i then cLong c i else 0) (cN c))) := by
  have hn := okC_n hC
  have ht := there_lt hC hD
  refine lp_for0 (fun q => (nI (sumN (fun i => if (dThere d).testBit i then cLong c i else 0) q), nI q)) (cN c) (fun q hq => ?_) ?_ rfl (by show cN c < 100000; omega)
  · show f_X6_counted_B223 y (nI _) (nI q) = some (Sum.inl (nI (sumN (fun i => if (dThere d).testBit i then cLong c i else 0) q + (if (dThere d).testBit q = true then cLong c q else 0)), nI (q + 1)))
    unfold f_X6_counted_B223 f_X6_counted_J255
    rw [hM.1, if_neg (nI_ge hq (by omega)), show md_now y 3 = nI (dThere d) from hN.2.2.2.1, has_ok ht (by omega), ob_some]
    by_cases e : (dThere d).testBit q = true
    · rw [if_pos e, if_pos e, if_neg (show ¬ nI 1 = 0 by decide), gd_b (by omega) (by decide), ix_n (by omega), (hM.2.2.2 q hq).2.1, nI_add, nI_1]
    · rw [if_neg e, if_neg e, if_pos (show nI 0 = 0 from nI_0), nI_1]
      show some (Sum.inl (nI _ + nI 0, _)) = _
      rw [nI_add]
  · show f_X6_counted_B223 y (nI _) (nI (cN c)) = _
    unfold f_X6_counted_B223
    rw [hM.1, if_pos (nI_le (Nat.le_refl _) (by omega))]; rfl
theorem ciron_ok {w : Wh} {c : Cfg} {d : Dyn} (hW : RW w c d) (hC : okC c) : f_X4_ironOnes w = some (nI (cntN (fun i => ofN (cKind c i) 4) (cN c))) := by
  have hn := okC_n hC
  obtain ⟨w1, w2, w3, w4, w5, w6, w7, w8, w9⟩ := hW
  unfold f_X4_ironOnes
  refine lp_for0 (fun q => (nI (cntN (fun i => ofN (cKind c i) 4) q), nI q)) (cN c) (fun q hq => ?_) ?_ rfl (by show cN c < 100000; omega)
  · show f_X4_ironOnes_B4 w (nI _) (nI q) = some (Sum.inl (nI (cntN (fun i => ofN (cKind c i) 4) q + (if ofN (cKind c q) 4 = true then 1 else 0)), nI (q + 1)))
    unfold f_X4_ironOnes_B4 f_X4_ironOnes_J28
    rw [w1, if_neg (nI_ge hq (by omega)), gd_b (by omega) (by decide), ix_n (by omega), (w9 q hq).1, show f_X5_isOfKind (nI (cKind c q)) (4 : Int32) = _ from tb_of5 _ (by have := (hC.2.2.2 q hq).1; omega) 4 (by decide) (by decide), ob_some]
    by_cases e : ofN (cKind c q) 4 = true
    · rw [if_pos e, if_neg (show ¬ nI 1 = 0 by decide), nI_1, nI_1]
    · rw [if_neg e, if_pos (show nI 0 = 0 from nI_0), Nat.add_zero, nI_1]
  · show f_X4_ironOnes_B4 w (nI _) (nI (cN c)) = _
    unfold f_X4_ironOnes_B4
    rw [w1, if_pos (nI_le (Nat.le_refl _) (by omega))]; rfl
theorem miron_ok {y : Md} {c : Cfg} (hM : RM y c) (hC : okC c) : lp (f_X6_counted_L267 y) fuel ((0 : Int32), (0 : Int32)) = some (nI (cntN (fun i => ofN (cKind c i) 4) (cN c))) := by
  have hn := okC_n hC
  refine lp_for0 (fun q => (nI (cntN (fun i => ofN (cKind c i) 4) q), nI q)) (cN c) (fun q hq => ?_) ?_ rfl (by show cN c < 100000; omega)
  · show f_X6_counted_B267 y (nI _) (nI q) = some (Sum.inl (nI (cntN (fun i => ofN (cKind c i) 4) q + (if ofN (cKind c q) 4 = true then 1 else 0)), nI (q + 1)))
    unfold f_X6_counted_B267 f_X6_counted_J294
    rw [hM.1, if_neg (nI_ge hq (by omega)), gd_b (by omega) (by decide), ix_n (by omega), (hM.2.2.2 q hq).1, show f_X6_isOf (nI (cKind c q)) (4 : Int32) = _ from tb_of6 _ (by have := (hC.2.2.2 q hq).1; omega) 4 (by decide) (by decide), ob_some]
    by_cases e : ofN (cKind c q) 4 = true
    · rw [if_pos e, if_neg (show ¬ nI 1 = 0 by decide), nI_1, nI_1]
    · rw [if_neg e, if_pos (show nI 0 = 0 from nI_0), nI_1]
      show some (Sum.inl (nI _ + nI 0, _)) = _
      rw [nI_add]
  · show f_X6_counted_B267 y (nI _) (nI (cN c)) = _
    unfold f_X6_counted_B267
    rw [hM.1, if_pos (nI_le (Nat.le_refl _) (by omega))]; rfl
theorem counted_ok {x : Ww} {y : Md} (h : Rel x y) {k : Nat} (hk : k < 13) : ∃ v, f_X5_counted x (nI k) = some v ∧ f_X6_counted y (nI k) = some v := by
  obtain ⟨hT, hR, hX, c, E, hWE⟩ := h
  obtain ⟨hC, hE, hRC, hM, hd, hN, hL, hK⟩ := id hWE
  obtain ⟨o1, o2⟩ := okD_rep hC hE
  have hn := okC_n hC
  obtain ⟨w1, w2, w3, w4, w5, w6, w7, w8, w9⟩ := id hRC.1
  unfold f_X5_counted f_X6_counted
  rcases (by omega : k = 0 ∨ k = 1 ∨ k = 2 ∨ k = 3 ∨ k = 4 ∨ k = 5 ∨ k = 6 ∨ k = 7 ∨ k = 8 ∨ k = 9 ∨ k = 10 ∨ k = 11 ∨ k = 12) with rfl | rfl | rfl | rfl | rfl | rfl | rfl | rfl | rfl | rfl | rfl | rfl | rfl
  · rw [if_pos (show nI 0 = 0 by decide), if_pos (show nI 0 = 0 by decide), w1, hM.1]; exact ⟨_, rfl, rfl⟩
  · rw [if_neg (show ¬ nI 1 = 0 by decide), if_pos (show nI 1 = 1 by decide), if_neg (show ¬ nI 1 = 0 by decide), if_pos (show nI 1 = 1 by decide), w4, show md_now y 0 = _ from hN.1]; exact ⟨_, rfl, rfl⟩
  · rw [if_neg (show ¬ nI 2 = 0 by decide), if_neg (show ¬ nI 2 = 1 by decide), if_pos (show nI 2 = 2 by decide), if_neg (show ¬ nI 2 = 0 by decide), if_neg (show ¬ nI 2 = 1 by decide), if_pos (show nI 2 = 2 by decide), hRC.2.1, hd]; exact ⟨_, rfl, rfl⟩
  · rw [if_neg (show ¬ nI 3 = 0 by decide), if_neg (show ¬ nI 3 = 1 by decide), if_neg (show ¬ nI 3 = 2 by decide), if_pos (show nI 3 = 3 by decide), if_neg (show ¬ nI 3 = 0 by decide), if_neg (show ¬ nI 3 = 1 by decide), if_neg (show ¬ nI 3 = 2 by decide), if_pos (show nI 3 = 3 by decide), w3, show md_now y 1 = _ from hN.2.1]; exact ⟨_, rfl, rfl⟩
  · rw [if_neg (show ¬ nI 4 = 0 by decide), if_neg (show ¬ nI 4 = 1 by decide), if_neg (show ¬ nI 4 = 2 by decide), if_neg (show ¬ nI 4 = 3 by decide), if_pos (show nI 4 = 4 by decide), if_neg (show ¬ nI 4 = 0 by decide), if_neg (show ¬ nI 4 = 1 by decide), if_neg (show ¬ nI 4 = 2 by decide), if_neg (show ¬ nI 4 = 3 by decide), if_pos (show nI 4 = 4 by decide), w5, show md_now y 3 = _ from hN.2.2.2.1]; exact ⟨_, rfl, rfl⟩
  · rw [if_neg (show ¬ nI 5 = 0 by decide), if_neg (show ¬ nI 5 = 1 by decide), if_neg (show ¬ nI 5 = 2 by decide), if_neg (show ¬ nI 5 = 3 by decide), if_neg (show ¬ nI 5 = 4 by decide), if_pos (show nI 5 = 5 by decide), if_neg (show ¬ nI 5 = 0 by decide), if_neg (show ¬ nI 5 = 1 by decide), if_neg (show ¬ nI 5 = 2 by decide), if_neg (show ¬ nI 5 = 3 by decide), if_neg (show ¬ nI 5 = 4 by decide), if_pos (show nI 5 = 5 by decide), w6, show md_now y 2 = _ from hN.2.2.1]
    rcases (by have := o1.2.1; omega : dDry (repN c E) = 0 ∨ dDry (repN c E) = 1) with e | e <;> rw [e]
    · exact ⟨_, rfl, rfl⟩
    · exact ⟨_, rfl, rfl⟩
  · rw [if_neg (show ¬ nI 6 = 0 by decide), if_neg (show ¬ nI 6 = 1 by decide), if_neg (show ¬ nI 6 = 2 by decide), if_neg (show ¬ nI 6 = 3 by decide), if_neg (show ¬ nI 6 = 4 by decide), if_neg (show ¬ nI 6 = 5 by decide), if_pos (show nI 6 = 6 by decide), if_neg (show ¬ nI 6 = 0 by decide), if_neg (show ¬ nI 6 = 1 by decide), if_neg (show ¬ nI 6 = 2 by decide), if_neg (show ¬ nI 6 = 3 by decide), if_neg (show ¬ nI 6 = 4 by decide), if_neg (show ¬ nI 6 = 5 by decide), if_pos (show nI 6 = 6 by decide), RW_over hRC.1 hC o1, mover_now hM.1 hN.2.2.2.1 hn (there_lt hC o1)]
    by_cases e : overN (cN c) (dThere (repN c E)) = true
    · rw [if_pos e]; exact ⟨_, rfl, rfl⟩
    · rw [if_neg e]; exact ⟨_, rfl, rfl⟩
  · rw [if_neg (show ¬ nI 7 = 0 by decide), if_neg (show ¬ nI 7 = 1 by decide), if_neg (show ¬ nI 7 = 2 by decide), if_neg (show ¬ nI 7 = 3 by decide), if_neg (show ¬ nI 7 = 4 by decide), if_neg (show ¬ nI 7 = 5 by decide), if_neg (show ¬ nI 7 = 6 by decide), if_pos (show nI 7 = 7 by decide), if_neg (show ¬ nI 7 = 0 by decide), if_neg (show ¬ nI 7 = 1 by decide), if_neg (show ¬ nI 7 = 2 by decide), if_neg (show ¬ nI 7 = 3 by decide), if_neg (show ¬ nI 7 = 4 by decide), if_neg (show ¬ nI 7 = 5 by decide), if_neg (show ¬ nI 7 = 6 by decide), if_pos (show nI 7 = 7 by decide), w2, hM.2.1]; exact ⟨_, rfl, rfl⟩
  · rw [if_neg (show ¬ nI 8 = 0 by decide), if_neg (show ¬ nI 8 = 1 by decide), if_neg (show ¬ nI 8 = 2 by decide), if_neg (show ¬ nI 8 = 3 by decide), if_neg (show ¬ nI 8 = 4 by decide), if_neg (show ¬ nI 8 = 5 by decide), if_neg (show ¬ nI 8 = 6 by decide), if_neg (show ¬ nI 8 = 7 by decide), if_pos (show nI 8 = 8 by decide), if_neg (show ¬ nI 8 = 0 by decide), if_neg (show ¬ nI 8 = 1 by decide), if_neg (show ¬ nI 8 = 2 by decide), if_neg (show ¬ nI 8 = 3 by decide), if_neg (show ¬ nI 8 = 4 by decide), if_neg (show ¬ nI 8 = 5 by decide), if_neg (show ¬ nI 8 = 6 by decide), if_neg (show ¬ nI 8 = 7 by decide), if_pos (show nI 8 = 8 by decide), howMany_ok hR (by decide), mrowsN_ok hR]; exact ⟨_, rfl, rfl⟩
  · rw [if_neg (show ¬ nI 9 = 0 by decide), if_neg (show ¬ nI 9 = 1 by decide), if_neg (show ¬ nI 9 = 2 by decide), if_neg (show ¬ nI 9 = 3 by decide), if_neg (show ¬ nI 9 = 4 by decide), if_neg (show ¬ nI 9 = 5 by decide), if_neg (show ¬ nI 9 = 6 by decide), if_neg (show ¬ nI 9 = 7 by decide), if_neg (show ¬ nI 9 = 8 by decide), if_pos (show nI 9 = 9 by decide), if_neg (show ¬ nI 9 = 0 by decide), if_neg (show ¬ nI 9 = 1 by decide), if_neg (show ¬ nI 9 = 2 by decide), if_neg (show ¬ nI 9 = 3 by decide), if_neg (show ¬ nI 9 = 4 by decide), if_neg (show ¬ nI 9 = 5 by decide), if_neg (show ¬ nI 9 = 6 by decide), if_neg (show ¬ nI 9 = 7 by decide), if_neg (show ¬ nI 9 = 8 by decide), if_pos (show nI 9 = 9 by decide), howMany_ok hX (by decide), mtextsN_ok hX]; exact ⟨_, rfl, rfl⟩
  · rw [if_neg (show ¬ nI 10 = 0 by decide), if_neg (show ¬ nI 10 = 1 by decide), if_neg (show ¬ nI 10 = 2 by decide), if_neg (show ¬ nI 10 = 3 by decide), if_neg (show ¬ nI 10 = 4 by decide), if_neg (show ¬ nI 10 = 5 by decide), if_neg (show ¬ nI 10 = 6 by decide), if_neg (show ¬ nI 10 = 7 by decide), if_neg (show ¬ nI 10 = 8 by decide), if_neg (show ¬ nI 10 = 9 by decide), if_pos (show nI 10 = 10 by decide), if_neg (show ¬ nI 10 = 0 by decide), if_neg (show ¬ nI 10 = 1 by decide), if_neg (show ¬ nI 10 = 2 by decide), if_neg (show ¬ nI 10 = 3 by decide), if_neg (show ¬ nI 10 = 4 by decide), if_neg (show ¬ nI 10 = 5 by decide), if_neg (show ¬ nI 10 = 6 by decide), if_neg (show ¬ nI 10 = 7 by decide), if_neg (show ¬ nI 10 = 8 by decide), if_neg (show ¬ nI 10 = 9 by decide), if_pos (show nI 10 = 10 by decide), ckept_ok hK, mkept_ok hK]; exact ⟨_, rfl, rfl⟩
  · rw [if_neg (show ¬ nI 11 = 0 by decide), if_neg (show ¬ nI 11 = 1 by decide), if_neg (show ¬ nI 11 = 2 by decide), if_neg (show ¬ nI 11 = 3 by decide), if_neg (show ¬ nI 11 = 4 by decide), if_neg (show ¬ nI 11 = 5 by decide), if_neg (show ¬ nI 11 = 6 by decide), if_neg (show ¬ nI 11 = 7 by decide), if_neg (show ¬ nI 11 = 8 by decide), if_neg (show ¬ nI 11 = 9 by decide), if_neg (show ¬ nI 11 = 10 by decide), if_pos (show nI 11 = 11 by decide), if_neg (show ¬ nI 11 = 0 by decide), if_neg (show ¬ nI 11 = 1 by decide), if_neg (show ¬ nI 11 = 2 by decide), if_neg (show ¬ nI 11 = 3 by decide), if_neg (show ¬ nI 11 = 4 by decide), if_neg (show ¬ nI 11 = 5 by decide), if_neg (show ¬ nI 11 = 6 by decide), if_neg (show ¬ nI 11 = 7 by decide), if_neg (show ¬ nI 11 = 8 by decide), if_neg (show ¬ nI 11 = 9 by decide), if_neg (show ¬ nI 11 = 10 by decide), if_pos (show nI 11 = 11 by decide), clen_ok hRC.1 hC o1, mlen_ok hM hN hC o1]; exact ⟨_, rfl, rfl⟩
  · rw [if_neg (show ¬ nI 12 = 0 by decide), if_neg (show ¬ nI 12 = 1 by decide), if_neg (show ¬ nI 12 = 2 by decide), if_neg (show ¬ nI 12 = 3 by decide), if_neg (show ¬ nI 12 = 4 by decide), if_neg (show ¬ nI 12 = 5 by decide), if_neg (show ¬ nI 12 = 6 by decide), if_neg (show ¬ nI 12 = 7 by decide), if_neg (show ¬ nI 12 = 8 by decide), if_neg (show ¬ nI 12 = 9 by decide), if_neg (show ¬ nI 12 = 10 by decide), if_neg (show ¬ nI 12 = 11 by decide), if_neg (show ¬ nI 12 = 0 by decide), if_neg (show ¬ nI 12 = 1 by decide), if_neg (show ¬ nI 12 = 2 by decide), if_neg (show ¬ nI 12 = 3 by decide), if_neg (show ¬ nI 12 = 4 by decide), if_neg (show ¬ nI 12 = 5 by decide), if_neg (show ¬ nI 12 = 6 by decide), if_neg (show ¬ nI 12 = 7 by decide), if_neg (show ¬ nI 12 = 8 by decide), if_neg (show ¬ nI 12 = 9 by decide), if_neg (show ¬ nI 12 = 10 by decide), if_neg (show ¬ nI 12 = 11 by decide), ciron_ok hRC.1 hC, miron_ok hM hC]; exact ⟨_, rfl, rfl⟩
theorem s_count : S_count Rel := by
  intro x y h u
  unfold f_X5_count f_X6_count f_X5_count_J10
  rcases num_cases u 13 (by decide) with hb | ⟨k, hk, rfl⟩
  · refine ⟨-1, ?_, ?_, h⟩
    · by_cases h0 : u < 0
      · rw [if_pos h0]
      · rw [if_neg h0, if_neg (show ¬ u ≤ (12 : Int32) from fun z => absurd (lt_of_nle (n := 12) (by decide) (hb.resolve_left h0)) (Int32.not_lt.mpr z))]
    · rw [show f_X6_in u 0 12 = some 0 from in_bad (k := 13) (by decide) hb]; rfl
  · obtain ⟨v, e1, e2⟩ := counted_ok h hk
    rw [if_neg (nI_pos (by omega)), if_pos (show nI k ≤ (12 : Int32) from nI_le (b := 12) (by omega) (by decide)), show f_X6_in (nI k) 0 12 = some 1 from in_good (k := 13) (by decide) hk, e1, e2]
    exact ⟨v, rfl, rfl, h⟩
/-! digest -/
def hF (f : Nat → Int32) (h : Int64) : Nat → Int64
  | 0 => h
  | k + 1 => 31 * hF f h k + (f k).toInt64
def hG (g : Nat → Int64 → Int64) (h : Int64) : Nat → Int64
  | 0 => h
  | k + 1 => g k (hG g h k)
/-- as many places as a size tells -/
theorem len_ok {n m : Nat} {w : Sh} {sz pl : Ar} (h : RS n m w sz pl) (hm : m < 1000) {q : Nat} (hq : q < n) : ix (sz q) ≤ m ∧ (∀ i, i < ix (sz q) → ¬ sz q ≤ nI i) ∧ sz q ≤ nI (ix (sz q)) := by
  rcases (h.2 q hq).2.1 with e | ⟨k, hk, e⟩
  · rw [e, show ix (-1 : Int32) = 0 by decide]
    exact ⟨Nat.zero_le _, fun i hi => absurd hi (by omega), by decide⟩
  · rw [e, ix_n (by omega)]
    exact ⟨hk, fun i hi => nI_ge hi (by omega), nI_le (Nat.le_refl _) (by omega)⟩
def shF (m : Nat) (sz pl : Ar) (r : Nat) (u : Int64) : Int64 := hF (fun i => pl (m * r + i)) (31 * u + (sz r).toInt64) (ix (sz r))
theorem cmix_ok {n m : Nat} {w : Sh} {sz pl : Ar} (h : RS n m w sz pl) (hn : n < 1000) (hm : m < 1000) (z : Int64) : f_X3_mix n m w z = some (hG (shF m sz pl) z n) := by
  unfold f_X3_mix
  refine lp_for0 (fun q => (hG (shF m sz pl) z q, nI q)) n (fun q hq => ?_) ?_ rfl (by show n < 100000; omega)
  · show f_X3_mix_B5 n m w (hG (shF m sz pl) z q) (nI q) = some (Sum.inl (hF (fun i => pl (m * q + i)) (31 * hG (shF m sz pl) z q + (sz q).toInt64) (ix (sz q)), nI (q + 1)))
    obtain ⟨a1, a2, a3⟩ := h.2 q hq
    obtain ⟨l1, l2, l3⟩ := len_ok h hm hq
    unfold f_X3_mix_B5
    rw [if_neg (show ¬ Int32.ofNat n ≤ nI q from nI_ge hq (by omega)), gd_b hq (by omega), ix_n (by omega), a1, nm_eq]
    refine lp_for0 (fun i => (hF (fun i => pl (m * q + i)) (31 * hG (shF m sz pl) z q + (sz q).toInt64) i, nI i)) (ix (sz q)) (fun i hi => ?_) ?_ rfl (by show ix (sz q) < 100000; omega)
    · show f_X3_mix_B33 n m w (nI q) (hF _ _ i) (nI i) = some (Sum.inl (31 * hF (fun i => pl (m * q + i)) (31 * hG (shF m sz pl) z q + (sz q).toInt64) i + (pl (m * q + i)).toInt64, nI (i + 1)))
      unfold f_X3_mix_B33
      rw [gd_b hq (by omega), ix_n (j := q) (by omega), a1, if_neg (l2 i hi), gd_b hq (by omega), gd_b (by omega) (by omega), ix_n (j := i) (by omega), a3 i (by omega), nm_eq, nI_1]
    · show f_X3_mix_B33 n m w (nI q) (hF _ _ (ix (sz q))) (nI (ix (sz q))) = _
      unfold f_X3_mix_B33 f_X3_mix_J69
      rw [gd_b hq (by omega), ix_n (j := q) (by omega), a1, if_pos l3, nI_1]; rfl
  · show f_X3_mix_B5 n m w (hG (shF m sz pl) z n) (nI n) = _
    unfold f_X3_mix_B5
    rw [if_pos (show Int32.ofNat n ≤ nI n from nI_le (Nat.le_refl n) (by omega))]; rfl
theorem dtexts_ok {y : Md} {w : Sh} (h : RS 4 60 w (md_textSizes y) (md_bytes y)) (z : Int64) : f_X6_digest_J175 (md_set_h y z) = some (hG (shF 60 (md_textSizes y) (md_bytes y)) z 4, md_set_h y (hG (shF 60 (md_textSizes y) (md_bytes y)) z 4)) := by
  unfold f_X6_digest_J175
  refine lp_for0 (fun q => (nI q, md_set_h y (hG (shF 60 (md_textSizes y) (md_bytes y)) z q))) 4 (fun q hq => ?_) ?_ rfl (by decide)
  · obtain ⟨l1, l2, l3⟩ := len_ok h (by decide) hq
    show f_X6_digest_B177 (nI q) (md_set_h y (hG (shF 60 (md_textSizes y) (md_bytes y)) z q)) = some (Sum.inl (nI (q + 1), md_set_h y (hF (fun i => md_bytes y (60 * q + i)) (31 * hG (shF 60 (md_textSizes y) (md_bytes y)) z q + (md_textSizes y q).toInt64) (ix (md_textSizes y q)))))
    generalize hG (shF 60 (md_textSizes y) (md_bytes y)) z q = u
    unfold f_X6_digest_B177 f_X6_adds
    rw [if_neg (show ¬ (4 : Int32) ≤ nI q from nI_ge hq (by decide)), gd_b hq (by decide), ix_n (by omega), ob_some]
    refine lp_for0 (fun i => (nI i, md_set_h y (hF (fun i => md_bytes y (60 * q + i)) (31 * u + (md_textSizes y q).toInt64) i))) (ix (md_textSizes y q)) (fun i hi => ?_) ?_ rfl (by show ix (md_textSizes y q) < 100000; omega)
    · obtain ⟨j1, j2⟩ := idx_n (m := 60) (r := q) (i := i) (N := 480) (by omega) (by decide)
      show f_X6_digest_B195 (nI q) (nI i) (md_set_h y (hF _ _ i)) = some (Sum.inl (nI (i + 1), md_set_h y (31 * hF (fun i => md_bytes y (60 * q + i)) (31 * u + (md_textSizes y q).toInt64) i + (md_bytes y (60 * q + i)).toInt64)))
      generalize hF (fun i => md_bytes y (60 * q + i)) (31 * u + (md_textSizes y q).toInt64) i = A
      unfold f_X6_digest_B195 f_X6_adds
      rw [gd_b hq (by decide), ix_n (j := q) (by omega), show md_textSizes (md_set_h y A) q = md_textSizes y q from rfl, if_neg (l2 i hi), gd_t (show inb ((60 : Int32) * nI q + nI i) 480 = true from j1), show ix ((60 : Int32) * nI q + nI i) = 60 * q + i from j2, ob_some, nI_1]
      rfl
    · show f_X6_digest_B195 (nI q) (nI (ix (md_textSizes y q))) (md_set_h y (hF _ _ (ix (md_textSizes y q)))) = _
      generalize hF (fun i => md_bytes y (60 * q + i)) (31 * u + (md_textSizes y q).toInt64) (ix (md_textSizes y q)) = A
      unfold f_X6_digest_B195 f_X6_digest_J227
      rw [gd_b hq (by decide), ix_n (j := q) (by omega), show md_textSizes (md_set_h y A) q = md_textSizes y q from rfl, if_pos l3, nI_1]; rfl
  · show f_X6_digest_B177 (nI 4) (md_set_h y _) = _
    unfold f_X6_digest_B177
    rw [if_pos (show (4 : Int32) ≤ nI 4 by decide)]; rfl
theorem drows_ok {y : Md} {w v : Sh} (h : RS 6 40 w (md_sizes y) (md_rows y)) (h2 : RS 4 60 v (md_textSizes y) (md_bytes y)) (z : Int64) : f_X6_digest_J121 (md_set_h y z) = some (hG (shF 60 (md_textSizes y) (md_bytes y)) (hG (shF 40 (md_sizes y) (md_rows y)) z 6) 4, md_set_h y (hG (shF 60 (md_textSizes y) (md_bytes y)) (hG (shF 40 (md_sizes y) (md_rows y)) z 6) 4)) := by
  unfold f_X6_digest_J121
  refine lp_for0 (fun q => (nI q, md_set_h y (hG (shF 40 (md_sizes y) (md_rows y)) z q))) 6 (fun q hq => ?_) ?_ rfl (by decide)
  · obtain ⟨l1, l2, l3⟩ := len_ok h (by decide) hq
    show f_X6_digest_B123 (nI q) (md_set_h y (hG (shF 40 (md_sizes y) (md_rows y)) z q)) = some (Sum.inl (nI (q + 1), md_set_h y (hF (fun i => md_rows y (40 * q + i)) (31 * hG (shF 40 (md_sizes y) (md_rows y)) z q + (md_sizes y q).toInt64) (ix (md_sizes y q)))))
    generalize hG (shF 40 (md_sizes y) (md_rows y)) z q = u
    unfold f_X6_digest_B123 f_X6_adds
    rw [if_neg (show ¬ (6 : Int32) ≤ nI q from nI_ge hq (by decide)), gd_b hq (by decide), ix_n (by omega), ob_some]
    refine lp_for0 (fun i => (nI i, md_set_h y (hF (fun i => md_rows y (40 * q + i)) (31 * u + (md_sizes y q).toInt64) i))) (ix (md_sizes y q)) (fun i hi => ?_) ?_ rfl (by show ix (md_sizes y q) < 100000; omega)
    · show f_X6_digest_B142 (nI q) (nI i) (md_set_h y (hF _ _ i)) = some (Sum.inl (nI (i + 1), md_set_h y (31 * hF (fun i => md_rows y (40 * q + i)) (31 * u + (md_sizes y q).toInt64) i + (md_rows y (40 * q + i)).toInt64)))
      generalize hF (fun i => md_rows y (40 * q + i)) (31 * u + (md_sizes y q).toInt64) i = A
      unfold f_X6_digest_B142 f_X6_adds
      rw [gd_b hq (by decide), ix_n (j := q) (by omega), show md_sizes (md_set_h y A) q = md_sizes y q from rfl, if_neg (l2 i hi), rowAt_ok hq (by omega), ob_some, ob_some, nI_1]
      rfl
    · show f_X6_digest_B142 (nI q) (nI (ix (md_sizes y q))) (md_set_h y (hF _ _ (ix (md_sizes y q)))) = _
      generalize hF (fun i => md_rows y (40 * q + i)) (31 * u + (md_sizes y q).toInt64) (ix (md_sizes y q)) = A
      unfold f_X6_digest_B142 f_X6_digest_J169
      rw [gd_b hq (by decide), ix_n (j := q) (by omega), show md_sizes (md_set_h y A) q = md_sizes y q from rfl, if_pos l3, nI_1]; rfl
  · show f_X6_digest_B123 (nI 6) (md_set_h y _) = _
    unfold f_X6_digest_B123
    rw [if_pos (show (6 : Int32) ≤ nI 6 by decide), dtexts_ok h2]; rfl
def digA (c : Cfg) (d : Dyn) (z : Int64) : Int64 := hG (fun i u => hF (fun k => nI (facN c d i k)) u 6) (hF (fun k => nI (cRut c k)) z 8) (cN c)
def digB (y : Md) (z : Int64) : Int64 := hG (shF 60 (md_textSizes y) (md_bytes y)) (hG (shF 40 (md_sizes y) (md_rows y)) (hF (md_keptMany y) z 3) 6) 4
theorem dkept_ok {y : Md} {w v : Sh} (h : RS 6 40 w (md_sizes y) (md_rows y)) (h2 : RS 4 60 v (md_textSizes y) (md_bytes y)) (z : Int64) : f_X6_digest_J97 (md_set_h y z) = some (digB y z, md_set_h y (digB y z)) := by
  unfold f_X6_digest_J97
  refine lp_for0 (fun q => (nI q, md_set_h y (hF (md_keptMany y) z q))) 3 (fun q hq => ?_) ?_ rfl (by decide)
  · show f_X6_digest_B99 (nI q) (md_set_h y (hF (md_keptMany y) z q)) = some (Sum.inl (nI (q + 1), md_set_h y (31 * hF (md_keptMany y) z q + (md_keptMany y q).toInt64)))
    unfold f_X6_digest_B99 f_X6_adds
    rw [if_neg (show ¬ (3 : Int32) ≤ nI q from nI_ge hq (by decide)), gd_b hq (by decide), ix_n (by omega), ob_some, nI_1]; rfl
  · show f_X6_digest_B99 (nI 3) (md_set_h y _) = _
    unfold f_X6_digest_B99
    rw [if_pos (show (3 : Int32) ≤ nI 3 by decide), drows_ok h h2]; rfl
theorem dspokes_ok {y : Md} {w v : Sh} {c : Cfg} {d : Dyn} (hM : RM y c) (hN : RT (md_now y) 0 d) (hC : okC c) (hD : okD c d) (hr : dRut d < 2 ^ 31) (h : RS 6 40 w (md_sizes y) (md_rows y)) (h2 : RS 4 60 v (md_textSizes y) (md_bytes y)) (z : Int64) : f_X6_digest_J31 (md_set_h y z) = some (digB y (digA c d z), md_set_h y (digB y (digA c d z))) := by
  have hn := okC_n hC
  have hsp : ∀ u, f_X6_digest_J56 (md_set_h y u) = some (digB y (hG (fun i u => hF (fun k => nI (facN c d i k)) u 6) u (cN c)), md_set_h y (digB y (hG (fun i u => hF (fun k => nI (facN c d i k)) u 6) u (cN c)))) := by
    intro z
    unfold f_X6_digest_J56
    refine lp_for0 (fun q => (nI q, md_set_h y (hG (fun i u => hF (fun k => nI (facN c d i k)) u 6) z q))) (cN c) (fun q hq => ?_) ?_ rfl (by show cN c < 100000; omega)
    · show f_X6_digest_B58 (nI q) (md_set_h y (hG (fun i u => hF (fun k => nI (facN c d i k)) u 6) z q)) = some (Sum.inl (nI (q + 1), md_set_h y (hF (fun k => nI (facN c d q k)) (hG (fun i u => hF (fun k => nI (facN c d i k)) u 6) z q) 6)))
      generalize hG (fun i u => hF (fun k => nI (facN c d i k)) u 6) z q = u
      unfold f_X6_digest_B58
      rw [show md_n (md_set_h y u) = nI (cN c) from hM.1, if_neg (nI_ge hq (by omega))]
      refine lp_for0 (fun k => (nI k, md_set_h y (hF (fun k => nI (facN c d q k)) u k))) 6 (fun k hk => ?_) ?_ rfl (by decide)
      · show f_X6_digest_B68 (nI q) (nI k) (md_set_h y (hF _ _ k)) = some (Sum.inl (nI (k + 1), md_set_h y (31 * hF (fun k => nI (facN c d q k)) u k + (nI (facN c d q k)).toInt64)))
        unfold f_X6_digest_B68 f_X6_adds
        rw [if_neg (show ¬ (6 : Int32) ≤ nI k from nI_ge hk (by decide)), tells_ok (y := md_set_h y (hF (fun k => nI (facN c d q k)) u k)) hM hN hC hD hr hq (by omega), ob_some, ob_some, nI_1]; rfl
      · show f_X6_digest_B68 (nI q) (nI 6) (md_set_h y (hF _ _ 6)) = _
        unfold f_X6_digest_B68 f_X6_digest_J91
        rw [if_pos (show (6 : Int32) ≤ nI 6 by decide), nI_1]; rfl
    · show f_X6_digest_B58 (nI (cN c)) (md_set_h y (hG (fun i u => hF (fun k => nI (facN c d i k)) u 6) z (cN c))) = _
      unfold f_X6_digest_B58
      rw [show md_n (md_set_h y (hG (fun i u => hF (fun k => nI (facN c d i k)) u 6) z (cN c))) = nI (cN c) from hM.1, if_pos (nI_le (Nat.le_refl _) (by omega)), dkept_ok h h2]; rfl
  unfold f_X6_digest_J31
  refine lp_for0 (fun q => (nI q, md_set_h y (hF (fun k => nI (cRut c k)) z q))) 8 (fun q hq => ?_) ?_ rfl (by decide)
  · show f_X6_digest_B33 (nI q) (md_set_h y (hF _ z q)) = some (Sum.inl (nI (q + 1), md_set_h y (31 * hF (fun k => nI (cRut c k)) z q + (nI (cRut c q)).toInt64)))
    unfold f_X6_digest_B33 f_X6_adds
    rw [if_neg (show ¬ (8 : Int32) ≤ nI q from nI_ge hq (by decide)), gd_b hq (by decide), ix_n (by omega), ob_some, ← hM.2.2.1 q hq, nI_1]; rfl
  · show f_X6_digest_B33 (nI 8) (md_set_h y _) = _
    unfold f_X6_digest_B33
    rw [if_pos (show (8 : Int32) ≤ nI 8 by decide), hsp]; rfl
theorem cdig_ok {w : Wh} {c : Cfg} {d : Dyn} (hW : RW w c d) (hC : okC c) (hD : okD c d) (hr : dRut d < 2 ^ 31) (z : Int64) : f_X4_mix w z = some (digA c d z) := by
  have hn := okC_n hC
  have hsp : ∀ u, f_X4_mix_J33 w u = some (hG (fun i u => hF (fun k => nI (facN c d i k)) u 6) u (cN c)) := by
    intro z
    unfold f_X4_mix_J33
    refine lp_for0 (fun q => (hG (fun i u => hF (fun k => nI (facN c d i k)) u 6) z q, nI q)) (cN c) (fun q hq => ?_) ?_ rfl (by show cN c < 100000; omega)
    · show f_X4_mix_B36 w (hG (fun i u => hF (fun k => nI (facN c d i k)) u 6) z q) (nI q) = some (Sum.inl (hF (fun k => nI (facN c d q k)) (hG (fun i u => hF (fun k => nI (facN c d i k)) u 6) z q) 6, nI (q + 1)))
      generalize hG (fun i u => hF (fun k => nI (facN c d i k)) u 6) z q = u
      unfold f_X4_mix_B36
      rw [hW.1, if_neg (nI_ge hq (by omega))]
      refine lp_for0 (fun k => (hF (fun k => nI (facN c d q k)) u k, nI k)) 6 (fun k hk => ?_) ?_ rfl (by decide)
      · show f_X4_mix_B48 w (nI q) (hF _ u k) (nI k) = some (Sum.inl (31 * hF (fun k => nI (facN c d q k)) u k + (nI (facN c d q k)).toInt64, nI (k + 1)))
        unfold f_X4_mix_B48
        rw [if_neg (show ¬ (5 : Int32) < nI k from nI_nlt (a := 5) (by omega) (by decide)), facet_ok hW hC hD hr hq (by omega), ob_some, nm_eq, nI_1]
      · show f_X4_mix_B48 w (nI q) (hF _ u 6) (nI 6) = _
        unfold f_X4_mix_B48 f_X4_mix_J76
        rw [if_pos (show (5 : Int32) < nI 6 by decide), nI_1]; rfl
    · show f_X4_mix_B36 w (hG (fun i u => hF (fun k => nI (facN c d i k)) u 6) z (cN c)) (nI (cN c)) = _
      unfold f_X4_mix_B36
      rw [hW.1, if_pos (nI_le (Nat.le_refl _) (by omega))]; rfl
  unfold f_X4_mix
  refine lp_for0 (fun q => (hF (fun k => nI (cRut c k)) z q, nI q)) 8 (fun q hq => ?_) ?_ rfl (by decide)
  · show f_X4_mix_B5 w (hF _ z q) (nI q) = some (Sum.inl (31 * hF (fun k => nI (cRut c k)) z q + (nI (cRut c q)).toInt64, nI (q + 1)))
    unfold f_X4_mix_B5
    rw [if_neg (show ¬ (8 : Int32) ≤ nI q from nI_ge hq (by decide)), gd_b hq (by decide), ix_n (by omega), hW.2.2.2.2.2.2.1 q hq, nm_eq, nI_1]
  · show f_X4_mix_B5 w (hF _ z 8) (nI 8) = _
    unfold f_X4_mix_B5
    rw [if_pos (show (8 : Int32) ≤ nI 8 by decide), hsp]; rfl
theorem ckd_b {x : Ww} {a : Int64} {q : Nat} (hq : q < 3) : f_X5_digest_B45 x a (nI q) = some (.inl (31 * a + (ct_done (ww_kept x q)).toInt64, nI q + 1)) := by
  match q, hq with
  | 0, _ => rfl
  | 1, _ => rfl
  | 2, _ => rfl
  | k + 3, h => exact absurd h (by omega)
theorem s_digest : S_digest Rel := by
  intro x y h
  have hcnt : ∀ k, k < 13 → f_X5_counted x (nI k) = some ((f_X5_counted x (nI k)).getD 0) ∧ f_X6_counted y (nI k) = some ((f_X5_counted x (nI k)).getD 0) := by
    intro k hk
    obtain ⟨v, e1, e2⟩ := counted_ok h hk
    rw [e1, e2]; exact ⟨rfl, rfl⟩
  have hRel := h
  obtain ⟨hT, hR, hX, c, E, hWE⟩ := h
  obtain ⟨hC, hE, hRC, hM, hd, hN, hL, hK⟩ := id hWE
  obtain ⟨o1, o2⟩ := okD_rep hC hE
  have h40 := hE.1
  refine ⟨digB y (digA c (repN c E) (hF (fun k => (f_X5_counted x (nI k)).getD 0) 17 13)), md_set_h y (digB y (digA c (repN c E) (hF (fun k => (f_X5_counted x (nI k)).getD 0) 17 13))), ?_, ?_, relH hRel⟩
  · unfold f_X5_digest
    refine lp_for0 (fun q => (hF (fun k => (f_X5_counted x (nI k)).getD 0) 17 q, nI q)) 13 (fun q hq => ?_) ?_ rfl (by decide)
    · show f_X5_digest_B6 x (hF _ 17 q) (nI q) = some (Sum.inl (31 * hF (fun k => (f_X5_counted x (nI k)).getD 0) 17 q + ((f_X5_counted x (nI q)).getD 0).toInt64, nI (q + 1)))
      unfold f_X5_digest_B6
      rw [if_neg (show ¬ (12 : Int32) < nI q from nI_nlt (a := 12) (by omega) (by decide)), (hcnt q hq).1, ob_some, nm_eq, nI_1]; rfl
    · show f_X5_digest_B6 x (hF _ 17 13) (nI 13) = _
      unfold f_X5_digest_B6 f_X5_digest_J31
      rw [if_pos (show (12 : Int32) < nI 13 by decide), cdig_ok hRC.1 hC o1 (by omega), ob_some]
      refine map_inr ?_
      refine lp_for0 (fun q => (hF (md_keptMany y) (digA c (repN c E) (hF (fun k => (f_X5_counted x (nI k)).getD 0) 17 13)) q, nI q)) 3 (fun q hq => ?_) ?_ rfl (by decide)
      · show f_X5_digest_B45 x (hF _ _ q) (nI q) = some (Sum.inl (31 * hF (md_keptMany y) (digA c (repN c E) (hF (fun k => (f_X5_counted x (nI k)).getD 0) 17 13)) q + (md_keptMany y q).toInt64, nI (q + 1)))
        rw [ckd_b hq, (kept_eq (hK q hq)).1, nI_1]
      · show f_X5_digest_B45 x (hF _ _ 3) (nI 3) = _
        unfold f_X5_digest_B45 f_X5_digest_J73
        rw [if_pos (show (3 : Int32) ≤ nI 3 by decide), cmix_ok hR (by decide) (by decide), ob_some, cmix_ok hX (by decide) (by decide)]; rfl
  · unfold f_X6_digest
    refine lp_for0 (fun q => (nI q, md_set_h y (hF (fun k => (f_X5_counted x (nI k)).getD 0) 17 q))) 13 (fun q hq => ?_) ?_ rfl (by decide)
    · show f_X6_digest_B9 (nI q) (md_set_h y (hF _ 17 q)) = some (Sum.inl (nI (q + 1), md_set_h y (31 * hF (fun k => (f_X5_counted x (nI k)).getD 0) 17 q + ((f_X5_counted x (nI q)).getD 0).toInt64)))
      unfold f_X6_digest_B9 f_X6_adds
      rw [if_neg (show ¬ (12 : Int32) < nI q from nI_nlt (a := 12) (by omega) (by decide))]
      have hh : f_X6_counted (md_set_h y (hF (fun k => (f_X5_counted x (nI k)).getD 0) 17 q)) (nI q) = some ((f_X5_counted x (nI q)).getD 0) := by
        obtain ⟨v, e1, e2⟩ := counted_ok (x := x) (y := md_set_h y (hF (fun k => (f_X5_counted x (nI k)).getD 0) 17 q)) (relH hRel) hq
        rw [e2, e1]; rfl
      rw [hh, ob_some, ob_some, nI_1]; rfl
    · show f_X6_digest_B9 (nI 13) (md_set_h y _) = _
      unfold f_X6_digest_B9
      rw [if_pos (show (12 : Int32) < nI 13 by decide), dspokes_ok hM hN hC o1 (by omega) hR hX]; rfl
