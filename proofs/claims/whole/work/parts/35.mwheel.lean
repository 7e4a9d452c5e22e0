/-! PURE SIDE: the wheel's steps as numbers; the reference's wheel -/
theorem rut_step (c : Cfg) (d : Dyn) : dRut (stepN c d).2 = dRut d + 1 := by
  unfold stepN
  dsimp only
  split
  · rfl
  · split
    · rfl
    · split <;> rfl
theorem okD_step {c : Cfg} {d : Dyn} (hD : okD c d) (h3 : 3 ≤ cN c) : okD c (stepN c d).2 := by
  obtain ⟨hS, hY, hT, hE⟩ := hD
  have hS : dStand d < cN c := by omega
  have hm : (dStand d + 1) % cN c < cN c := Nat.mod_lt _ (by omega)
  unfold stepN
  dsimp only
  split
  · exact ⟨Or.inr hm, hY, hT, hE⟩
  · split
    · exact ⟨Or.inr hm, hY, Nat.lt_of_le_of_lt (Nat.sub_le _ _) hT, hE⟩
    · split
      · refine ⟨Or.inr hm, hY, hT, fun i hi => ?_⟩
        show updN (dWear d) (dStand d) _ i ≤ 30 ∧ (cN c ≤ i → updN (dWear d) (dStand d) _ i = 0)
        unfold updN
        have h1 := hE i hi
        by_cases e : i = dStand d
        · subst e
          rw [if_pos rfl]
          refine ⟨?_, fun h => by omega⟩
          split <;> omega
        · rw [if_neg e]; exact h1
      · exact ⟨Or.inr hm, hY, hT, hE⟩
/-- one turn of the loop that counts how often it limps -/
def nxtN (c : Cfg) (lost : Bool) (r : Nat × Dyn) : Nat × Dyn :=
  if overN (cN c) (dThere r.2) then (r.1 + (if lost then 1 else 0), r.2) else (r.1 + (if (stepN c r.2).1 then 1 else 0), (stepN c r.2).2)
def limN (c : Cfg) (lost : Bool) (d : Dyn) : Nat → Nat × Dyn
  | 0 => (0, d)
  | k + 1 => nxtN c lost (limN c lost d k)
theorem lim_ok {c : Cfg} {d : Dyn} (lost : Bool) (hD : okD c d) (h3 : 3 ≤ cN c) (k : Nat) : okD c (limN c lost d k).2 ∧ dRut (limN c lost d k).2 ≤ dRut d + k ∧ (limN c lost d k).1 ≤ k := by
  induction k with
  | zero => exact ⟨hD, Nat.le_refl _, Nat.le_refl _⟩
  | succ k ih =>
    obtain ⟨i1, i2, i3⟩ := ih
    show okD c (nxtN c lost (limN c lost d k)).2 ∧ dRut (nxtN c lost (limN c lost d k)).2 ≤ dRut d + (k + 1) ∧ (nxtN c lost (limN c lost d k)).1 ≤ k + 1
    unfold nxtN
    split
    · refine ⟨i1, Nat.le_succ_of_le i2, ?_⟩
      show (limN c lost d k).1 + (if lost = true then 1 else 0) ≤ k + 1
      split <;> omega
    · refine ⟨okD_step i1 h3, ?_, ?_⟩
      · show dRut (stepN c (limN c lost d k).2).2 ≤ _
        rw [rut_step]; omega
      · show (limN c lost d k).1 + (if (stepN c (limN c lost d k).2).1 = true then 1 else 0) ≤ k + 1
        split <;> omega
theorem lim_stay {c : Cfg} {d : Dyn} {k : Nat} (h : overN (cN c) (dThere (limN c false d k).2) = true) (j : Nat) : limN c false d (k + j) = limN c false d k := by
  induction j with
  | zero => rfl
  | succ j ih =>
    show nxtN c false (limN c false d (k + j)) = _
    rw [ih]
    unfold nxtN
    rw [if_pos h]
    rfl
/-! the class -/
theorem climps_ok {w : Wh} {c : Cfg} {d : Dyn} (hW : RW w c d) (hC : okC c) (hD : okD c d) (h3 : 3 ≤ cN c) (hr : dRut d < 500) {n : Nat} (hn : n ≤ 100) : ∃ w1, f_X4_limpsIn w (nI n) = some (nI (limN c true d n).1, w1) ∧ RW w1 c (limN c true d n).2 := by
  have key : ∃ o, f_X4_limpsIn w (nI n) = some o ∧ ∃ w1, o = (nI (limN c true d n).1, w1) ∧ RW w1 c (limN c true d n).2 := by
    unfold f_X4_limpsIn
    refine lp_e (fun k s => ∃ w1, s = (nI (limN c true d k).1, nI k, w1) ∧ RW w1 c (limN c true d k).2) _ n ⟨w, rfl, hW⟩ (by omega) ?_ ?_
    · rintro k s hk ⟨w1, rfl, hW1⟩
      obtain ⟨o1, o2, o3⟩ := lim_ok true hD h3 k
      show ∃ t, f_X4_limpsIn_B4 (nI n) (nI _) (nI k) w1 = _ ∧ _
      unfold f_X4_limpsIn_B4
      rw [if_neg (nI_ge hk (by omega)), RW_over hW1 hC o1, ob_some]
      by_cases ho : overN (cN c) (dThere (limN c true d k).2) = true
      · rw [if_pos ho, if_neg (show ¬ nI 1 = 0 by decide)]
        refine ⟨_, rfl, w1, ?_, ?_⟩
        · show (nI (limN c true d k).1 + 1, nI k + 1, w1) = (nI (nxtN c true (limN c true d k)).1, nI (k + 1), w1)
          unfold nxtN
          rw [if_pos ho, nI_1, nI_1]; rfl
        · show RW w1 c (nxtN c true (limN c true d k)).2
          unfold nxtN
          rw [if_pos ho]; exact hW1
      · obtain ⟨w2, e2, hW2⟩ := roll_ok hW1 hC o1 h3 (by omega)
        rw [if_neg ho, if_pos (show nI 0 = 0 from nI_0), e2, ob_some]
        refine ⟨(nI (limN c true d (k + 1)).1, nI (k + 1), w2), ?_, w2, rfl, ?_⟩
        · show (if nI (if (stepN c (limN c true d k).2).1 = true then 1 else 0) = 0 then _ else _) = some (Sum.inl (nI (nxtN c true (limN c true d k)).1, nI (k + 1), w2))
          unfold nxtN
          rw [if_neg ho]
          by_cases hb : (stepN c (limN c true d k).2).1 = true
          · rw [if_pos hb, if_neg (show ¬ nI 1 = 0 by decide)]
            show some (Sum.inl (nI (limN c true d k).1 + 1, nI k + 1, w2)) = _
            rw [nI_1, nI_1]
          · rw [if_neg hb, if_pos (show nI 0 = 0 from nI_0), ← nI_1]; rfl
        · show RW w2 c (nxtN c true (limN c true d k)).2
          unfold nxtN
          rw [if_neg ho]; exact hW2
    · rintro s ⟨w1, rfl, hW1⟩
      refine ⟨_, ?_, w1, rfl, hW1⟩
      show f_X4_limpsIn_B4 (nI n) (nI _) (nI n) w1 = _
      unfold f_X4_limpsIn_B4
      rw [if_pos (nI_le (Nat.le_refl n) (by omega))]; rfl
  obtain ⟨o, e, w1, rfl, h⟩ := key
  exact ⟨w1, e, h⟩
theorem cfar_ok {w : Wh} {c : Cfg} {d : Dyn} (hW : RW w c d) (hC : okC c) (hD : okD c d) (h3 : 3 ≤ cN c) (hr : dRut d < 500) {n : Nat} (hn : n ≤ 100) : ∃ w1, f_X4_rollFar w (nI n) = some (nI (limN c false d n).1, w1) ∧ RW w1 c (limN c false d n).2 := by
  have key : ∃ o, f_X4_rollFar w (nI n) = some o ∧ ∃ w1, o = (nI (limN c false d n).1, w1) ∧ RW w1 c (limN c false d n).2 := by
    unfold f_X4_rollFar
    refine lp_i (fun k s => ∃ w1, s = (nI (limN c false d k).1, nI k, w1) ∧ RW w1 c (limN c false d k).2) _ n ⟨w, rfl, hW⟩ (by omega) ?_
    rintro k s hk ⟨w1, rfl, hW1⟩
    obtain ⟨o1, o2, o3⟩ := lim_ok false hD h3 k
    show (_ ∧ ∃ t, f_X4_rollFar_B4 (nI n) (nI _) (nI k) w1 = _ ∧ _) ∨ ∃ o, f_X4_rollFar_B4 (nI n) (nI _) (nI k) w1 = _ ∧ _
    unfold f_X4_rollFar_B4
    by_cases hkn : n ≤ k
    · have e : k = n := by omega
      subst e
      right
      refine ⟨_, ?_, w1, rfl, hW1⟩
      rw [if_pos (nI_le (Nat.le_refl k) (by omega))]; rfl
    · rw [if_neg (nI_ge (by omega) (by omega)), RW_over hW1 hC o1, ob_some]
      by_cases ho : overN (cN c) (dThere (limN c false d k).2) = true
      · rw [if_pos ho, if_neg (show ¬ nI 1 = 0 by decide)]
        have e : limN c false d n = limN c false d k := by
          have := lim_stay ho (n - k)
          rwa [show k + (n - k) = n by omega] at this
        right
        refine ⟨_, rfl, w1, ?_, ?_⟩
        · rw [e]
        · rw [e]; exact hW1
      · obtain ⟨w2, e2, hW2⟩ := roll_ok hW1 hC o1 h3 (by omega)
        rw [if_neg ho, if_pos (show nI 0 = 0 from nI_0), e2, ob_some]
        left
        refine ⟨by omega, (nI (limN c false d (k + 1)).1, nI (k + 1), w2), ?_, w2, rfl, ?_⟩
        · show (if nI (if (stepN c (limN c false d k).2).1 = true then 1 else 0) = 0 then _ else _) = some (Sum.inl (nI (nxtN c false (limN c false d k)).1, nI (k + 1), w2))
          unfold nxtN
          rw [if_neg ho]
          by_cases hb : (stepN c (limN c false d k).2).1 = true
          · rw [if_pos hb, if_neg (show ¬ nI 1 = 0 by decide)]
            show some (Sum.inl (nI (limN c false d k).1 + 1, nI k + 1, w2)) = _
            rw [nI_1, nI_1]
          · rw [if_neg hb, if_pos (show nI 0 = 0 from nI_0), ← nI_1]; rfl
        · show RW w2 c (nxtN c false (limN c false d k)).2
          unfold nxtN
          rw [if_neg ho]; exact hW2
  obtain ⟨o, e, w1, rfl, h⟩ := key
  exact ⟨w1, e, h⟩
theorem take_ok {w v : Wh} {c : Cfg} {d : Dyn} (hV : RW v c d) (hC : okC c) (hD : okD c d) : ∃ w1, f_X4_take w v = some w1 ∧ RW w1 c d := by
  obtain ⟨v1, v2, v3, v4, v5, v6, v7, v8, v9⟩ := hV
  have hn := okC_n hC
  have hb : isB (wh_dry v) = true := by
    rw [v6]
    rcases (by have := hD.2.1; omega : dDry d = 0 ∨ dDry d = 1) with e | e <;> rw [e] <;> rfl
  have hcp : ∀ (f g : Ar) (j : Nat), j < 8 → acpy f g (0 : Int32) (0 : Int32) (8 : Int32) j = f j := fun f g j hj => sb_cpy0 hj
  unfold f_X4_take
  rw [gd_t hb]
  refine ⟨_, rfl, v1, v2, v3, v4, v5, v6, fun k hk => ?_, fun i hi => ?_, fun i hi => ?_⟩
  · exact (hcp _ _ k hk).trans (v7 k hk)
  · exact (hcp _ _ i hi).trans (v8 i hi)
  · obtain ⟨a1, a2, a3⟩ := v9 i hi
    exact ⟨(hcp _ _ i (by omega)).trans a1, (hcp _ _ i (by omega)).trans a2, (hcp _ _ i (by omega)).trans a3⟩
/-! the reference -/
theorem bearsAs_ok {k s w d y : Nat} (hk : k ≤ 5) (hs : s ≤ 9) (hw : w ≤ 30) (hd : d ≤ 9) (hy : y ≤ 1) : f_X6_bearsAs (nI k) (nI s) (nI d) (nI w) (nI y) = some (nI (bearsN k s w d y)) := by
  have j1 := tb_above s (by omega) w (by omega)
  have j2 := tb_above s (by omega) (w / 2) (by omega)
  have j3 := tb_above s (by omega) 0 (by omega)
  have hdiv : nI w / nI 2 = nI (w / 2) := pk_div (by omega) (by decide) (by decide)
  have hdiv2 : nI (2 * s - w) / nI 2 = nI ((2 * s - w) / 2) := pk_div (by omega) (by decide) (by decide)
  have hyw : w * y = if y = 1 then w else 0 := by
    rcases (by omega : y = 0 ∨ y = 1) with rfl | rfl
    · rfl
    · rw [Nat.mul_one]; rfl
  unfold f_X6_bearsAs f_X6_bearsAs_J20 bearsN
  rcases (by omega : k = 0 ∨ k = 1 ∨ k = 2 ∨ k = 3 ∨ k = 4 ∨ k = 5) with rfl | rfl | rfl | rfl | rfl | rfl
  · by_cases h5 : d < 5
    · simp (disch := omega) only [li0, li1, li2, li3, li4, li5, li6, li7, li8, li9, li10, li12, li13, li20, li21, li30, li32, li40, li48, li60, li63, li100, li114, li492, li1000, nI_add, pk_mul, nI_leI, nI_ltI, nI_eq, nI_mm, gd_b, gd_B0, gd_B1, ix_n, ob_some, om_some, nm_eq, if_true, if_false, if_pos, if_neg, ofn, Nat.sub_zero, hdiv, hdiv2, j1]
    · simp (disch := omega) only [li0, li1, li2, li3, li4, li5, li6, li7, li8, li9, li10, li12, li13, li20, li21, li30, li32, li40, li48, li60, li63, li100, li114, li492, li1000, nI_add, pk_mul, nI_leI, nI_ltI, nI_eq, nI_mm, gd_b, gd_B0, gd_B1, ix_n, ob_some, om_some, nm_eq, if_true, if_false, if_pos, if_neg, ofn, Nat.sub_zero, hdiv, hdiv2, j1]
  · by_cases h5 : d < 5
    · simp (disch := omega) only [li0, li1, li2, li3, li4, li5, li6, li7, li8, li9, li10, li12, li13, li20, li21, li30, li32, li40, li48, li60, li63, li100, li114, li492, li1000, nI_add, pk_mul, nI_leI, nI_ltI, nI_eq, nI_mm, gd_b, gd_B0, gd_B1, ix_n, ob_some, om_some, nm_eq, if_true, if_false, if_pos, if_neg, ofn, Nat.sub_zero, hdiv, hdiv2, j1]
    · simp (disch := omega) only [li0, li1, li2, li3, li4, li5, li6, li7, li8, li9, li10, li12, li13, li20, li21, li30, li32, li40, li48, li60, li63, li100, li114, li492, li1000, nI_add, pk_mul, nI_leI, nI_ltI, nI_eq, nI_mm, gd_b, gd_B0, gd_B1, ix_n, ob_some, om_some, nm_eq, if_true, if_false, if_pos, if_neg, ofn, Nat.sub_zero, hdiv, hdiv2, j1]
  · by_cases h5 : d < 5
    · simp (disch := omega) only [li0, li1, li2, li3, li4, li5, li6, li7, li8, li9, li10, li12, li13, li20, li21, li30, li32, li40, li48, li60, li63, li100, li114, li492, li1000, nI_add, pk_mul, nI_leI, nI_ltI, nI_eq, nI_mm, gd_b, gd_B0, gd_B1, ix_n, ob_some, om_some, nm_eq, if_true, if_false, if_pos, if_neg, ofn, Nat.sub_zero, hdiv, hdiv2, j1]
    · simp (disch := omega) only [li0, li1, li2, li3, li4, li5, li6, li7, li8, li9, li10, li12, li13, li20, li21, li30, li32, li40, li48, li60, li63, li100, li114, li492, li1000, nI_add, pk_mul, nI_leI, nI_ltI, nI_eq, nI_mm, gd_b, gd_B0, gd_B1, ix_n, ob_some, om_some, nm_eq, if_true, if_false, if_pos, if_neg, ofn, Nat.sub_zero, hdiv, hdiv2, j1]
  · by_cases h5 : d < 5
    · simp (disch := omega) only [li0, li1, li2, li3, li4, li5, li6, li7, li8, li9, li10, li12, li13, li20, li21, li30, li32, li40, li48, li60, li63, li100, li114, li492, li1000, nI_add, pk_mul, nI_leI, nI_ltI, nI_eq, nI_mm, gd_b, gd_B0, gd_B1, ix_n, ob_some, om_some, nm_eq, if_true, if_false, if_pos, if_neg, ofn, Nat.sub_zero, hdiv, hdiv2, j1, j2]
    · simp (disch := omega) only [li0, li1, li2, li3, li4, li5, li6, li7, li8, li9, li10, li12, li13, li20, li21, li30, li32, li40, li48, li60, li63, li100, li114, li492, li1000, nI_add, pk_mul, nI_leI, nI_ltI, nI_eq, nI_mm, gd_b, gd_B0, gd_B1, ix_n, ob_some, om_some, nm_eq, if_true, if_false, if_pos, if_neg, ofn, Nat.sub_zero, hdiv, hdiv2, j1, j2]
  · by_cases h5 : d < 5
    · simp (disch := omega) only [li0, li1, li2, li3, li4, li5, li6, li7, li8, li9, li10, li12, li13, li20, li21, li30, li32, li40, li48, li60, li63, li100, li114, li492, li1000, nI_add, pk_mul, nI_leI, nI_ltI, nI_eq, nI_mm, gd_b, gd_B0, gd_B1, ix_n, ob_some, om_some, nm_eq, if_true, if_false, if_pos, if_neg, ofn, Nat.sub_zero, hdiv, hdiv2, j1]
    · simp (disch := omega) only [li0, li1, li2, li3, li4, li5, li6, li7, li8, li9, li10, li12, li13, li20, li21, li30, li32, li40, li48, li60, li63, li100, li114, li492, li1000, nI_add, pk_mul, nI_leI, nI_ltI, nI_eq, nI_mm, gd_b, gd_B0, gd_B1, ix_n, ob_some, om_some, nm_eq, if_true, if_false, if_pos, if_neg, ofn, Nat.sub_zero, hdiv, hdiv2, j1]
  · rcases (by omega : y = 0 ∨ y = 1) with rfl | rfl
    · by_cases h5 : d < 5
      · simp (disch := omega) only [li0, li1, li2, li3, li4, li5, li6, li7, li8, li9, li10, li12, li13, li20, li21, li30, li32, li40, li48, li60, li63, li100, li114, li492, li1000, nI_add, pk_mul, nI_leI, nI_ltI, nI_eq, nI_mm, gd_b, gd_B0, gd_B1, ix_n, ob_some, om_some, nm_eq, if_true, if_false, if_pos, if_neg, ofn, Nat.sub_zero, hdiv, hdiv2, j1, j3, Nat.mul_zero]
      · simp (disch := omega) only [li0, li1, li2, li3, li4, li5, li6, li7, li8, li9, li10, li12, li13, li20, li21, li30, li32, li40, li48, li60, li63, li100, li114, li492, li1000, nI_add, pk_mul, nI_leI, nI_ltI, nI_eq, nI_mm, gd_b, gd_B0, gd_B1, ix_n, ob_some, om_some, nm_eq, if_true, if_false, if_pos, if_neg, ofn, Nat.sub_zero, hdiv, hdiv2, j1, j3, Nat.mul_zero]
    · by_cases h5 : d < 5
      · simp (disch := omega) only [li0, li1, li2, li3, li4, li5, li6, li7, li8, li9, li10, li12, li13, li20, li21, li30, li32, li40, li48, li60, li63, li100, li114, li492, li1000, nI_add, pk_mul, nI_leI, nI_ltI, nI_eq, nI_mm, gd_b, gd_B0, gd_B1, ix_n, ob_some, om_some, nm_eq, if_true, if_false, if_pos, if_neg, ofn, Nat.sub_zero, hdiv, hdiv2, j1, j3, Nat.mul_one]
      · simp (disch := omega) only [li0, li1, li2, li3, li4, li5, li6, li7, li8, li9, li10, li12, li13, li20, li21, li30, li32, li40, li48, li60, li63, li100, li114, li492, li1000, nI_add, pk_mul, nI_leI, nI_ltI, nI_eq, nI_mm, gd_b, gd_B0, gd_B1, ix_n, ob_some, om_some, nm_eq, if_true, if_false, if_pos, if_neg, ofn, Nat.sub_zero, hdiv, hdiv2, j1, j3, Nat.mul_one]
theorem has_ok {t i : Nat} (h : t < 256) (hi : i < 8) : f_X6_has (nI t) (nI i) = some (nI (if t.testBit i then 1 else 0)) := by
  unfold f_X6_has
  show (if jshr (nI t) (nI i) &&& nI 1 = nI 1 then some (nI 1) else some (nI 0)) = _
  rw [tb_has0 t h i hi]
  by_cases e : t.testBit i
  · rw [if_pos e, if_pos rfl]
  · rw [if_neg e, if_neg (by decide)]
theorem mdepth_ok {y : Md} {c : Cfg} (hM : RM y c) {r : Nat} (hr : r < 2 ^ 31) : f_X6_depth y (nI r) = some (nI (cRut c (r % 8))) := by
  have h1 : jrem (nI r) (8 : Int32) = nI (r % 8) := pk_rem hr (d := 8) (by decide) (by decide)
  unfold f_X6_depth
  rw [h1, gd_b (by omega) (by decide), ix_n (by omega), hM.2.2.1 _ (by omega)]
theorem ix4 {i : Nat} (h : i < 8) : ix ((4 : Int32) + nI i) = 4 + i := by
  show ix (nI 4 + nI i) = 4 + i
  rw [nI_add, ix_n (by omega)]
theorem gd4 {α : Type} {i : Nat} (h : i < 8) {k : Option α} : gd (inb ((4 : Int32) + nI i) 12) k = k := by
  show gd (inb (nI 4 + nI i) 12) k = k
  rw [nI_add, gd_b (by omega) (by decide)]
theorem any_succ (k : Nat) (p : Nat → Bool) : (List.range (k + 1)).any p = ((List.range k).any p || p k) := by
  rw [List.range_succ, List.any_append]
  simp
theorem mover_tried {y : Md} {n t : Nat} (hs : md_n y = nI n) (ht : md_tried y 3 = nI t) (hn : n ≤ 8) (h : t < 256) : f_X6_isOver_tried y = some (nI (if overN n t then 1 else 0)) := by
  have key : ∃ o, f_X6_isOver_tried y = some o ∧ o = nI (if overN n t then 1 else 0) := by
    unfold f_X6_isOver_tried
    refine lp_e (fun k s => s = (nI (if (List.range k).any (fun i => !t.testBit i && !t.testBit ((i + 1) % n)) then 1 else 0), nI k)) _ n rfl (by omega) ?_ ?_
    · rintro k s hk rfl
      refine ⟨_, ?_, rfl⟩
      show f_X6_isOver_tried_B4 y (nI _) (nI k) = _
      have hrem : jrem (nI k + 1) (nI n) = nI ((k + 1) % n) := by
        rw [nI_1]
        exact pk_rem (by omega) (by omega) (by omega)
      have hlt : (k + 1) % n < 8 := Nat.lt_of_lt_of_le (Nat.mod_lt _ (by omega)) hn
      unfold f_X6_isOver_tried_B4
      rw [hs, ht, if_neg (nI_ge hk (by omega)), has_ok h (show k < 8 by omega), hrem, has_ok h hlt, any_succ, gd_t (show decide (¬ nI n = 0) = true by simpa using nI_ne0 (by omega) (by omega))]
      simp only [ob_some]
      by_cases h1 : (List.range k).any (fun i => !t.testBit i && !t.testBit ((i + 1) % n)) = true
      · rw [if_pos h1, if_neg (show ¬ nI 1 = 0 by decide), h1, Bool.true_or, if_pos rfl]
        show some (Sum.inl (nI 1, nI k + 1)) = _
        rw [nI_1]
      · rw [if_neg h1, if_pos (show nI 0 = 0 from nI_0), show (List.range k).any (fun i => !t.testBit i && !t.testBit ((i + 1) % n)) = false by simpa using h1, Bool.false_or]
        by_cases h2 : t.testBit k = true
        · rw [if_pos h2, if_neg (show ¬ nI 1 = 0 by decide), h2, Bool.not_true, Bool.false_and, if_neg (by decide)]
          show some (Sum.inl (nI 0, nI k + 1)) = _
          rw [nI_1]
        · rw [if_neg h2, if_pos (show nI 0 = 0 from nI_0), show t.testBit k = false by simpa using h2, Bool.not_false, Bool.true_and]
          by_cases h3 : t.testBit ((k + 1) % n) = true
          · rw [if_pos h3, if_neg (show ¬ nI 1 = 0 by decide), h3, Bool.not_true, if_neg (by decide)]
            show some (Sum.inl (nI 0, nI k + 1)) = _
            rw [nI_1]
          · rw [if_neg h3, if_pos (show nI 0 = 0 from nI_0), show t.testBit ((k + 1) % n) = false by simpa using h3, Bool.not_false, if_pos rfl]
            show some (Sum.inl (nI 1, nI k + 1)) = _
            rw [nI_1]
    · rintro s rfl
      refine ⟨nI (if overN n t then 1 else 0), ?_, rfl⟩
      show f_X6_isOver_tried_B4 y (nI (if overN n t = true then 1 else 0)) (nI n) = _
      unfold f_X6_isOver_tried_B4
      rw [hs, if_pos (nI_le (Nat.le_refl n) (by omega))]
      by_cases e : overN n t = true
      · rw [if_pos e]; rfl
      · rw [if_neg e]; rfl
  obtain ⟨o, e, rfl⟩ := key
  exact e
theorem mbears_tried {y : Md} {c : Cfg} {d : Dyn} (hM : RM y c) (hT : RT (md_tried y) 0 d) (hC : okC c) (hD : okD c d) {i dep : Nat} (hi : i < cN c) (hd : dep ≤ 9) : f_X6_bearsOn_tried y (nI i) (nI dep) = some (nI (bearsN (cKind c i) (cStrong c i) (dWear d i) dep (dDry d))) := by
  have hn := okC_n hC
  obtain ⟨k1, k2, k3⟩ := hC.2.2.2 i hi
  obtain ⟨m1, m2, m3⟩ := hM.2.2.2 i hi
  have t2 : md_tried y 2 = nI (dDry d) := hT.2.2.1
  have t4 : md_tried y (4 + i) = nI (dWear d i) := by have := hT.2.2.2.2 i (by omega); rwa [Nat.zero_add] at this
  unfold f_X6_bearsOn_tried
  rw [gd_b (by omega) (by decide), gd_b (by omega) (by decide), gd4 (by omega), ix4 (by omega), ix_n (by omega), m1, m3, t2, t4, bearsAs_ok k1 k3 (hD.2.2.2 i (by omega)).1 hd hD.2.1]
  rfl
theorem st120_tried {y : Md} {c : Cfg} {r s yy t i : Nat} {e : Nat → Nat} (hM : RM y c) (hT : RT (md_tried y) 0 (r, s, yy, t, e)) (hn : cN c ≤ 8) (hi : i < cN c) (b : Bool) : ∃ t1, f_X6_steps_tried_J120 y (nI i) (nI (if b then 1 else 0)) = some (nI (if b then 1 else 0), md_set_tried y t1) ∧ RT t1 0 (r + 1, (i + 1) % cN c, yy, t, e) := by
  have hrem : jrem (nI i + 1) (nI (cN c)) = nI ((i + 1) % cN c) := by
    rw [nI_1]
    exact pk_rem (by omega) (by omega) (by omega)
  obtain ⟨t0, t1, t2, t3, t4⟩ := hT
  unfold f_X6_steps_tried_J120
  rw [hM.1, gd_t (show decide (¬ nI (cN c) = 0) = true by simpa using nI_ne0 (by omega) (by omega)), gd_t (show isB (nI (if b then 1 else 0)) = true by cases b <;> rfl), hrem]
  refine ⟨_, rfl, ?_, ?_, ?_, ?_, fun j hj => ?_⟩
  · rw [upd_s, upd_n (by decide)]
    show md_tried y 0 + 1 = nI (r + 1)
    rw [show md_tried y 0 = nI r from t0, nI_1]
  · rw [upd_n (by decide), upd_s]
  · rw [upd_n (by decide), upd_n (by decide)]; exact t2
  · rw [upd_n (by decide), upd_n (by decide)]; exact t3
  · rw [upd_n (by omega), upd_n (by omega)]; exact t4 j hj
theorem RM_tried {y : Md} {c : Cfg} (hM : RM y c) (X : Ar) : RM (md_set_tried y X) c := hM
theorem st120s_tried {y : Md} {c : Cfg} {X : Ar} {r s yy t i : Nat} {e : Nat → Nat} (hM : RM y c) (hT : RT X 0 (r, s, yy, t, e)) (hn : cN c ≤ 8) (hi : i < cN c) (b : Bool) : ∃ t1, f_X6_steps_tried_J120 (md_set_tried y X) (nI i) (nI (if b then 1 else 0)) = some (nI (if b then 1 else 0), md_set_tried y t1) ∧ RT t1 0 (r + 1, (i + 1) % cN c, yy, t, e) := st120_tried (y := md_set_tried y X) (RM_tried hM X) hT hn hi b
theorem steps_tried_ok {y : Md} {c : Cfg} {d : Dyn} (hM : RM y c) (hT : RT (md_tried y) 0 d) (hC : okC c) (hD : okD c d) (h3 : 3 ≤ cN c) (hr : dRut d < 1000) : ∃ t1, f_X6_steps_tried y = some (nI (if (stepN c d).1 then 1 else 0), md_set_tried y t1) ∧ RT t1 0 (stepN c d).2 := by
  have hn := okC_n hC
  have ht := there_lt hC hD
  have hTT := hT
  obtain ⟨hS, hY, -, hE⟩ := id hD
  obtain ⟨t0, t1, t2, t3, t4⟩ := hT
  have t1 : md_tried y 1 = nI (dStand d) := t1
  have t2 : md_tried y 2 = nI (dDry d) := t2
  have t3 : md_tried y 3 = nI (dThere d) := t3
  have t4 : ∀ i, i < 8 → md_tried y (4 + i) = nI (dWear d i) := fun i hi => by have := t4 i hi; rwa [Nat.zero_add] at this
  have hS : dStand d < cN c := by omega
  obtain ⟨k1, k2, k3⟩ := hC.2.2.2 _ hS
  obtain ⟨v1, v2, v3⟩ := hM.2.2.2 _ hS
  have hdl := hC.2.2.1 (dRut d % 8) (by omega)
  have hwe := (hE (dStand d) (by omega)).1
  have hix : ix (nI (dStand d)) = dStand d := ix_n (by omega)
  have hbo := mbears_tried hM hTT hC hD hS hdl
  unfold f_X6_steps_tried stepN
  rw [t0, t1, t3, mdepth_ok hM (by omega), has_ok ht (show dStand d < 8 by omega)]
  show ∃ w1, (if nI (if (dThere d).testBit (dStand d) = true then 1 else 0) = 0 then _ else _) = _ ∧ _
  by_cases hT : (dThere d).testBit (dStand d) = true
  · rw [if_pos hT, if_neg (show ¬ nI 1 = 0 by decide), gd_b (by omega) (by decide), hix, v2]
    by_cases hL : cLong c (dStand d) < cRut c (dRut d % 8)
    · rw [if_neg (nI_ge hL (by omega)), if_pos (Or.inr hL)]
      exact st120_tried (b := true) hM hTT hn hS
    · rw [if_pos (nI_le (by omega) (by omega)), if_neg (show ¬ ((dThere d).testBit (dStand d) = false ∨ _) by rw [hT]; simpa using hL)]
      unfold f_X6_steps_tried_J41
      rw [if_pos (show (0 : Int32) = 0 from rfl), hbo, ob_some]
      by_cases hB : bearsN (cKind c (dStand d)) (cStrong c (dStand d)) (dWear d (dStand d)) (cRut c (dRut d % 8)) (dDry d) < cRut c (dRut d % 8)
      · rw [if_neg (nI_ge hB (by omega)), if_pos hB]
        refine st120s_tried (b := true) (s := dStand d) (X := upd (md_tried y) 3 (md_tried y 3 &&& (jshl 1 (nI (dStand d)) ^^^ -1))) hM ?_ hn hS
        refine ⟨t0, t1, t2, ?_, fun j hj => ?_⟩
        · show upd (md_tried y) 3 (md_tried y 3 &&& (jshl (nI 1) (nI (dStand d)) ^^^ -nI 1)) 3 = nI (dThere d - 2 ^ dStand d)
          rw [upd_s, t3, tb_knock _ ht _ (by omega), if_pos hT]
        · show upd (md_tried y) 3 _ (0 + 4 + j) = _
          rw [upd_n (by omega), Nat.zero_add]; exact t4 j hj
      · have hbl : bearsN (cKind c (dStand d)) (cStrong c (dStand d)) (dWear d (dStand d)) (cRut c (dRut d % 8)) (dDry d) < 2 ^ 31 := by
          unfold bearsN
          split <;> (try split) <;> (try split) <;> (try split) <;> (try split) <;> omega
        rw [if_pos (nI_le (by omega) hbl), if_neg hB]
        have hwr : ∃ w1, f_X6_steps_tried_J97 y (nI (dStand d)) 0 = some (nI (if false = true then 1 else 0), md_set_tried y w1) ∧ RT w1 0 (dRut d + 1, (dStand d + 1) % cN c, dDry d, dThere d, updN (dWear d) (dStand d) (if dWear d (dStand d) < 30 then dWear d (dStand d) + 1 else dWear d (dStand d))) := by
          have hfin : ∀ z : Nat, z = (if dWear d (dStand d) < 30 then dWear d (dStand d) + 1 else dWear d (dStand d)) → RT (upd (md_tried y) (4 + dStand d) (nI z)) 0 (dRut d, dStand d, dDry d, dThere d, updN (dWear d) (dStand d) (if dWear d (dStand d) < 30 then dWear d (dStand d) + 1 else dWear d (dStand d))) := by
            intro z hz
            subst hz
            refine ⟨(upd_n (by omega)).trans t0, (upd_n (by omega)).trans t1, (upd_n (by omega)).trans t2, (upd_n (by omega)).trans t3, fun j hj => ?_⟩
            show upd _ _ _ (0 + 4 + j) = nI (updN (dWear d) (dStand d) _ j)
            rw [Nat.zero_add]
            unfold updN
            by_cases e : j = dStand d
            · subst e; rw [upd_s, if_pos rfl]
            · rw [upd_n (by omega), if_neg e]; exact t4 j hj
          unfold f_X6_steps_tried_J97 f_X6_steps_tried_J118
          rw [gd4 (by omega), gd4 (by omega), gd4 (by omega), gd4 (by omega), ix4 (by omega), t4 _ (by omega)]
          by_cases h30 : dWear d (dStand d) < 30
          · rw [if_neg (show ¬ (30 : Int32) ≤ nI (dWear d (dStand d)) from nI_ge h30 (by decide)), nI_1]
            exact st120s_tried (b := false) (X := upd (md_tried y) (4 + dStand d) (nI (dWear d (dStand d) + 1))) hM (hfin _ (by rw [if_pos h30])) hn hS
          · rw [if_pos (show (30 : Int32) ≤ nI (dWear d (dStand d)) from nI_le (a := 30) (by omega) (by omega)), show nI (dWear d (dStand d)) + (0 : Int32) = nI (dWear d (dStand d)) from nI_add _ 0]
            exact st120s_tried (b := false) (X := upd (md_tried y) (4 + dStand d) (nI (dWear d (dStand d)))) hM (hfin _ (by rw [if_neg h30])) hn hS
        unfold f_X6_steps_tried_J78
        have h2 : jrem (nI (dRut d)) (2 : Int32) = nI (dRut d % 2) := pk_rem (by omega) (d := 2) (by decide) (by decide)
        rw [if_pos (show (0 : Int32) = 0 from rfl), t2, h2]
        by_cases hd1 : dDry d = 1
        · rw [if_pos (show nI (dDry d) = 1 by rw [hd1]; rfl), if_pos (Or.inl hd1)]
          exact hwr
        · rw [if_neg (show ¬ nI (dDry d) = 1 by rw [show dDry d = 0 by omega]; decide)]
          by_cases hd2 : dRut d % 2 = 1
          · rw [if_pos (show nI (dRut d % 2) = 1 by rw [hd2]; rfl), if_pos (Or.inr hd2)]
            exact hwr
          · rw [if_neg (show ¬ nI (dRut d % 2) = 1 by rw [show dRut d % 2 = 0 by omega]; decide), if_neg (show ¬ (dDry d = 1 ∨ dRut d % 2 = 1) by omega)]
            exact st120_tried (b := false) hM hTT hn hS
  · rw [if_neg hT, if_pos (show nI 0 = 0 from nI_0), if_pos (Or.inl (by simpa using hT))]
    exact st120_tried (b := true) hM hTT hn hS
theorem mover_now {y : Md} {n t : Nat} (hs : md_n y = nI n) (ht : md_now y 3 = nI t) (hn : n ≤ 8) (h : t < 256) : f_X6_isOver_now y = some (nI (if overN n t then 1 else 0)) := by
  have key : ∃ o, f_X6_isOver_now y = some o ∧ o = nI (if overN n t then 1 else 0) := by
    unfold f_X6_isOver_now
    refine lp_e (fun k s => s = (nI (if (List.range k).any (fun i => !t.testBit i && !t.testBit ((i + 1) % n)) then 1 else 0), nI k)) _ n rfl (by omega) ?_ ?_
    · rintro k s hk rfl
      refine ⟨_, ?_, rfl⟩
      show f_X6_isOver_now_B4 y (nI _) (nI k) = _
      have hrem : jrem (nI k + 1) (nI n) = nI ((k + 1) % n) := by
        rw [nI_1]
        exact pk_rem (by omega) (by omega) (by omega)
      have hlt : (k + 1) % n < 8 := Nat.lt_of_lt_of_le (Nat.mod_lt _ (by omega)) hn
      unfold f_X6_isOver_now_B4
      rw [hs, ht, if_neg (nI_ge hk (by omega)), has_ok h (show k < 8 by omega), hrem, has_ok h hlt, any_succ, gd_t (show decide (¬ nI n = 0) = true by simpa using nI_ne0 (by omega) (by omega))]
      simp only [ob_some]
      by_cases h1 : (List.range k).any (fun i => !t.testBit i && !t.testBit ((i + 1) % n)) = true
      · rw [if_pos h1, if_neg (show ¬ nI 1 = 0 by decide), h1, Bool.true_or, if_pos rfl]
        show some (Sum.inl (nI 1, nI k + 1)) = _
        rw [nI_1]
      · rw [if_neg h1, if_pos (show nI 0 = 0 from nI_0), show (List.range k).any (fun i => !t.testBit i && !t.testBit ((i + 1) % n)) = false by simpa using h1, Bool.false_or]
        by_cases h2 : t.testBit k = true
        · rw [if_pos h2, if_neg (show ¬ nI 1 = 0 by decide), h2, Bool.not_true, Bool.false_and, if_neg (by decide)]
          show some (Sum.inl (nI 0, nI k + 1)) = _
          rw [nI_1]
        · rw [if_neg h2, if_pos (show nI 0 = 0 from nI_0), show t.testBit k = false by simpa using h2, Bool.not_false, Bool.true_and]
          by_cases h3 : t.testBit ((k + 1) % n) = true
          · rw [if_pos h3, if_neg (show ¬ nI 1 = 0 by decide), h3, Bool.not_true, if_neg (by decide)]
            show some (Sum.inl (nI 0, nI k + 1)) = _
            rw [nI_1]
          · rw [if_neg h3, if_pos (show nI 0 = 0 from nI_0), show t.testBit ((k + 1) % n) = false by simpa using h3, Bool.not_false, if_pos rfl]
            show some (Sum.inl (nI 1, nI k + 1)) = _
            rw [nI_1]
    · rintro s rfl
      refine ⟨nI (if overN n t then 1 else 0), ?_, rfl⟩
      show f_X6_isOver_now_B4 y (nI (if overN n t = true then 1 else 0)) (nI n) = _
      unfold f_X6_isOver_now_B4
      rw [hs, if_pos (nI_le (Nat.le_refl n) (by omega))]
      by_cases e : overN n t = true
      · rw [if_pos e]; rfl
      · rw [if_neg e]; rfl
  obtain ⟨o, e, rfl⟩ := key
  exact e
theorem mbears_now {y : Md} {c : Cfg} {d : Dyn} (hM : RM y c) (hT : RT (md_now y) 0 d) (hC : okC c) (hD : okD c d) {i dep : Nat} (hi : i < cN c) (hd : dep ≤ 9) : f_X6_bearsOn_now y (nI i) (nI dep) = some (nI (bearsN (cKind c i) (cStrong c i) (dWear d i) dep (dDry d))) := by
  have hn := okC_n hC
  obtain ⟨k1, k2, k3⟩ := hC.2.2.2 i hi
  obtain ⟨m1, m2, m3⟩ := hM.2.2.2 i hi
  have t2 : md_now y 2 = nI (dDry d) := hT.2.2.1
  have t4 : md_now y (4 + i) = nI (dWear d i) := by have := hT.2.2.2.2 i (by omega); rwa [Nat.zero_add] at this
  unfold f_X6_bearsOn_now
  rw [gd_b (by omega) (by decide), gd_b (by omega) (by decide), gd4 (by omega), ix4 (by omega), ix_n (by omega), m1, m3, t2, t4, bearsAs_ok k1 k3 (hD.2.2.2 i (by omega)).1 hd hD.2.1]
  rfl
theorem st120_now {y : Md} {c : Cfg} {r s yy t i : Nat} {e : Nat → Nat} (hM : RM y c) (hT : RT (md_now y) 0 (r, s, yy, t, e)) (hn : cN c ≤ 8) (hi : i < cN c) (b : Bool) : ∃ t1, f_X6_steps_now_J120 y (nI i) (nI (if b then 1 else 0)) = some (nI (if b then 1 else 0), md_set_now y t1) ∧ RT t1 0 (r + 1, (i + 1) % cN c, yy, t, e) := by
  have hrem : jrem (nI i + 1) (nI (cN c)) = nI ((i + 1) % cN c) := by
    rw [nI_1]
    exact pk_rem (by omega) (by omega) (by omega)
  obtain ⟨t0, t1, t2, t3, t4⟩ := hT
  unfold f_X6_steps_now_J120
  rw [hM.1, gd_t (show decide (¬ nI (cN c) = 0) = true by simpa using nI_ne0 (by omega) (by omega)), gd_t (show isB (nI (if b then 1 else 0)) = true by cases b <;> rfl), hrem]
  refine ⟨_, rfl, ?_, ?_, ?_, ?_, fun j hj => ?_⟩
  · rw [upd_s, upd_n (by decide)]
    show md_now y 0 + 1 = nI (r + 1)
    rw [show md_now y 0 = nI r from t0, nI_1]
  · rw [upd_n (by decide), upd_s]
  · rw [upd_n (by decide), upd_n (by decide)]; exact t2
  · rw [upd_n (by decide), upd_n (by decide)]; exact t3
  · rw [upd_n (by omega), upd_n (by omega)]; exact t4 j hj
theorem RM_now {y : Md} {c : Cfg} (hM : RM y c) (X : Ar) : RM (md_set_now y X) c := hM
theorem st120s_now {y : Md} {c : Cfg} {X : Ar} {r s yy t i : Nat} {e : Nat → Nat} (hM : RM y c) (hT : RT X 0 (r, s, yy, t, e)) (hn : cN c ≤ 8) (hi : i < cN c) (b : Bool) : ∃ t1, f_X6_steps_now_J120 (md_set_now y X) (nI i) (nI (if b then 1 else 0)) = some (nI (if b then 1 else 0), md_set_now y t1) ∧ RT t1 0 (r + 1, (i + 1) % cN c, yy, t, e) := st120_now (y := md_set_now y X) (RM_now hM X) hT hn hi b
theorem steps_now_ok {y : Md} {c : Cfg} {d : Dyn} (hM : RM y c) (hT : RT (md_now y) 0 d) (hC : okC c) (hD : okD c d) (h3 : 3 ≤ cN c) (hr : dRut d < 1000) : ∃ t1, f_X6_steps_now y = some (nI (if (stepN c d).1 then 1 else 0), md_set_now y t1) ∧ RT t1 0 (stepN c d).2 := by
  have hn := okC_n hC
  have ht := there_lt hC hD
  have hTT := hT
  obtain ⟨hS, hY, -, hE⟩ := id hD
  obtain ⟨t0, t1, t2, t3, t4⟩ := hT
  have t1 : md_now y 1 = nI (dStand d) := t1
  have t2 : md_now y 2 = nI (dDry d) := t2
  have t3 : md_now y 3 = nI (dThere d) := t3
  have t4 : ∀ i, i < 8 → md_now y (4 + i) = nI (dWear d i) := fun i hi => by have := t4 i hi; rwa [Nat.zero_add] at this
  have hS : dStand d < cN c := by omega
  obtain ⟨k1, k2, k3⟩ := hC.2.2.2 _ hS
  obtain ⟨v1, v2, v3⟩ := hM.2.2.2 _ hS
  have hdl := hC.2.2.1 (dRut d % 8) (by omega)
  have hwe := (hE (dStand d) (by omega)).1
  have hix : ix (nI (dStand d)) = dStand d := ix_n (by omega)
  have hbo := mbears_now hM hTT hC hD hS hdl
  unfold f_X6_steps_now stepN
  rw [t0, t1, t3, mdepth_ok hM (by omega), has_ok ht (show dStand d < 8 by omega)]
  show ∃ w1, (if nI (if (dThere d).testBit (dStand d) = true then 1 else 0) = 0 then _ else _) = _ ∧ _
  by_cases hT : (dThere d).testBit (dStand d) = true
  · rw [if_pos hT, if_neg (show ¬ nI 1 = 0 by decide), gd_b (by omega) (by decide), hix, v2]
    by_cases hL : cLong c (dStand d) < cRut c (dRut d % 8)
    · rw [if_neg (nI_ge hL (by omega)), if_pos (Or.inr hL)]
      exact st120_now (b := true) hM hTT hn hS
    · rw [if_pos (nI_le (by omega) (by omega)), if_neg (show ¬ ((dThere d).testBit (dStand d) = false ∨ _) by rw [hT]; simpa using hL)]
      unfold f_X6_steps_now_J41
      rw [if_pos (show (0 : Int32) = 0 from rfl), hbo, ob_some]
      by_cases hB : bearsN (cKind c (dStand d)) (cStrong c (dStand d)) (dWear d (dStand d)) (cRut c (dRut d % 8)) (dDry d) < cRut c (dRut d % 8)
      · rw [if_neg (nI_ge hB (by omega)), if_pos hB]
        refine st120s_now (b := true) (s := dStand d) (X := upd (md_now y) 3 (md_now y 3 &&& (jshl 1 (nI (dStand d)) ^^^ -1))) hM ?_ hn hS
        refine ⟨t0, t1, t2, ?_, fun j hj => ?_⟩
        · show upd (md_now y) 3 (md_now y 3 &&& (jshl (nI 1) (nI (dStand d)) ^^^ -nI 1)) 3 = nI (dThere d - 2 ^ dStand d)
          rw [upd_s, t3, tb_knock _ ht _ (by omega), if_pos hT]
        · show upd (md_now y) 3 _ (0 + 4 + j) = _
          rw [upd_n (by omega), Nat.zero_add]; exact t4 j hj
      · have hbl : bearsN (cKind c (dStand d)) (cStrong c (dStand d)) (dWear d (dStand d)) (cRut c (dRut d % 8)) (dDry d) < 2 ^ 31 := by
          unfold bearsN
          split <;> (try split) <;> (try split) <;> (try split) <;> (try split) <;> omega
        rw [if_pos (nI_le (by omega) hbl), if_neg hB]
        have hwr : ∃ w1, f_X6_steps_now_J97 y (nI (dStand d)) 0 = some (nI (if false = true then 1 else 0), md_set_now y w1) ∧ RT w1 0 (dRut d + 1, (dStand d + 1) % cN c, dDry d, dThere d, updN (dWear d) (dStand d) (if dWear d (dStand d) < 30 then dWear d (dStand d) + 1 else dWear d (dStand d))) := by
          have hfin : ∀ z : Nat, z = (if dWear d (dStand d) < 30 then dWear d (dStand d) + 1 else dWear d (dStand d)) → RT (upd (md_now y) (4 + dStand d) (nI z)) 0 (dRut d, dStand d, dDry d, dThere d, updN (dWear d) (dStand d) (if dWear d (dStand d) < 30 then dWear d (dStand d) + 1 else dWear d (dStand d))) := by
            intro z hz
            subst hz
            refine ⟨(upd_n (by omega)).trans t0, (upd_n (by omega)).trans t1, (upd_n (by omega)).trans t2, (upd_n (by omega)).trans t3, fun j hj => ?_⟩
            show upd _ _ _ (0 + 4 + j) = nI (updN (dWear d) (dStand d) _ j)
            rw [Nat.zero_add]
            unfold updN
            by_cases e : j = dStand d
            · subst e; rw [upd_s, if_pos rfl]
            · rw [upd_n (by omega), if_neg e]; exact t4 j hj
          unfold f_X6_steps_now_J97 f_X6_steps_now_J118
          rw [gd4 (by omega), gd4 (by omega), gd4 (by omega), gd4 (by omega), ix4 (by omega), t4 _ (by omega)]
          by_cases h30 : dWear d (dStand d) < 30
          · rw [if_neg (show ¬ (30 : Int32) ≤ nI (dWear d (dStand d)) from nI_ge h30 (by decide)), nI_1]
            exact st120s_now (b := false) (X := upd (md_now y) (4 + dStand d) (nI (dWear d (dStand d) + 1))) hM (hfin _ (by rw [if_pos h30])) hn hS
          · rw [if_pos (show (30 : Int32) ≤ nI (dWear d (dStand d)) from nI_le (a := 30) (by omega) (by omega)), show nI (dWear d (dStand d)) + (0 : Int32) = nI (dWear d (dStand d)) from nI_add _ 0]
            exact st120s_now (b := false) (X := upd (md_now y) (4 + dStand d) (nI (dWear d (dStand d)))) hM (hfin _ (by rw [if_neg h30])) hn hS
        unfold f_X6_steps_now_J78
        have h2 : jrem (nI (dRut d)) (2 : Int32) = nI (dRut d % 2) := pk_rem (by omega) (d := 2) (by decide) (by decide)
        rw [if_pos (show (0 : Int32) = 0 from rfl), t2, h2]
        by_cases hd1 : dDry d = 1
        · rw [if_pos (show nI (dDry d) = 1 by rw [hd1]; rfl), if_pos (Or.inl hd1)]
          exact hwr
        · rw [if_neg (show ¬ nI (dDry d) = 1 by rw [show dDry d = 0 by omega]; decide)]
          by_cases hd2 : dRut d % 2 = 1
          · rw [if_pos (show nI (dRut d % 2) = 1 by rw [hd2]; rfl), if_pos (Or.inr hd2)]
            exact hwr
          · rw [if_neg (show ¬ nI (dRut d % 2) = 1 by rw [show dRut d % 2 = 0 by omega]; decide), if_neg (show ¬ (dDry d = 1 ∨ dRut d % 2 = 1) by omega)]
            exact st120_now (b := false) hM hTT hn hS
  · rw [if_neg hT, if_pos (show nI 0 = 0 from nI_0), if_pos (Or.inl (by simpa using hT))]
    exact st120_now (b := true) hM hTT hn hS
theorem mlimps_ok {y : Md} {c : Cfg} {d : Dyn} (hM : RM y c) (hT : RT (md_tried y) 0 d) (hC : okC c) (hD : okD c d) (h3 : 3 ≤ cN c) (hr : dRut d < 500) {n : Nat} (hn : n ≤ 100) (lost : Bool) : ∃ t1, f_X6_limpsIn y (nI n) (nI (if lost then 1 else 0)) = some (nI (limN c lost d n).1, md_set_tried y t1) ∧ RT t1 0 (limN c lost d n).2 := by
  have key : ∃ o, f_X6_limpsIn y (nI n) (nI (if lost then 1 else 0)) = some o ∧ ∃ t1, o = (nI (limN c lost d n).1, md_set_tried y t1) ∧ RT t1 0 (limN c lost d n).2 := by
    unfold f_X6_limpsIn
    refine lp_e (fun k s => ∃ t1, s = (nI (limN c lost d k).1, nI k, md_set_tried y t1) ∧ RT t1 0 (limN c lost d k).2) _ n ⟨md_tried y, rfl, hT⟩ (by omega) ?_ ?_
    · rintro k s hk ⟨w1, rfl, hW1⟩
      obtain ⟨o1, o2, o3⟩ := lim_ok lost hD h3 k
      show ∃ t, f_X6_limpsIn_B5 (nI n) (nI _) (nI _) (nI k) (md_set_tried y w1) = _ ∧ _
      unfold f_X6_limpsIn_B5
      rw [if_neg (nI_ge hk (by omega)), mover_tried (y := md_set_tried y w1) hM.1 hW1.2.2.2.1 (okC_n hC) (there_lt hC o1), ob_some]
      by_cases ho : overN (cN c) (dThere (limN c lost d k).2) = true
      · rw [if_pos ho, if_neg (show ¬ nI 1 = 0 by decide)]
        refine ⟨(nI (limN c lost d (k + 1)).1, nI (k + 1), md_set_tried y w1), ?_, w1, rfl, ?_⟩
        · show _ = some (Sum.inl (nI (nxtN c lost (limN c lost d k)).1, nI (k + 1), md_set_tried y w1))
          unfold nxtN
          rw [if_pos ho]
          cases lost
          · show some (Sum.inl (nI _ + nI 0, nI k + 1, _)) = _
            rw [nI_add, nI_1]; rfl
          · show some (Sum.inl (nI _ + nI 1, nI k + 1, _)) = _
            rw [nI_add, nI_1]; rfl
        · show RT w1 0 (nxtN c lost (limN c lost d k)).2
          unfold nxtN
          rw [if_pos ho]; exact hW1
      · obtain ⟨w2, e2, hW2⟩ := steps_tried_ok (y := md_set_tried y w1) (RM_tried hM w1) hW1 hC o1 h3 (by omega)
        rw [if_neg ho, if_pos (show nI 0 = 0 from nI_0), e2, ob_some]
        refine ⟨(nI (limN c lost d (k + 1)).1, nI (k + 1), md_set_tried y w2), ?_, w2, rfl, ?_⟩
        · show (if nI (if (stepN c (limN c lost d k).2).1 = true then 1 else 0) = 0 then _ else _) = some (Sum.inl (nI (nxtN c lost (limN c lost d k)).1, nI (k + 1), md_set_tried y w2))
          unfold nxtN
          rw [if_neg ho]
          by_cases hb : (stepN c (limN c lost d k).2).1 = true
          · rw [if_pos hb, if_neg (show ¬ nI 1 = 0 by decide)]
            show some (Sum.inl (nI _ + nI 1, nI k + 1, _)) = _
            rw [nI_add, nI_1]; rfl
          · rw [if_neg hb, if_pos (show nI 0 = 0 from nI_0)]
            show some (Sum.inl (nI _ + nI 0, nI k + 1, _)) = _
            rw [nI_add, nI_1]; rfl
        · show RT w2 0 (nxtN c lost (limN c lost d k)).2
          unfold nxtN
          rw [if_neg ho]; exact hW2
    · rintro s ⟨w1, rfl, hW1⟩
      refine ⟨_, ?_, w1, rfl, hW1⟩
      show f_X6_limpsIn_B5 (nI n) (nI _) (nI _) (nI n) (md_set_tried y w1) = _
      unfold f_X6_limpsIn_B5
      rw [if_pos (nI_le (Nat.le_refl n) (by omega))]; rfl
  obtain ⟨o, e, w1, rfl, h⟩ := key
  exact ⟨w1, e, h⟩
theorem copyNow_ok {y : Md} {d : Dyn} (hN : RT (md_now y) 0 d) : ∃ t1, f_X6_copyNow y = some (md_set_tried y t1) ∧ RT t1 0 d := by
  have key : ∃ o, f_X6_copyNow y = some o ∧ ∃ t1, o = md_set_tried y t1 ∧ RT t1 0 d := by
    unfold f_X6_copyNow
    refine lp_e (fun k s => ∃ t1, s = (nI k, md_set_tried y t1) ∧ ∀ j, j < k → t1 j = md_now y j) _ 12 ⟨md_tried y, rfl, fun j hj => absurd hj (by omega)⟩ (by omega) ?_ ?_
    · rintro k s hk ⟨t1, rfl, ht⟩
      refine ⟨(nI (k + 1), md_set_tried y (upd t1 k (md_now y k))), ?_, _, rfl, fun j hj => ?_⟩
      · show f_X6_copyNow_B2 (nI k) (md_set_tried y t1) = _
        unfold f_X6_copyNow_B2
        rw [if_neg (show ¬ (12 : Int32) ≤ nI k from nI_ge hk (by decide)), gd_b (by omega) (by decide), gd_b (by omega) (by decide), ix_n (by omega), nI_1]
        rfl
      · by_cases e : j = k
        · subst e; rw [upd_s]
        · rw [upd_n e]; exact ht j (by omega)
    · rintro s ⟨t1, rfl, ht⟩
      refine ⟨_, ?_, t1, rfl, ?_⟩
      · show f_X6_copyNow_B2 (nI 12) (md_set_tried y t1) = _
        unfold f_X6_copyNow_B2
        rw [if_pos (show (12 : Int32) ≤ nI 12 by decide)]; rfl
      · obtain ⟨a0, a1, a2, a3, a4⟩ := hN
        exact ⟨(ht 0 (by omega)).trans a0, (ht 1 (by omega)).trans a1, (ht 2 (by omega)).trans a2, (ht 3 (by omega)).trans a3, fun i hi => (ht (0 + 4 + i) (by omega)).trans (a4 i hi)⟩
  obtain ⟨o, e, t1, rfl, h⟩ := key
  exact ⟨t1, e, h⟩
theorem RM_dl {y : Md} {c : Cfg} (hM : RM y c) (L : Ar) (v : Int32) : RM (md_set_deedMany (md_set_log y L) v) c := hM
