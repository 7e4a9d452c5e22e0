/-! PURE SIDE: copy, mean -/
theorem subT {k m : Nat} (hk : k < 2 ^ 30) (hm : m < 2 ^ 31) : (nI k - nI m).toInt = (k : Int) - m := by
  rw [Int32.toInt_sub, nI_toInt (by omega), nI_toInt hm]
  exact Int.bmod_eq_of_le (by omega) (by omega)
theorem missing_eq {w : Sh} {r : Nat} (hr : r < 6) : f_X3_isMissing 6 40 w (nI r) = if sh_sizes w r = -1 then some 1 else some 0 := by
  unfold f_X3_isMissing
  rw [gd_b hr (by decide), ix_n (by omega)]
theorem part_bad {w : Sh} {r k m : Nat} {v : Int32} (hr : r < 6) (e : sh_sizes w r = nI k) (hk : k ≤ 40) (hm : m < 2 ^ 31) (h : v < 0 ∨ (k : Int) < v.toInt + m) : f_X3_hasPart 6 40 w (nI r) v (nI m) = some 0 := by
  unfold f_X3_hasPart
  by_cases h0 : v < 0
  · rw [if_pos h0]
  · rw [if_neg h0, gd_b hr (by decide), ix_n (by omega), e, if_pos]
    rw [Int32.lt_iff_toInt_lt, subT (by omega) hm]
    have := h.resolve_left h0
    omega
theorem part_good {w : Sh} {r k m i : Nat} (hr : r < 6) (e : sh_sizes w r = nI k) (hk : k ≤ 40) (h : i + m ≤ k) : f_X3_hasPart 6 40 w (nI r) (nI i) (nI m) = some 1 := by
  unfold f_X3_hasPart
  rw [if_neg (nI_pos (by omega)), gd_b hr (by decide), ix_n (by omega), e, if_neg]
  rw [Int32.lt_iff_toInt_lt, subT (by omega) (by omega), nI_toInt (by omega)]
  omega
theorem lcm_lt {v : Int32} {k m : Nat} (hk : k ≤ 40) (hm : m < 2 ^ 31) : (nI k).toInt64 < v.toInt64 + (nI m).toInt64 ↔ (k : Int) < v.toInt + m := by
  rw [Int64.lt_iff_toInt_lt, lg_i2l_add, Int32.toInt_toInt64, nI_toInt (by omega), nI_toInt hm]
theorem lcm_le {v : Int32} {k m : Nat} (hk : k ≤ 40) (hm : m < 2 ^ 31) : v.toInt64 + (nI m).toInt64 ≤ (nI k).toInt64 ↔ v.toInt + m ≤ (k : Int) := by
  rw [Int64.le_iff_toInt_le, lg_i2l_add, Int32.toInt_toInt64, nI_toInt hm, nI_toInt (show k < 2 ^ 31 by omega)]
theorem RS_move {w : Sh} {sz pl pl1 : Ar} (h : RS 6 40 w sz pl) {r t i j m : Nat} (hr : r < 6) (hi : i + m ≤ 40) (hj : j + m ≤ 40) (h1 : ∀ k, k < m → pl1 (40 * t + j + k) = pl (40 * r + i + k)) (h2 : ∀ q, (q < 40 * t + j ∨ 40 * t + j + m ≤ q) → pl1 q = pl q) : RS 6 40 (sh_set_places w (updA (sh_places w) t (acpy (sh_places w r) (sh_places w t) (nI i) (nI j) (nI m)))) sz pl1 := by
  refine ⟨h.1, fun q hq => ?_⟩
  obtain ⟨a1, a2, a3⟩ := h.2 q hq
  refine ⟨a1, a2, fun c hc => ?_⟩
  show updA (sh_places w) t (acpy (sh_places w r) (sh_places w t) (nI i) (nI j) (nI m)) q c = pl1 (40 * q + c)
  by_cases e : q = t
  · subst e
    rw [updA_s]
    unfold acpy
    rw [nI_clamp (by omega), nI_clamp (by omega), nI_clamp (by omega)]
    by_cases hin : j ≤ c ∧ c < j + m
    · rw [pk_cpy_in hin.1 hin.2, (h.2 r hr).2.2 (i + (c - j)) (by omega)]
      have := h1 (c - j) (by omega)
      rw [show 40 * q + j + (c - j) = 40 * q + c by omega] at this
      rw [this, show 40 * r + i + (c - j) = 40 * r + (i + (c - j)) by omega]
    · rw [pk_cpy_out (by omega), a3 c hc, h2 _ (by omega)]
  · rw [updA_n e, a3 c hc, h2 _ (by omega)]
theorem idx40 {t j k : Nat} (h : 40 * t + j + k < 240) : inb (((40 : Int32) * nI t + nI j) + nI k) 240 = true ∧ ix (((40 : Int32) * nI t + nI j) + nI k) = 40 * t + j + k := by
  have : ((40 : Int32) * nI t + nI j) + nI k = nI (40 * t + j + k) := by
    show (nI 40 * nI t + nI j) + nI k = _
    rw [pk_mul, nI_add, nI_add]
  rw [this]
  exact ⟨inb_n h (by decide), ix_n (by omega)⟩
theorem cpyok_n {i j m n0 n1 : Nat} (hi : i < 2 ^ 31) (hj : j < 2 ^ 31) (hm : m < 2 ^ 31) (h0 : i + m ≤ n0) (h1 : j + m ≤ n1) : cpyok (nI i) (nI j) (nI m) n0 n1 = true := by
  unfold cpyok
  rw [nI_clamp hi, nI_clamp hj, nI_clamp hm]
  simp [nI_pos hi, nI_pos hj, nI_pos hm, h0, h1]
theorem mcopy_ok {y : Md} {r t i j m : Nat} (hr : r < 6) (ht : t < 6) (hi : i + m ≤ 40) (hj : j + m ≤ 40) : ∃ C P, lp (f_X6_copy_L104 (nI r) (nI i) (nI t) (nI j) (nI m)) fuel ((0 : Int32), y) = some (1, md_set_rows (md_set_copied y C) P) ∧ (∀ k, k < m → P (40 * t + j + k) = md_rows y (40 * r + i + k)) ∧ ∀ q, (q < 40 * t + j ∨ 40 * t + j + m ≤ q) → P q = md_rows y q := by
  have key2 : ∀ C : Ar, (∀ k, k < m → C k = md_rows y (40 * r + i + k)) → ∃ o, f_X6_copy_J133 (md_set_copied y C) (nI t) (nI j) (nI m) = some o ∧ ∃ P, o = (1, md_set_rows (md_set_copied y C) P) ∧ (∀ k, k < m → P (40 * t + j + k) = md_rows y (40 * r + i + k)) ∧ ∀ q, (q < 40 * t + j ∨ 40 * t + j + m ≤ q) → P q = md_rows y q := by
    intro C hC
    unfold f_X6_copy_J133
    refine lp_e (fun k s => ∃ P, s = (nI k, md_set_rows (md_set_copied y C) P) ∧ (∀ q, q < k → P (40 * t + j + q) = md_rows y (40 * r + i + q)) ∧ ∀ q, (q < 40 * t + j ∨ 40 * t + j + m ≤ q) → P q = md_rows y q) _ m ⟨md_rows y, rfl, fun q hq => absurd hq (by omega), fun _ _ => rfl⟩ (by omega) ?_ ?_
    · rintro k s hk ⟨P, rfl, b1, b2⟩
      obtain ⟨j1, j2⟩ := idx40 (t := t) (j := j) (k := k) (by omega)
      refine ⟨(nI (k + 1), md_set_rows (md_set_copied y C) (upd P (40 * t + j + k) (C k))), ?_, _, rfl, fun q hq => ?_, fun q hq => ?_⟩
      · show f_X6_copy_B136 (nI t) (nI j) (nI m) (nI k) (md_set_rows (md_set_copied y C) P) = _
        unfold f_X6_copy_B136
        rw [if_neg (nI_ge hk (by omega)), gd_b (by omega) (by decide), gd_t j1, j2, ix_n (by omega), nI_1]
        rfl
      · by_cases e : q = k
        · subst e; rw [upd_s]; exact hC q hk
        · rw [upd_n (by omega)]; exact b1 q (by omega)
      · rw [upd_n (by omega)]; exact b2 q hq
    · rintro s ⟨P, rfl, b1, b2⟩
      refine ⟨_, ?_, P, rfl, b1, b2⟩
      show f_X6_copy_B136 (nI t) (nI j) (nI m) (nI m) (md_set_rows (md_set_copied y C) P) = _
      unfold f_X6_copy_B136
      rw [if_pos (nI_le (Nat.le_refl m) (by omega))]; rfl
  have key : ∃ o, lp (f_X6_copy_L104 (nI r) (nI i) (nI t) (nI j) (nI m)) fuel ((0 : Int32), y) = some o ∧ ∃ C P, o = (1, md_set_rows (md_set_copied y C) P) ∧ (∀ k, k < m → P (40 * t + j + k) = md_rows y (40 * r + i + k)) ∧ ∀ q, (q < 40 * t + j ∨ 40 * t + j + m ≤ q) → P q = md_rows y q := by
    refine lp_e (fun k s => ∃ C, s = (nI k, md_set_copied y C) ∧ ∀ q, q < k → C q = md_rows y (40 * r + i + q)) _ m ⟨md_copied y, rfl, fun q hq => absurd hq (by omega)⟩ (by omega) ?_ ?_
    · rintro k s hk ⟨C, rfl, b1⟩
      refine ⟨(nI (k + 1), md_set_copied y (upd C k (md_rows y (40 * r + i + k)))), ?_, _, rfl, fun q hq => ?_⟩
      · show f_X6_copy_B104 (nI r) (nI i) (nI t) (nI j) (nI m) (nI k) (md_set_copied y C) = _
        unfold f_X6_copy_B104
        rw [if_neg (nI_ge hk (by omega)), nI_add, rowAt_ok hr (by omega), ob_some, gd_b (by omega) (by decide), ix_n (by omega), nI_1, Nat.add_assoc]
        rfl
      · by_cases e : q = k
        · subst e; rw [upd_s]
        · rw [upd_n e]; exact b1 q (by omega)
    · rintro s ⟨C, rfl, b1⟩
      obtain ⟨o, e, P, hQ⟩ := key2 C b1
      refine ⟨o, ?_, C, P, hQ⟩
      show f_X6_copy_B104 (nI r) (nI i) (nI t) (nI j) (nI m) (nI m) (md_set_copied y C) = _
      unfold f_X6_copy_B104
      rw [if_pos (nI_le (Nat.le_refl m) (by omega)), e]; rfl
  obtain ⟨o, e, C, P, rfl, b1, b2⟩ := key
  exact ⟨C, P, e, b1, b2⟩
theorem s_copy : S_copy Rel := by
  intro x y h v0 v1 v2 v3 v4
  unfold f_X5_copy f_X6_copy
  rcases num_cases v0 6 (by decide) with hb | ⟨r, hr, rfl⟩
  · rw [isNumber_bad hb, isRow_bad hb]
    exact ⟨-1, x, y, rfl, rfl, h⟩
  · rw [isNumber_in hr (by decide), isRow_in hr, ob_some, ob_some, if_neg (show ¬ (1 : Int32) = 0 by decide), if_neg (show ¬ (1 : Int32) = 0 by decide)]
    rcases num_cases v2 6 (by decide) with hb | ⟨t, ht, rfl⟩
    · rw [isNumber_bad hb, isRow_bad hb]
      exact ⟨-1, x, y, rfl, rfl, h⟩
    · rw [isNumber_in ht (by decide), isRow_in ht, ob_some, ob_some, if_neg (show ¬ (1 : Int32) = 0 by decide), if_neg (show ¬ (1 : Int32) = 0 by decide)]
      by_cases h5 : 0 ≤ v4
      · rw [if_pos h5, if_pos h5, missing_eq hr, missing_eq ht, gd_b hr (by decide), gd_b ht (by decide), ix_n (j := r) (by omega), ix_n (j := t) (by omega)]
        obtain ⟨m, hm, rfl⟩ := nI_of (x := v4) (Int32.not_lt.mpr h5)
        have fin1 : ∃ (r : Int32) (x1 : Ww) (y1 : Md), f_X5_copy_J57 x = some (r, x1) ∧ f_X6_copy_J45 y = some (r, y1) ∧ Rel x1 y1 := by
          obtain ⟨x1, y1, g1, g2, g3⟩ := refuse_ok h (f := 1) (by decide)
          refine ⟨-3, x1, y1, ?_, ?_, g3⟩
          · unfold f_X5_copy_J57; rw [show f_X5_refuse x 1 = some (-3, x1) from g1]; rfl
          · unfold f_X6_copy_J45; rw [show f_X6_meets y 1 = some (-3, y1) from g2]; rfl
        have fin2 : ∃ (r : Int32) (x1 : Ww) (y1 : Md), f_X5_copy_J92 x = some (r, x1) ∧ f_X6_copy_J95 y = some (r, y1) ∧ Rel x1 y1 := by
          obtain ⟨x1, y1, g1, g2, g3⟩ := refuse_ok h (f := 2) (by decide)
          refine ⟨-3, x1, y1, ?_, ?_, g3⟩
          · unfold f_X5_copy_J92; rw [show f_X5_refuse x 2 = some (-3, x1) from g1]; rfl
          · unfold f_X6_copy_J95; rw [show f_X6_meets y 2 = some (-3, y1) from g2]; rfl
        rcases size_cases h.2.1 hr with ⟨e1, e2⟩ | ⟨k, hk, e1, e2⟩
        · rw [if_pos e2, e1, ob_some, if_neg (show ¬ (1 : Int32) = 0 by decide), if_pos (show (-1 : Int32) < 0 by decide)]
          exact fin1
        · rw [if_neg (show ¬ sh_sizes (ww_rows x) r = -1 by rw [e2]; exact nI_ne_m1 (by omega)), e1, ob_some, if_pos (show (0 : Int32) = 0 from rfl), if_neg (nI_pos (by omega))]
          rcases size_cases h.2.1 ht with ⟨f1, f2⟩ | ⟨q, hq, f1, f2⟩
          · rw [if_pos f2, f1, ob_some, if_neg (show ¬ (1 : Int32) = 0 by decide), if_neg (show ¬ (0 : Int32) ≤ -1 by decide)]
            exact fin1
          · rw [if_neg (show ¬ sh_sizes (ww_rows x) t = -1 by rw [f2]; exact nI_ne_m1 (by omega)), f1, ob_some, if_pos (show (0 : Int32) = 0 from rfl), if_pos (nI_pos' (by omega))]
            by_cases a1 : v1 < 0
            · rw [part_bad hr e2 hk hm (Or.inl a1), if_pos a1, ob_some, if_pos (show (0 : Int32) = 0 from rfl)]
              exact fin2
            · rw [if_neg a1]
              by_cases a3 : (k : Int) < v1.toInt + m
              · rw [part_bad hr e2 hk hm (Or.inr a3), ob_some, if_pos (show (0 : Int32) = 0 from rfl)]
                by_cases a2 : v3 < 0
                · rw [if_pos a2]; exact fin2
                · rw [if_neg a2, gd_b hr (by decide), if_pos ((lg_cmp_gt _ _).mpr ((lcm_lt hk hm).mpr a3))]
                  exact fin2
              · obtain ⟨i, hi, rfl⟩ := nI_of (x := v1) a1
                rw [nI_toInt hi] at a3
                rw [part_good hr e2 hk (by omega), ob_some, if_neg (show ¬ (1 : Int32) = 0 by decide)]
                by_cases a2 : v3 < 0
                · rw [part_bad ht f2 hq hm (Or.inl a2), if_pos a2, ob_some, if_pos (show (0 : Int32) = 0 from rfl)]
                  exact fin2
                · rw [if_neg a2, gd_b hr (by decide), if_neg (fun z => by have := (lcm_lt hk hm).mp ((lg_cmp_gt _ _).mp z); rw [nI_toInt hi] at this; omega), gd_b ht (by decide)]
                  by_cases a4 : (q : Int) < v3.toInt + m
                  · rw [part_bad ht f2 hq hm (Or.inr a4), ob_some, if_pos (show (0 : Int32) = 0 from rfl), if_neg (fun z => by have := (lcm_le hq hm).mp ((lg_cmp_le _ _).mp z); omega)]
                    exact fin2
                  · obtain ⟨j, hj, rfl⟩ := nI_of (x := v3) a2
                    rw [nI_toInt hj] at a4
                    obtain ⟨C, P, c1, c2, c3⟩ := mcopy_ok (y := y) (r := r) (t := t) (i := i) (j := j) (m := m) hr ht (by omega) (by omega)
                    rw [part_good ht f2 hq (by omega), ob_some, if_neg (show ¬ (1 : Int32) = 0 by decide), if_pos ((lg_cmp_le _ _).mpr ((lcm_le hq hm).mpr (by rw [nI_toInt hj]; omega)))]
                    obtain ⟨hT, hR, hX, hW⟩ := h
                    refine ⟨1, ww_set_rows x (sh_set_places (ww_rows x) (updA (sh_places (ww_rows x)) t (acpy (sh_places (ww_rows x) r) (sh_places (ww_rows x) t) (nI i) (nI j) (nI m)))), md_set_rows (md_set_copied y C) P, ?_, c1, hT, ?_, hX, hW⟩
                    · unfold f_X3_move
                      rw [gd_b hr (by decide), gd_b ht (by decide), gd_t (cpyok_n hi hj hm (by omega) (by omega)), ix_n (j := r) (by omega), ix_n (j := t) (by omega)]
                      rfl
                    · exact RS_move hR hr (by omega) (by omega) c2 c3
      · rw [if_neg h5, if_neg h5]
        obtain ⟨x1, y1, g1, g2, g3⟩ := refuse_ok h (f := 5) (by decide)
        refine ⟨-3, x1, y1, ?_, ?_, g3⟩
        · rw [show f_X5_refuse x 5 = some (-3, x1) from g1]; rfl
        · rw [show f_X6_meets y 5 = some (-3, y1) from g2]; rfl
/-! mean -/
def sumL (f : Nat → Int32) : Nat → Int64
  | 0 => 0
  | k + 1 => sumL f k + (f k).toInt64
theorem sumL_congr {f g : Nat → Int32} {k : Nat} (h : ∀ i, i < k → f i = g i) : sumL f k = sumL g k := by
  induction k with
  | zero => rfl
  | succ k ih =>
    show sumL f k + (f k).toInt64 = sumL g k + (g k).toInt64
    rw [ih (fun i hi => h i (by omega)), h k (by omega)]
theorem csum_ok {w : Sh} {r k : Nat} (hr : r < 6) (e : sh_sizes w r = nI k) (hk : k ≤ 40) : f_X3_sum 6 40 w (nI r) = some (sumL (sh_places w r) k) := by
  unfold f_X3_sum
  refine lp_for0 (fun q => (sumL (sh_places w r) q, nI q)) k (fun q hq => ?_) ?_ rfl (by show k < 100000; omega)
  · show f_X3_sum_B5 6 40 w (nI r) (sumL (sh_places w r) q) (nI q) = _
    unfold f_X3_sum_B5
    rw [gd_b hr (by decide), ix_n (j := r) (by omega), e, if_neg (nI_ge hq (by omega)), gd_b hr (by decide), gd_b (by omega) (by decide), ix_n (by omega), nm_eq, nI_1]
    rfl
  · show f_X3_sum_B5 6 40 w (nI r) (sumL (sh_places w r) k) (nI k) = _
    unfold f_X3_sum_B5
    rw [gd_b hr (by decide), ix_n (j := r) (by omega), e, if_pos (nI_le (Nat.le_refl _) (by omega))]; rfl
theorem gdL {k : Nat} (h0 : 0 < k) (hk : k < 2 ^ 63) : decide (¬ lN k = 0) = true := by
  have : ¬ lN k = lN 0 := fun e => by have := (pk_lEQ hk (by decide)).mp e; omega
  exact decide_eq_true (show ¬ lN k = 0 from this)
theorem s_mean : S_mean Rel := by
  intro x y h v
  unfold f_X5_mean f_X6_mean
  rcases num_cases v 6 (by decide) with hb | ⟨r, hr, rfl⟩
  · rw [miss_bad hb, isRow_bad hb]
    exact ⟨-1, x, y, rfl, rfl, h⟩
  · rw [miss_in hr, isRow_in hr, ob_some, if_neg (show ¬ (1 : Int32) = 0 by decide), gd_b hr (by decide), gd_b hr (by decide), ix_n (j := r) (by omega)]
    rcases size_cases h.2.1 hr with ⟨e1, e2⟩ | ⟨k, hk, e1, e2⟩
    · obtain ⟨x1, y1, g1, g2, g3⟩ := refuse_ok h (f := 1) (by decide)
      refine ⟨-3, x1, y1, ?_, ?_, g3⟩
      · rw [if_pos e2, show f_X5_refuse x 1 = some (-3, x1) from g1]; rfl
      · rw [e1, if_neg (by decide), show f_X6_meets y 1 = some (-3, y1) from g2]; rfl
    · rw [if_neg (show ¬ sh_sizes (ww_rows x) r = -1 by rw [e2]; exact nI_ne_m1 (by omega)), e1, if_pos (nI_pos' (by omega)), ob_some, if_pos (show ((0 : Int32), x).1 = 0 from rfl)]
      dsimp only
      unfold f_X3_sizeOf
      rw [gd_b hr (by decide), ix_n (j := r) (by omega), e2, ob_some]
      by_cases h0 : k = 0
      · subst h0
        obtain ⟨x1, y1, g1, g2, g3⟩ := refuse_ok h (f := 4) (by decide)
        refine ⟨-3, x1, y1, ?_, ?_, g3⟩
        · rw [if_neg (show ¬ (0 : Int32) < nI 0 by decide), show f_X5_refuse x 4 = some (-3, x1) from g1]; rfl
        · rw [if_pos (show nI 0 = 0 from nI_0), show f_X6_meets y 4 = some (-3, y1) from g2]; rfl
      · have hsum : sumL (sh_places (ww_rows x) r) k = sumL (fun i => md_rows y (40 * r + i)) k := sumL_congr (fun i hi => (h.2.1.2 r hr).2.2 i (by omega))
        rw [if_pos (show (0 : Int32) < nI k from nI_lt (a := 0) (by omega) (by omega)), if_neg (nI_ne0 (by omega) (by omega)), csum_ok hr e2 hk, ob_some, nI_l (by omega), gd_t (gdL (by omega) (by omega)), hsum]
        refine ⟨1, ww_set_askedLast x ((sumL (fun i => md_rows y (40 * r + i)) k / lN k).toInt32), md_set_told y ((sumL (fun i => md_rows y (40 * r + i)) k / lN k).toInt32), rfl, ?_, ?_⟩
        · refine lp_for0 (fun q => (sumL (fun i => md_rows y (40 * r + i)) q, nI q)) k (fun q hq => ?_) ?_ rfl (by show k < 100000; omega)
          · show f_X6_mean_B44 y (nI r) (sumL (fun i => md_rows y (40 * r + i)) q) (nI q) = _
            unfold f_X6_mean_B44
            rw [gd_b hr (by decide), ix_n (j := r) (by omega), e1, if_neg (nI_ge hq (by omega)), rowAt_ok hr (by omega), ob_some, nI_1]
            rfl
          · show f_X6_mean_B44 y (nI r) (sumL (fun i => md_rows y (40 * r + i)) k) (nI k) = _
            unfold f_X6_mean_B44 f_X6_mean_J72
            rw [gd_b hr (by decide), ix_n (j := r) (by omega), e1, if_pos (nI_le (Nat.le_refl _) (by omega)), gd_b hr (by decide), nI_l (by omega), gd_t (gdL (by omega) (by omega))]
            rfl
        · exact relC h rfl
