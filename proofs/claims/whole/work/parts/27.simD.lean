theorem updA_s {f : Nat → Ar} {k : Nat} {g : Ar} : updA f k g k = g := if_pos rfl
theorem updA_n {f : Nat → Ar} {k j : Nat} {g : Ar} (h : j ≠ k) : updA f k g j = f j := if_neg h
/-- one place of a row is changed on both sides -/
theorem RS_lay {n m : Nat} {w : Sh} {sz pl : Ar} (h : RS n m w sz pl) {r i : Nat} (hi : i < m) (v : Int32) : RS n m (sh_set_places w (updA (sh_places w) r (upd (sh_places w r) i v))) sz (upd pl (m * r + i) v) := by
  refine ⟨h.1, fun q hq => ?_⟩
  obtain ⟨a1, a2, a3⟩ := h.2 q hq
  refine ⟨a1, a2, fun j hj => ?_⟩
  show updA (sh_places w) r (upd (sh_places w r) i v) q j = upd pl (m * r + i) v (m * q + j)
  by_cases e : q = r
  · subst e
    rw [updA_s]
    by_cases e2 : j = i
    · subst e2; rw [upd_s, upd_s]
    · rw [upd_n e2, upd_n (by omega)]; exact a3 j hj
  · rw [updA_n e, upd_n ?_]
    · exact a3 j hj
    · intro e3
      rcases Nat.lt_or_gt_of_ne e with hlt | hlt
      · have h1 : m * q + m ≤ m * r := by rw [← Nat.mul_succ]; exact Nat.mul_le_mul_left m hlt
        omega
      · have h1 : m * r + m ≤ m * q := by rw [← Nat.mul_succ]; exact Nat.mul_le_mul_left m hlt
        omega
theorem s_lay : S_lay Rel := by
  intro x y h v u t
  rcases num_cases v 6 (by decide) with hb | ⟨r, hr, rfl⟩
  · refine ⟨-1, x, y, ?_, ?_, h⟩
    · unfold f_X5_lay f_X5_refusePlace_rows; rw [miss_bad hb]; rfl
    · unfold f_X6_lay; rw [isRow_bad hb]; rfl
  · unfold f_X5_lay f_X5_refusePlace_rows f_X6_lay
    rw [miss_in hr, isRow_in hr]
    rcases size_cases h.2.1 hr with ⟨e1, e2⟩ | ⟨k, hk, e1, e2⟩
    · obtain ⟨x1, y1, g1, g2, g3⟩ := refuse_ok h (f := 1) (by decide)
      refine ⟨-3, x1, y1, ?_, ?_, g3⟩
      · rw [if_pos e2, show f_X5_refuse x 1 = some (-3, x1) from g1]; rfl
      · show gd (inb (nI r) 6) _ = _
        rw [gd_t (inb_n hr (by decide)), ix_n (by omega), e1, if_neg (by decide), show f_X6_meets y 1 = some (-3, y1) from g2]; rfl
    · rw [if_neg (show ¬ sh_sizes (ww_rows x) r = -1 by rw [e2]; exact nI_ne_m1 (by omega))]
      rcases num_cases u k (by omega) with hb | ⟨i, hi, rfl⟩
      · obtain ⟨x1, y1, g1, g2, g3⟩ := refuse_ok h (f := 2) (by decide)
        refine ⟨-3, x1, y1, ?_, ?_, g3⟩
        · show Option.bind (Option.bind (f_X3_isPlace 6 40 (ww_rows x) (nI r) u) _) _ = _
          rw [place_bad hr (by decide) e2 hb]
          show Option.bind (Option.bind (f_X5_refuse x 2) _) _ = _
          rw [show f_X5_refuse x 2 = some (-3, x1) from g1]; rfl
        · show gd (inb (nI r) 6) _ = _
          rw [gd_t (inb_n hr (by decide)), ix_n (by omega), e1, if_pos (nI_pos' (by omega)), gd_t (inb_n hr (by decide)), in_bad (by omega) hb]
          show Option.bind (f_X6_meets y 2) _ = _
          rw [show f_X6_meets y 2 = some (-3, y1) from g2]; rfl
      · have ha := (h.2.1.2 r hr).2.2 i (by omega)
        obtain ⟨j1, j2⟩ := idx_n (m := 40) (r := r) (i := i) (N := 240) (by omega) (by decide)
        refine ⟨1, ww_set_askedLast (ww_set_rows x (sh_set_places (ww_rows x) (updA (sh_places (ww_rows x)) r (upd (sh_places (ww_rows x) r) i t)))) (sh_places (ww_rows x) r i), md_set_told (md_set_rows y (upd (md_rows y) (40 * r + i) t)) (md_rows y (40 * r + i)), ?_, ?_, ?_⟩
        · show Option.bind (Option.bind (f_X3_isPlace 6 40 (ww_rows x) (nI r) (nI i)) _) _ = _
          rw [place_good hr (by decide) e2 hi (by omega)]
          show Option.bind (f_X3_set 6 40 (ww_rows x) (nI r) (nI i) t) _ = _
          unfold f_X3_set
          rw [gd_t (inb_n hr (by decide)), gd_t (inb_n (show i < 40 by omega) (by decide))]
          show Option.bind (gd (inb (nI r) 6) (gd (inb (nI i) 40) _)) _ = _
          rw [gd_t (inb_n hr (by decide)), gd_t (inb_n (show i < 40 by omega) (by decide)), ix_n (by omega), ix_n (by omega)]; rfl
        · show gd (inb (nI r) 6) _ = _
          rw [gd_t (inb_n hr (by decide)), ix_n (by omega), e1, if_pos (nI_pos' (by omega)), gd_t (inb_n hr (by decide)), in_good (by omega) hi]
          show Option.bind (f_X6_rowAt y (nI r) (nI i)) _ = _
          rw [rowAt_ok hr (by omega)]
          show gd (inb ((40 : Int32) * nI r + nI i) 240) _ = _
          rw [gd_t (show inb ((40 : Int32) * nI r + nI i) 240 = true from j1), show ix ((40 : Int32) * nI r + nI i) = 40 * r + i from j2]; rfl
        · obtain ⟨⟨t1, t2⟩, hR, hX, hW⟩ := h
          exact ⟨⟨ha, t2⟩, RS_lay hR (by omega) t, hX, hW⟩
theorem s_findings : S_findings Rel := by
  intro x y h v
  rcases num_cases v 6 (by decide) with hb | ⟨r, hr, rfl⟩
  · refine ⟨-1, ?_, ?_, h⟩
    · unfold f_X5_findings f_X5_findings_J10
      rcases hb with hb | hb
      · rw [if_pos (show v < 1 by rw [Int32.lt_iff_toInt_lt] at hb ⊢; have e0 : (0 : Int32).toInt = 0 := by decide
                                  have e1 : (1 : Int32).toInt = 1 := by decide
                                  omega)]
      · have h5 := lt_of_nle (n := 5) (by decide) hb
        by_cases h1 : v < 1
        · rw [if_pos h1]
        · rw [if_neg h1, if_neg (show ¬ v ≤ 5 from fun z => absurd h5 (Int32.not_lt.mpr z))]
    · unfold f_X6_findings
      rw [in_ok]
      rcases hb with hb | hb
      · rw [if_pos (show v < 1 by rw [Int32.lt_iff_toInt_lt] at hb ⊢; have e0 : (0 : Int32).toInt = 0 := by decide
                                  have e1 : (1 : Int32).toInt = 1 := by decide
                                  omega)]; rfl
      · have h5 : (5 : Int32) < v := lt_of_nle (n := 5) (by decide) hb
        by_cases h1 : v < 1
        · rw [if_pos h1]; rfl
        · rw [if_neg h1, if_pos h5]; rfl
  · have h5 := h.1.2.2.2.2.1 r hr
    match r, hr, h5 with
    | 0, _, _ => exact ⟨-1, rfl, rfl, h⟩
    | 1, _, e => exact ⟨ww_tallies x 1, rfl, by rw [e]; rfl, h⟩
    | 2, _, e => exact ⟨ww_tallies x 2, rfl, by rw [e]; rfl, h⟩
    | 3, _, e => exact ⟨ww_tallies x 3, rfl, by rw [e]; rfl, h⟩
    | 4, _, e => exact ⟨ww_tallies x 4, rfl, by rw [e]; rfl, h⟩
    | 5, _, e => exact ⟨ww_tallies x 5, rfl, by rw [e]; rfl, h⟩
    | k + 6, h9, _ => exact absurd h9 (by omega)
