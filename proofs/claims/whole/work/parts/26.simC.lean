theorem sub1_toInt {k : Nat} (hk : k < 2 ^ 30) : (nI k - 1).toInt = (k : Int) - 1 := pk_sub_toInt (b := 1) hk (by decide)
theorem in_bad {v : Int32} {k : Nat} (hk : k < 2 ^ 30) (h : v < 0 ∨ nI k ≤ v) : f_X6_in v 0 (nI k - 1) = some 0 := by
  rw [in_ok]
  by_cases h0 : v < 0
  · rw [if_pos h0]
  · have h1 := h.resolve_left h0
    rw [if_neg h0, if_pos]
    rw [Int32.lt_iff_toInt_lt, sub1_toInt hk]
    rw [Int32.le_iff_toInt_le, nI_toInt (by omega)] at h1
    omega
theorem in_good {i k : Nat} (hk : k < 2 ^ 30) (h : i < k) : f_X6_in (nI i) 0 (nI k - 1) = some 1 := by
  rw [in_ok, if_neg (nI_pos (by omega)), if_neg]
  rw [Int32.lt_iff_toInt_lt, sub1_toInt hk, nI_toInt (by omega)]
  omega
theorem place_bad {nr nc r : Nat} {w : Sh} {v : Int32} {k : Nat} (hr : r < nr) (hn : nr < 2 ^ 31) (e : sh_sizes w r = nI k) (h : v < 0 ∨ nI k ≤ v) : f_X3_isPlace nr nc w (nI r) v = some 0 := by
  unfold f_X3_isPlace
  by_cases h0 : v < 0
  · rw [if_pos h0]
  · rw [if_neg h0, gd_t (inb_n hr hn), ix_n (by omega), e, if_pos (h.resolve_left h0)]
theorem place_good {nr nc r : Nat} {w : Sh} {i k : Nat} (hr : r < nr) (hn : nr < 2 ^ 31) (e : sh_sizes w r = nI k) (h : i < k) (hk : k < 2 ^ 31) : f_X3_isPlace nr nc w (nI r) (nI i) = some 1 := by
  unfold f_X3_isPlace
  rw [if_neg (nI_pos (by omega)), gd_t (inb_n hr hn), ix_n (by omega), e, if_neg (nI_ge h hk)]
theorem idx_n {m r i N : Nat} (h : m * r + i < N) (hN : N < 2 ^ 31) : inb (nI m * nI r + nI i) N = true ∧ ix (nI m * nI r + nI i) = m * r + i := by
  rw [pk_mul, nI_add]
  exact ⟨inb_n h hN, ix_n (by omega)⟩
theorem rowAt_ok {y : Md} {r i : Nat} (hr : r < 6) (hi : i < 40) : f_X6_rowAt y (nI r) (nI i) = some (md_rows y (40 * r + i)) := by
  obtain ⟨h1, h2⟩ := idx_n (m := 40) (r := r) (i := i) (N := 240) (by omega) (by decide)
  unfold f_X6_rowAt
  rw [gd_t (show inb ((40 : Int32) * nI r + nI i) 240 = true from h1), show ix ((40 : Int32) * nI r + nI i) = 40 * r + i from h2]
theorem s_at : S_at Rel := by
  intro x y h v u
  rcases num_cases v 6 (by decide) with hb | ⟨r, hr, rfl⟩
  · refine ⟨-1, x, y, ?_, ?_, h⟩
    · unfold f_X5_at f_X5_refusePlace_rows; rw [miss_bad hb]; rfl
    · unfold f_X6_at; rw [isRow_bad hb]; rfl
  · unfold f_X5_at f_X5_refusePlace_rows f_X6_at
    rw [miss_in hr, isRow_in hr]
    rcases size_cases h.2.1 hr with ⟨e1, e2⟩ | ⟨k, hk, e1, e2⟩
    · obtain ⟨x1, y1, g1, g2, g3⟩ := refuse_ok h (f := 1) (by decide)
      refine ⟨-3, x1, y1, ?_, ?_, g3⟩
      · rw [if_pos e2, show f_X5_refuse x 1 = some (-3, x1) from g1]; rfl
      · show gd (inb (nI r) 6) _ = _
        rw [gd_t (inb_n hr (by decide)), ix_n (by omega), e1, if_neg (by decide), show f_X6_meets y 1 = some (-3, y1) from g2]; rfl
    · rw [if_neg (show ¬ sh_sizes (ww_rows x) r = -1 by rw [e2]; exact nI_ne_m1 (by omega))]
      rcases num_cases u k (by omega) with hb | ⟨i, hi, rfl⟩
      · obtain ⟨x1, y1, g1, g2, g3⟩ := refuse_ok h (f := 2) (by decide)
        refine ⟨-3, x1, y1, ?_, ?_, g3⟩
        · show Option.bind (Option.bind (f_X3_isPlace 6 40 (ww_rows x) (nI r) u) _) _ = _
          rw [place_bad hr (by decide) e2 hb]
          show Option.bind (Option.bind (f_X5_refuse x 2) _) _ = _
          rw [show f_X5_refuse x 2 = some (-3, x1) from g1]; rfl
        · show gd (inb (nI r) 6) _ = _
          rw [gd_t (inb_n hr (by decide)), ix_n (by omega), e1, if_pos (nI_pos' (by omega)), gd_t (inb_n hr (by decide)), in_bad (by omega) hb]
          show Option.bind (f_X6_meets y 2) _ = _
          rw [show f_X6_meets y 2 = some (-3, y1) from g2]; rfl
      · have ha := (h.2.1.2 r hr).2.2 i (by omega)
        refine ⟨1, ww_set_askedLast x (sh_places (ww_rows x) r i), md_set_told y (md_rows y (40 * r + i)), ?_, ?_, ?_⟩
        · show Option.bind (Option.bind (f_X3_isPlace 6 40 (ww_rows x) (nI r) (nI i)) _) _ = _
          rw [place_good hr (by decide) e2 hi (by omega)]
          show Option.bind (f_X3_get 6 40 (ww_rows x) (nI r) (nI i)) _ = _
          unfold f_X3_get
          rw [gd_t (inb_n hr (by decide)), gd_t (inb_n (show i < 40 by omega) (by decide)), ix_n (by omega), ix_n (by omega)]; rfl
        · show gd (inb (nI r) 6) _ = _
          rw [gd_t (inb_n hr (by decide)), ix_n (by omega), e1, if_pos (nI_pos' (by omega)), gd_t (inb_n hr (by decide)), in_good (by omega) hi]
          show Option.bind (f_X6_rowAt y (nI r) (nI i)) _ = _
          rw [rowAt_ok hr (by omega)]; rfl
        · obtain ⟨⟨t1, t2⟩, hR, hX, hW⟩ := h
          exact ⟨⟨ha, t2⟩, hR, hX, hW⟩
