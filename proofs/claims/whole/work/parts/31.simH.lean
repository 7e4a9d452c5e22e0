theorem s_put : S_put Rel := by
  intro x y h v u t
  rcases num_cases v 4 (by decide) with hb | ⟨r, hr, rfl⟩
  · refine ⟨-1, x, y, ?_, ?_, h⟩
    · unfold f_X5_put f_X5_refusePlace_texts; rw [tmiss_bad hb]; rfl
    · unfold f_X6_put; rw [isText_bad hb]; rfl
  · unfold f_X5_put f_X5_refusePlace_texts f_X6_put
    rw [tmiss_in hr, isText_in hr]
    rcases size_cases h.2.2.1 hr with ⟨e1, e2⟩ | ⟨k, hk, e1, e2⟩
    · obtain ⟨x1, y1, g1, g2, g3⟩ := refuse_ok h (f := 1) (by decide)
      refine ⟨-3, x1, y1, ?_, ?_, g3⟩
      · rw [if_pos e2, show f_X5_refuse x 1 = some (-3, x1) from g1]; rfl
      · show gd (inb (nI r) 4) _ = _
        rw [gd_t (inb_n hr (by decide)), ix_n (by omega), e1, if_neg (by decide), show f_X6_meets y 1 = some (-3, y1) from g2]; rfl
    · rw [if_neg (show ¬ sh_sizes (ww_texts x) r = -1 by rw [e2]; exact nI_ne_m1 (by omega))]
      rcases num_cases u k (by omega) with hb | ⟨i, hi, rfl⟩
      · obtain ⟨x1, y1, g1, g2, g3⟩ := refuse_ok h (f := 2) (by decide)
        refine ⟨-3, x1, y1, ?_, ?_, g3⟩
        · show Option.bind (Option.bind (f_X3_isPlace 4 60 (ww_texts x) (nI r) u) _) _ = _
          rw [place_bad hr (by decide) e2 hb]
          show Option.bind (Option.bind (f_X5_refuse x 2) _) _ = _
          rw [show f_X5_refuse x 2 = some (-3, x1) from g1]; rfl
        · show gd (inb (nI r) 4) _ = _
          rw [gd_t (inb_n hr (by decide)), ix_n (by omega), e1, if_pos (nI_pos' (by omega)), gd_t (inb_n hr (by decide)), in_bad (by omega) hb]
          show Option.bind (f_X6_meets y 2) _ = _
          rw [show f_X6_meets y 2 = some (-3, y1) from g2]; rfl
      · have ha := (h.2.2.1.2 r hr).2.2 i (by omega)
        obtain ⟨j1, j2⟩ := idx_n (m := 60) (r := r) (i := i) (N := 480) (by omega) (by decide)
        refine ⟨sh_places (ww_texts x) r i + 1000, ww_set_texts x (sh_set_places (ww_texts x) (updA (sh_places (ww_texts x)) r (upd (sh_places (ww_texts x) r) i t.toInt8.toInt32))), md_set_bytes y (upd (md_bytes y) (60 * r + i) t.toInt8.toInt32), ?_, ?_, ?_⟩
        · show Option.bind (Option.bind (f_X3_isPlace 4 60 (ww_texts x) (nI r) (nI i)) _) _ = _
          rw [place_good hr (by decide) e2 hi (by omega)]
          show Option.bind (f_X3_set 4 60 (ww_texts x) (nI r) (nI i) t.toInt8.toInt32) _ = _
          unfold f_X3_set
          rw [gd_t (inb_n hr (by decide)), gd_t (inb_n (show i < 60 by omega) (by decide))]
          show Option.bind (gd (inb (nI r) 4) (gd (inb (nI i) 60) _)) _ = _
          rw [gd_t (inb_n hr (by decide)), gd_t (inb_n (show i < 60 by omega) (by decide)), ix_n (by omega), ix_n (by omega)]; rfl
        · show gd (inb (nI r) 4) _ = _
          rw [gd_t (inb_n hr (by decide)), ix_n (by omega), e1, if_pos (nI_pos' (by omega)), gd_t (inb_n hr (by decide)), in_good (by omega) hi]
          show gd (inb ((60 : Int32) * nI r + nI i) 480) _ = _
          rw [gd_t (show inb ((60 : Int32) * nI r + nI i) 480 = true from j1)]
          show gd (inb ((60 : Int32) * nI r + nI i) 480) _ = _
          rw [gd_t (show inb ((60 : Int32) * nI r + nI i) 480 = true from j1), show ix ((60 : Int32) * nI r + nI i) = 60 * r + i from j2, ha, Int32.add_comm]
        · obtain ⟨hT, hR, hX, hW⟩ := h
          exact ⟨hT, hR, RS_lay hX (by omega) _, hW⟩
