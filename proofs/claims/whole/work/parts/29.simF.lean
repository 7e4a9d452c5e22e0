theorem s_row : S_row Rel := by
  intro x y h v u
  have hm : sh_most (ww_rows x) = 40 := h.2.1.1
  unfold f_X5_row f_X6_row f_X5_makeAnew_rows
  rcases num_cases v 6 (by decide) with hb | ⟨r, hr, rfl⟩
  · refine ⟨-1, x, y, ?_, ?_, h⟩
    · rw [isNumber_bad hb]; rfl
    · rw [isRow_bad hb]; rfl
  · rw [isNumber_in hr (by decide), isRow_in hr]
    show ∃ r1 x1 y1, Option.bind (if u ≤ sh_most (ww_rows x) then _ else _) _ = some (r1, x1) ∧ (if u ≤ (40 : Int32) then _ else _) = some (r1, y1) ∧ Rel x1 y1
    rw [hm]
    by_cases h1 : u ≤ (40 : Int32)
    · rw [if_pos h1, if_pos h1]
      by_cases h0 : (0 : Int32) ≤ u
      · rw [if_pos h0, if_pos h0]
        obtain ⟨k, hk, rfl⟩ := nI_of2 (x := u) (M := 40) (n := 40) (by decide) (Int32.not_lt.mpr h0) h1
        obtain ⟨g, e1, e2, -⟩ := fill_ok (n := 40) (by decide) (sh_places (ww_rows x) r) 0
        refine ⟨nI k, ww_set_rows x (sh_set_sizes (sh_set_places (ww_rows x) (updA (sh_places (ww_rows x)) r g)) (upd (sh_sizes (ww_rows x)) r (nI k))), md_set_rows (md_set_sizes y (upd (md_sizes y) r (nI k))) (rowFill (md_rows y) (40 * r) 40), ?_, ?_, ?_⟩
        · unfold f_X3_makeOne
          rw [gd_t (inb_n hr (by decide)), gd_t (inb_n hr (by decide)), ix_n (by omega), e1]; rfl
        · rw [gd_t (inb_n hr (by decide)), ix_n (by omega)]
          exact rowLoop_ok (y := md_set_sizes y (upd (md_sizes y) r (nI k))) hr (nI k)
        · obtain ⟨hT, hR, hX, hW⟩ := h
          refine ⟨hT, RS_new hR hk 0 e2 (fun j hj => ?_) (fun q hq => ?_), hX, hW⟩
          · show rowFill (md_rows y) (40 * r) 40 (40 * r + j) = 0
            unfold rowFill
            rw [if_pos (by omega)]
          · show rowFill (md_rows y) (40 * r) 40 q = md_rows y q
            unfold rowFill
            rw [if_neg (by omega)]
      · rw [if_neg h0, if_neg h0]
        obtain ⟨x1, y1, g1, g2, g3⟩ := refuse_ok h (f := 5) (by decide)
        refine ⟨-3, x1, y1, ?_, ?_, g3⟩
        · rw [show f_X5_refuse x 5 = some (-3, x1) from g1]; rfl
        · rw [show f_X6_meets y 5 = some (-3, y1) from g2]; rfl
    · rw [if_neg h1, if_neg h1]
      exact ⟨-1, x, y, rfl, rfl, h⟩
