theorem isText_bad {x : Int32} (h : x < 0 ∨ nI 4 ≤ x) : f_X6_isText x = some 0 := by
  unfold f_X6_isText
  rw [in_ok]
  by_cases h0 : x < 0
  · rw [if_pos h0]; rfl
  · rw [if_neg h0, if_pos (show (3 : Int32) < x from lt_of_nle (n := 3) (by decide) (h.resolve_left h0))]; rfl
theorem isText_in {j : Nat} (hj : j < 4) : f_X6_isText (nI j) = some 1 := by
  match j, hj with
  | 0, _ => rfl
  | 1, _ => rfl
  | 2, _ => rfl
  | 3, _ => rfl
  | k + 4, h => exact absurd h (by omega)
theorem tmiss_bad {x : Ww} {v : Int32} (h : v < 0 ∨ nI 4 ≤ v) : f_X5_refuseMissing_texts x v = some (-1, x) := by
  unfold f_X5_refuseMissing_texts
  rw [isNumber_bad h]
  rfl
theorem tmiss_in {x : Ww} {r : Nat} (hr : r < 4) : f_X5_refuseMissing_texts x (nI r) = if sh_sizes (ww_texts x) r = -1 then f_X5_refuse x 1 else some (0, x) := by
  unfold f_X5_refuseMissing_texts
  rw [isNumber_in hr (by decide)]
  show Option.bind (f_X3_isMissing 4 60 (ww_texts x) (nI r)) _ = _
  unfold f_X3_isMissing
  rw [gd_t (inb_n hr (by decide)), ix_n (by omega)]
  by_cases h : sh_sizes (ww_texts x) r = -1
  · rw [if_pos h, if_pos h]
    exact bind_eta (f_X5_refuse x 1)
  · rw [if_neg h, if_neg h]
    rfl
/-- the reference's loop that makes a row anew -/
def textFill (pl : Ar) (o k : Nat) : Ar := fun q => if o ≤ q ∧ q < o + k then 32 else pl q
theorem textFill_s {pl : Ar} {o k : Nat} : upd (textFill pl o k) (o + k) 32 = textFill pl o (k + 1) := by
  funext q
  by_cases e : q = o + k
  · subst e; rw [upd_s]; unfold textFill; rw [if_pos (by omega)]
  · rw [upd_n e]
    unfold textFill
    by_cases h : o ≤ q ∧ q < o + k
    · rw [if_pos h, if_pos (by omega)]
    · rw [if_neg h, if_neg (by omega)]
theorem textLoop_ok {y : Md} {r : Nat} (hr : r < 4) (x2 : Int32) : lp (f_X6_text_L34 (nI r) x2) fuel (0, y) = some (x2, md_set_bytes y (textFill (md_bytes y) (60 * r) 60)) := by
  refine lp_for0 (fun k => (nI k, md_set_bytes y (textFill (md_bytes y) (60 * r) k))) 60 (fun k hk => ?_) ?_ ?_ (by decide)
  · obtain ⟨j1, j2⟩ := idx_n (m := 60) (r := r) (i := k) (N := 480) (by omega) (by decide)
    show f_X6_text_B34 (nI r) x2 (nI k) (md_set_bytes y (textFill (md_bytes y) (60 * r) k)) = _
    unfold f_X6_text_B34
    rw [if_neg (show ¬ (60 : Int32) ≤ nI k from nI_ge hk (by decide)), gd_t (show inb ((60 : Int32) * nI r + nI k) 480 = true from j1), show ix ((60 : Int32) * nI r + nI k) = 60 * r + k from j2, nI_1]
    show some (Sum.inl (nI (k + 1), md_set_bytes y (upd (textFill (md_bytes y) (60 * r) k) (60 * r + k) 32))) = _
    rw [textFill_s]
  · show f_X6_text_B34 (nI r) x2 (nI 60) (md_set_bytes y (textFill (md_bytes y) (60 * r) 60)) = _
    unfold f_X6_text_B34
    rw [if_pos (show (60 : Int32) ≤ nI 60 by decide)]
    rfl
  · have e : textFill (md_bytes y) (60 * r) 0 = md_bytes y := by
      funext q
      unfold textFill
      rw [if_neg (by omega)]
    show ((0 : Int32), y) = (nI 0, md_set_bytes y (textFill (md_bytes y) (60 * r) 0))
    rw [e, nI_0]
    rfl
theorem s_text : S_text Rel := by
  intro x y h v u
  have hm : sh_most (ww_texts x) = 60 := h.2.2.1.1
  unfold f_X5_text f_X6_text f_X5_makeAnew_texts
  rcases num_cases v 4 (by decide) with hb | ⟨r, hr, rfl⟩
  · refine ⟨-1, x, y, ?_, ?_, h⟩
    · rw [isNumber_bad hb]; rfl
    · rw [isText_bad hb]; rfl
  · rw [isNumber_in hr (by decide), isText_in hr]
    show ∃ r1 x1 y1, Option.bind (if u ≤ sh_most (ww_texts x) then _ else _) _ = some (r1, x1) ∧ (if u ≤ (60 : Int32) then _ else _) = some (r1, y1) ∧ Rel x1 y1
    rw [hm]
    by_cases h1 : u ≤ (60 : Int32)
    · rw [if_pos h1, if_pos h1]
      by_cases h0 : (0 : Int32) ≤ u
      · rw [if_pos h0, if_pos h0]
        obtain ⟨k, hk, rfl⟩ := nI_of2 (x := u) (M := 60) (n := 60) (by decide) (Int32.not_lt.mpr h0) h1
        obtain ⟨g, e1, e2, -⟩ := fill_ok (n := 60) (by decide) (sh_places (ww_texts x) r) 32
        refine ⟨nI k, ww_set_texts x (sh_set_sizes (sh_set_places (ww_texts x) (updA (sh_places (ww_texts x)) r g)) (upd (sh_sizes (ww_texts x)) r (nI k))), md_set_bytes (md_set_textSizes y (upd (md_textSizes y) r (nI k))) (textFill (md_bytes y) (60 * r) 60), ?_, ?_, ?_⟩
        · unfold f_X3_makeOne
          rw [gd_t (inb_n hr (by decide)), gd_t (inb_n hr (by decide)), ix_n (by omega), e1]; rfl
        · rw [gd_t (inb_n hr (by decide)), ix_n (by omega)]
          exact textLoop_ok (y := md_set_textSizes y (upd (md_textSizes y) r (nI k))) hr (nI k)
        · obtain ⟨hT, hR, hX, hW⟩ := h
          refine ⟨hT, hR, RS_new hX hk 32 e2 (fun j hj => ?_) (fun q hq => ?_), hW⟩
          · show textFill (md_bytes y) (60 * r) 60 (60 * r + j) = 32
            unfold textFill
            rw [if_pos (by omega)]
          · show textFill (md_bytes y) (60 * r) 60 q = md_bytes y q
            unfold textFill
            rw [if_neg (by omega)]
      · rw [if_neg h0, if_neg h0]
        obtain ⟨x1, y1, g1, g2, g3⟩ := refuse_ok h (f := 5) (by decide)
        refine ⟨-3, x1, y1, ?_, ?_, g3⟩
        · rw [show f_X5_refuse x 5 = some (-3, x1) from g1]; rfl
        · rw [show f_X6_meets y 5 = some (-3, y1) from g2]; rfl
    · rw [if_neg h1, if_neg h1]
      exact ⟨-1, x, y, rfl, rfl, h⟩
