theorem s_asked : S_asked Rel := fun x y h => ⟨_, rfl, by show some (md_told y) = _; rw [h.1.1], h⟩
theorem s_upper : S_upper Rel := fun x y h => ⟨_, rfl, by show some (md_above y) = _; rw [h.1.2.1], h⟩
theorem s_lower : S_lower Rel := fun x y h => ⟨_, rfl, by show some (md_below y) = _; rw [h.1.2.2.1], h⟩
theorem s_finding : S_finding Rel := fun x y h => ⟨_, rfl, by show some (md_latest y) = _; rw [h.1.2.2.2.1], h⟩
/-- refusals -/
theorem refuse_ok {x : Ww} {y : Md} (h : Rel x y) {f : Nat} (hf : f < 6) : ∃ (x1 : Ww) (y1 : Md), f_X5_refuse x (nI f) = some (-3, x1) ∧ f_X6_meets y (nI f) = some (-3, y1) ∧ Rel x1 y1 := by
  have hb : inb (nI f) 6 = true := inb_n hf (by decide)
  have hx : ix (nI f) = f := ix_n (by omega)
  refine ⟨ww_set_findingLast (ww_set_tallies x (upd (ww_tallies x) f (ww_tallies x f + 1))) (nI f), md_set_came (md_set_latest y (nI f)) (upd (md_came y) f (md_came y f + 1)), ?_, ?_, ?_⟩
  · unfold f_X5_refuse
    rw [gd_t hb, gd_t hb, hx]
  · unfold f_X6_meets
    rw [gd_t hb, gd_t hb, hx]
  · obtain ⟨⟨h1, h2, h3, h4, h5, h6⟩, hR, hT, hW⟩ := h
    refine ⟨⟨h1, h2, h3, rfl, fun k hk => ?_, h6⟩, hR, hT, hW⟩
    show upd (ww_tallies x) f (ww_tallies x f + 1) k = upd (md_came y) f (md_came y f + 1) k
    by_cases e : k = f
    · subst e; rw [upd_s, upd_s, h5 k hk]
    · rw [upd_n e, upd_n e, h5 k hk]
