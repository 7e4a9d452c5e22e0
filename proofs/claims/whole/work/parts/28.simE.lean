/-- a row (text) made anew on both sides -/
theorem RS_new {n m : Nat} {w : Sh} {sz pl : Ar} (h : RS n m w sz pl) {r k : Nat} (hk : k ≤ m) (v : Int32) {g pl1 : Ar} (hg : ∀ j, j < m → g j = v) (h1 : ∀ j, j < m → pl1 (m * r + j) = v) (h2 : ∀ q, (q < m * r ∨ m * r + m ≤ q) → pl1 q = pl q) : RS n m (sh_set_sizes (sh_set_places w (updA (sh_places w) r g)) (upd (sh_sizes w) r (nI k))) (upd sz r (nI k)) pl1 := by
  refine ⟨h.1, fun q hq => ?_⟩
  obtain ⟨a1, a2, a3⟩ := h.2 q hq
  show upd (sh_sizes w) r (nI k) q = upd sz r (nI k) q ∧ (upd sz r (nI k) q = -1 ∨ ∃ k1 : Nat, k1 ≤ m ∧ upd sz r (nI k) q = nI k1) ∧ ∀ i, i < m → updA (sh_places w) r g q i = pl1 (m * q + i)
  by_cases e : q = r
  · subst e
    rw [upd_s, upd_s, updA_s]
    exact ⟨rfl, Or.inr ⟨k, hk, rfl⟩, fun i hi => by rw [hg i hi, h1 i hi]⟩
  · rw [upd_n e, upd_n e, updA_n e]
    refine ⟨a1, a2, fun i hi => ?_⟩
    rw [h2 (m * q + i) ?_, a3 i hi]
    rcases Nat.lt_or_gt_of_ne e with hlt | hlt
    · have z : m * q + m ≤ m * r := by rw [← Nat.mul_succ]; exact Nat.mul_le_mul_left m hlt
      omega
    · have z : m * r + m ≤ m * q := by rw [← Nat.mul_succ]; exact Nat.mul_le_mul_left m hlt
      omega
/-- the reference's loop that makes a row anew -/
def rowFill (pl : Ar) (o k : Nat) : Ar := fun q => if o ≤ q ∧ q < o + k then 0 else pl q
theorem rowFill_s {pl : Ar} {o k : Nat} : upd (rowFill pl o k) (o + k) 0 = rowFill pl o (k + 1) := by
  funext q
  by_cases e : q = o + k
  · subst e; rw [upd_s]; unfold rowFill; rw [if_pos (by omega)]
  · rw [upd_n e]
    unfold rowFill
    by_cases h : o ≤ q ∧ q < o + k
    · rw [if_pos h, if_pos (by omega)]
    · rw [if_neg h, if_neg (by omega)]
theorem rowLoop_ok {y : Md} {r : Nat} (hr : r < 6) (x2 : Int32) : lp (f_X6_row_L34 (nI r) x2) fuel (0, y) = some (x2, md_set_rows y (rowFill (md_rows y) (40 * r) 40)) := by
  refine lp_for0 (fun k => (nI k, md_set_rows y (rowFill (md_rows y) (40 * r) k))) 40 (fun k hk => ?_) ?_ ?_ (by decide)
  · obtain ⟨j1, j2⟩ := idx_n (m := 40) (r := r) (i := k) (N := 240) (by omega) (by decide)
    show f_X6_row_B34 (nI r) x2 (nI k) (md_set_rows y (rowFill (md_rows y) (40 * r) k)) = _
    unfold f_X6_row_B34
    rw [if_neg (show ¬ (40 : Int32) ≤ nI k from nI_ge hk (by decide)), gd_t (show inb ((40 : Int32) * nI r + nI k) 240 = true from j1), show ix ((40 : Int32) * nI r + nI k) = 40 * r + k from j2, nI_1]
    show some (Sum.inl (nI (k + 1), md_set_rows y (upd (rowFill (md_rows y) (40 * r) k) (40 * r + k) 0))) = _
    rw [rowFill_s]
  · show f_X6_row_B34 (nI r) x2 (nI 40) (md_set_rows y (rowFill (md_rows y) (40 * r) 40)) = _
    unfold f_X6_row_B34
    rw [if_pos (show (40 : Int32) ≤ nI 40 by decide)]
    rfl
  · have e : rowFill (md_rows y) (40 * r) 0 = md_rows y := by
      funext q
      unfold rowFill
      rw [if_neg (by omega)]
    show ((0 : Int32), y) = (nI 0, md_set_rows y (rowFill (md_rows y) (40 * r) 0))
    rw [e, nI_0]
    rfl
