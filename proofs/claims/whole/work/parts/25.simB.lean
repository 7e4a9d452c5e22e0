theorem isNumber_bad {nr nc : Nat} {w : Sh} {x : Int32} (h : x < 0 ∨ nI nr ≤ x) : f_X3_isNumber nr nc w x = some 0 := by
  unfold f_X3_isNumber
  by_cases h0 : x < 0
  · rw [if_pos h0]
  · rw [if_neg h0, if_pos (show Int32.ofNat nr ≤ x from h.resolve_left h0)]
theorem isNumber_in {nr nc : Nat} {w : Sh} {j : Nat} (hj : j < nr) (hn : nr < 2 ^ 31) : f_X3_isNumber nr nc w (nI j) = some 1 := by
  unfold f_X3_isNumber
  rw [if_neg (nI_pos (by omega)), if_neg (show ¬ Int32.ofNat nr ≤ nI j from nI_ge hj hn)]
theorem in_ok {x a b : Int32} : f_X6_in x a b = some (if x < a then 0 else if b < x then 0 else 1) := by
  unfold f_X6_in
  by_cases h : x < a
  · rw [if_pos h, if_pos h]
  · rw [if_neg h, if_neg h]
    by_cases h2 : b < x
    · rw [if_pos h2, if_pos h2]
    · rw [if_neg h2, if_neg h2]
theorem lt_of_nle {x : Int32} {n : Nat} (hn : n + 1 < 2 ^ 31) (h : nI (n + 1) ≤ x) : nI n < x := by
  rw [Int32.lt_iff_toInt_lt]
  rw [Int32.le_iff_toInt_le] at h
  rw [nI_toInt (by omega)] at h ⊢
  omega
theorem isRow_bad {x : Int32} (h : x < 0 ∨ nI 6 ≤ x) : f_X6_isRow x = some 0 := by
  unfold f_X6_isRow
  rw [in_ok]
  by_cases h0 : x < 0
  · rw [if_pos h0]; rfl
  · rw [if_neg h0, if_pos (show (5 : Int32) < x from lt_of_nle (n := 5) (by decide) (h.resolve_left h0))]; rfl
theorem isRow_in {j : Nat} (hj : j < 6) : f_X6_isRow (nI j) = some 1 := by
  match j, hj with
  | 0, _ => rfl
  | 1, _ => rfl
  | 2, _ => rfl
  | 3, _ => rfl
  | 4, _ => rfl
  | 5, _ => rfl
  | k + 6, h => exact absurd h (by omega)
/-- what a row's number is -/
theorem num_cases (x : Int32) (n : Nat) (hn : n < 2 ^ 31) : (x < 0 ∨ nI n ≤ x) ∨ ∃ j : Nat, j < n ∧ x = nI j := by
  rcases pk_ix x hn with h | h | h
  · exact Or.inl (Or.inl h)
  · exact Or.inl (Or.inr h)
  · exact Or.inr h
theorem miss_bad {x : Ww} {v : Int32} (h : v < 0 ∨ nI 6 ≤ v) : f_X5_refuseMissing_rows x v = some (-1, x) := by
  unfold f_X5_refuseMissing_rows
  rw [isNumber_bad h]
  rfl
theorem bind_eta {α β : Type} (a : Option (α × β)) : Option.bind a (fun q => some (q.1, q.2)) = a := by cases a <;> rfl
theorem miss_in {x : Ww} {r : Nat} (hr : r < 6) : f_X5_refuseMissing_rows x (nI r) = if sh_sizes (ww_rows x) r = -1 then f_X5_refuse x 1 else some (0, x) := by
  unfold f_X5_refuseMissing_rows
  rw [isNumber_in hr (by decide)]
  show Option.bind (f_X3_isMissing 6 40 (ww_rows x) (nI r)) _ = _
  unfold f_X3_isMissing
  rw [gd_t (inb_n hr (by decide)), ix_n (by omega)]
  by_cases h : sh_sizes (ww_rows x) r = -1
  · rw [if_pos h, if_pos h]
    exact bind_eta (f_X5_refuse x 1)
  · rw [if_neg h, if_neg h]
    rfl
/-- a row's size: missing, or a number up to m -/
theorem size_cases {n m : Nat} {w : Sh} {sz pl : Ar} (h : RS n m w sz pl) {r : Nat} (hr : r < n) : (sz r = -1 ∧ sh_sizes w r = -1) ∨ ∃ k : Nat, k ≤ m ∧ sz r = nI k ∧ sh_sizes w r = nI k := by
  obtain ⟨h1, h2, -⟩ := h.2 r hr
  rcases h2 with e | ⟨k, hk, e⟩
  · exact Or.inl ⟨e, h1.trans e⟩
  · exact Or.inr ⟨k, hk, e, h1.trans e⟩
theorem nI_ne_m1 {k : Nat} (h : k < 2 ^ 31) : ¬ nI k = -1 := by
  intro e
  have h1 : (nI k).toInt = (-1 : Int32).toInt := by rw [e]
  rw [nI_toInt h] at h1
  have h2 : (-1 : Int32).toInt = -1 := by decide
  omega
theorem s_tear : S_tear Rel := by
  intro x y h v
  rcases num_cases v 6 (by decide) with hb | ⟨r, hr, rfl⟩
  · refine ⟨-1, x, y, ?_, ?_, h⟩
    · unfold f_X5_tear; rw [miss_bad hb]; rfl
    · unfold f_X6_tear; rw [isRow_bad hb]; rfl
  · unfold f_X5_tear f_X6_tear
    rw [miss_in hr, isRow_in hr]
    rcases size_cases h.2.1 hr with ⟨e1, e2⟩ | ⟨k, hk, e1, e2⟩
    · obtain ⟨x1, y1, g1, g2, g3⟩ := refuse_ok h (f := 1) (by decide)
      refine ⟨-3, x1, y1, ?_, ?_, g3⟩
      · rw [if_pos e2, show f_X5_refuse x 1 = some (-3, x1) from g1]; rfl
      · show gd (inb (nI r) 6) _ = _
        rw [gd_t (inb_n hr (by decide)), ix_n (by omega), e1, if_neg (by decide), show f_X6_meets y 1 = some (-3, y1) from g2]; rfl
    · refine ⟨1, ww_set_rows x (sh_set_sizes (ww_rows x) (upd (sh_sizes (ww_rows x)) r (-1))), md_set_sizes y (upd (md_sizes y) r (-1)), ?_, ?_, ?_⟩
      · rw [if_neg (by rw [e2]; exact nI_ne_m1 (by omega))]
        show Option.bind (f_X3_drop 6 40 (ww_rows x) (nI r)) _ = _
        unfold f_X3_drop
        rw [gd_t (inb_n hr (by decide)), ix_n (by omega)]; rfl
      · show gd (inb (nI r) 6) _ = _
        rw [gd_t (inb_n hr (by decide)), ix_n (by omega), e1, if_pos (nI_pos' (by omega)), gd_t (inb_n hr (by decide))]
      · obtain ⟨hT, hR, hX, hW⟩ := h
        refine ⟨hT, ⟨hR.1, fun q hq => ?_⟩, hX, hW⟩
        obtain ⟨a1, a2, a3⟩ := hR.2 q hq
        show upd (sh_sizes (ww_rows x)) r (-1) q = upd (md_sizes y) r (-1) q ∧ (upd (md_sizes y) r (-1) q = -1 ∨ ∃ k : Nat, k ≤ 40 ∧ upd (md_sizes y) r (-1) q = nI k) ∧ _
        by_cases e : q = r
        · subst e; rw [upd_s, upd_s]; exact ⟨rfl, Or.inl rfl, a3⟩
        · rw [upd_n e, upd_n e]; exact ⟨a1, a2, a3⟩
