/-! PURE SIDE: gone, strengths, kinds -/
def asN (c : Cfg) (d : Dyn) (b : Nat → Nat) (n : Nat) : Bool := (List.range n).all (fun k => lbN c (limN c false d k).2 == b k)
theorem as_succ (c : Cfg) (d : Dyn) (b : Nat → Nat) (k : Nat) : asN c d b (k + 1) = (asN c d b k && (lbN c (limN c false d k).2 == b k)) := by
  unfold asN
  rw [List.range_succ, List.all_append]
  simp
theorem as_no {c : Cfg} {d : Dyn} {b : Nat → Nat} {k n : Nat} (hk : k ≤ n) (h : asN c d b k = false) : asN c d b n = false := by
  obtain ⟨j, rfl⟩ : ∃ j, n = k + j := ⟨n - k, by omega⟩
  clear hk
  induction j with
  | zero => exact h
  | succ j ih =>
    show asN c d b (k + j + 1) = false
    rw [as_succ, ih]; rfl
theorem la26 {w : Wh} {f : Ar} {n k l m : Nat} (hk : k < 40) (hl : l ≤ 1) (hm : m ≤ 1) (hf : f k = nI m) : f_X4_limpsAs_J26 40 w f (nI n) (nI k) (nI l) = if l = m then some (Sum.inl (nI (k + 1), w)) else some (Sum.inr (0, w)) := by
  unfold f_X4_limpsAs_J26 f_X4_limpsAs_J42
  rw [gd_b hk (by decide), ix_n (by omega), hf, nI_1]
  rcases (by omega : l = 0 ∨ l = 1) with rfl | rfl <;> rcases (by omega : m = 0 ∨ m = 1) with rfl | rfl <;> rfl
theorem climpsAs_ok {w : Wh} {c : Cfg} {d : Dyn} (hW : RW w c d) (hC : okC c) (hD : okD c d) (h3 : 3 ≤ cN c) (hr : dRut d < 400) {f : Ar} {b : Nat → Nat} {n : Nat} (hn : n ≤ 20) (hb : ∀ k, k < n → f k = nI (b k) ∧ b k ≤ 1) : ∃ w1, f_X4_limpsAs 40 w f (nI n) = some (nI (if asN c d b n then 1 else 0), w1) := by
  have key : ∃ o, f_X4_limpsAs 40 w f (nI n) = some o ∧ ∃ w1, o = (nI (if asN c d b n then 1 else 0), w1) := by
    unfold f_X4_limpsAs
    refine lp_i (fun k s => ∃ w1, s = (nI k, w1) ∧ RW w1 c (limN c false d k).2 ∧ asN c d b k = true) _ n ⟨w, rfl, hW, rfl⟩ (by omega) ?_
    rintro k s hk ⟨w1, rfl, hW1, hA⟩
    obtain ⟨o1, o2, o3⟩ := lim_ok false hD h3 k
    show (_ ∧ ∃ t, f_X4_limpsAs_B2 40 f (nI n) (nI k) w1 = _ ∧ _) ∨ ∃ o, f_X4_limpsAs_B2 40 f (nI n) (nI k) w1 = _ ∧ _
    unfold f_X4_limpsAs_B2 f_X4_limpsAs_J25
    by_cases hkn : n ≤ k
    · right
      have e : k = n := by omega
      subst e
      rw [if_pos (nI_le (Nat.le_refl _) (by omega)), if_pos hA]
      exact ⟨_, rfl, w1, rfl⟩
    · obtain ⟨b1, b2⟩ := hb k (by omega)
      have hl := lb_le c (limN c false d k).2
      have hfin : ∀ w2 : Wh, RW w2 c (nxD c (limN c false d k).2) → (k < n ∧ ∃ t, f_X4_limpsAs_J26 40 w2 f (nI n) (nI k) (nI (lbN c (limN c false d k).2)) = some (Sum.inl t) ∧ ∃ w1, t = (nI (k + 1), w1) ∧ RW w1 c (limN c false d (k + 1)).2 ∧ asN c d b (k + 1) = true) ∨ ∃ o, f_X4_limpsAs_J26 40 w2 f (nI n) (nI k) (nI (lbN c (limN c false d k).2)) = some (Sum.inr o) ∧ ∃ w1, o = (nI (if asN c d b n then 1 else 0), w1) := by
        intro w2 hW2
        rw [la26 (by omega) hl b2 b1]
        by_cases e : lbN c (limN c false d k).2 = b k
        · left
          rw [if_pos e]
          refine ⟨by omega, _, rfl, w2, rfl, ?_, ?_⟩
          · rw [lim_split]; exact hW2
          · rw [as_succ, hA, e]; simp
        · right
          have hno : asN c d b n = false := as_no (k := k + 1) (by omega) (by rw [as_succ, hA]; simpa using e)
          rw [if_neg e, hno]
          exact ⟨_, rfl, w2, rfl⟩
      rw [if_neg (nI_ge (by omega) (by omega)), RW_over hW1 hC o1, ob_some]
      by_cases ho : overN (cN c) (dThere (limN c false d k).2) = true
      · have := hfin w1 (by rw [(lb_over ho).2]; exact hW1)
        rw [(lb_over ho).1] at this
        rw [if_pos ho, if_neg (show ¬ nI 1 = 0 by decide)]
        exact this
      · obtain ⟨w2, e2, hW2⟩ := roll_ok hW1 hC o1 h3 (by omega)
        have := hfin w2 (by rw [(lb_step ho).2]; exact hW2)
        rw [(lb_step ho).1] at this
        rw [if_neg ho, if_pos (show nI 0 = 0 from nI_0), e2, ob_some]
        dsimp only
        by_cases hs : (stepN c (limN c false d k).2).1 = true
        · rw [if_pos hs] at this ⊢
          rw [if_neg (show ¬ nI 1 = 0 by decide)]
          exact this
        · rw [if_neg hs] at this ⊢
          rw [if_pos (show nI 0 = 0 from nI_0)]
          exact this
  obtain ⟨o, e, w1, rfl⟩ := key
  exact ⟨w1, e⟩
theorem isSo_ok {y : Md} {c : Cfg} {d : Dyn} (hM : RM y c) {t0 : Ar} (hT : RT t0 0 d) (hC : okC c) (hD : okD c d) (h3 : 3 ≤ cN c) (hr : dRut d < 400) {b : Nat → Nat} {r n : Nat} (hr6 : r < 6) (hs : md_sizes y r = nI n) (hn : n ≤ 20) (hb : ∀ k, k < n → md_rows y (40 * r + k) = nI (b k) ∧ b k ≤ 1) : ∃ t, f_X6_isSo (md_set_tried y t0) (nI r) = some (nI (if asN c d b n then 1 else 0), md_set_tried y t) := by
  have key : ∃ o, f_X6_isSo (md_set_tried y t0) (nI r) = some o ∧ ∃ t, o = (nI (if asN c d b n then 1 else 0), md_set_tried y t) := by
    unfold f_X6_isSo
    refine lp_i (fun k s => ∃ t, s = (nI (if asN c d b k then 1 else 0), nI k, md_set_tried y t) ∧ (asN c d b k = true → RT t 0 (limN c false d k).2)) _ n ⟨t0, rfl, fun _ => hT⟩ (by omega) ?_
    rintro k s hk ⟨t, rfl, hW1⟩
    obtain ⟨o1, o2, o3⟩ := lim_ok false hD h3 k
    show (_ ∧ ∃ s1, f_X6_isSo_B4 (nI r) (nI _) (nI k) (md_set_tried y t) = _ ∧ _) ∨ ∃ o, f_X6_isSo_B4 (nI r) (nI _) (nI k) (md_set_tried y t) = _ ∧ _
    unfold f_X6_isSo_B4 f_X6_isSo_J38
    rw [gd_b hr6 (by decide), ix_n (by omega), show md_sizes (md_set_tried y t) r = nI n from hs]
    by_cases hkn : n ≤ k
    · right
      have e : k = n := by omega
      subst e
      rw [if_pos (nI_le (Nat.le_refl _) (by omega)), gd_t (show isB (nI (if asN c d b k = true then 1 else 0)) = true by split <;> rfl)]
      exact ⟨_, rfl, t, rfl⟩
    · rw [if_neg (nI_ge (by omega) (by omega))]
      by_cases hA : asN c d b k = true
      · left
        obtain ⟨b1, b2⟩ := hb k (by omega)
        obtain ⟨t2, e2, hW2⟩ := mone_t hM (hW1 hA) hC o1 h3 (by omega)
        have hl := lb_le c (limN c false d k).2
        rw [if_pos hA, if_neg (show ¬ nI 1 = 0 by decide), e2, ob_some, rowAt_ok hr6 (by omega), ob_some, show md_rows ((nI (lbN c (limN c false d k).2), md_set_tried y t2).2) (40 * r + k) = nI (b k) from b1, nI_1]
        dsimp only
        refine ⟨by omega, (nI (if asN c d b (k + 1) then 1 else 0), nI (k + 1), md_set_tried y t2), ?_, t2, rfl, fun _ => by rw [lim_split]; exact hW2⟩
        rw [as_succ, hA]
        by_cases e : lbN c (limN c false d k).2 = b k
        · rw [if_pos (by rw [e]), e]; simp; rfl
        · rw [if_neg (fun z => e ((nI_eq (by omega) (by omega)).mp z)), show (true && lbN c (limN c false d k).2 == b k) = false by simpa using e]; rfl
      · right
        have hA' : asN c d b k = false := by simpa using hA
        rw [hA', as_no hk hA']
        exact ⟨_, rfl, t, rfl⟩
  obtain ⟨o, e, t, rfl⟩ := key
  exact ⟨t, e⟩
theorem bit01 (v : Int32) : f_X6_in v 0 1 = some (if v = 0 ∨ v = 1 then 1 else 0) := by
  rcases num_cases v 2 (by decide) with hb | ⟨k, hk, rfl⟩
  · rw [show f_X6_in v 0 1 = some 0 from in_bad (k := 2) (by decide) hb, if_neg]
    rintro (rfl | rfl)
    · rcases hb with h | h
      · exact absurd h (by decide)
      · exact absurd h (by decide)
    · rcases hb with h | h
      · exact absurd h (by decide)
      · exact absurd h (by decide)
  · rcases (by omega : k = 0 ∨ k = 1) with rfl | rfl <;> rfl
/-- a row that tells in which steps it limped, or a refusal, alike on both sides -/
theorem needs_ok {x : Ww} {y : Md} (h : Rel x y) {r : Nat} (hr : r < 6) : (∃ x1 y1, f_X5_refuseLimps x (nI r) = some (-3, x1) ∧ f_X6_needLimps y (nI r) = some (-3, y1) ∧ Rel x1 y1) ∨ ∃ (n : Nat) (b : Nat → Nat), n ≤ 20 ∧ sh_sizes (ww_rows x) r = nI n ∧ md_sizes y r = nI n ∧ (∀ k, k < n → sh_places (ww_rows x) r k = nI (b k) ∧ b k ≤ 1) ∧ (∀ k, k < n → md_rows y (40 * r + k) = nI (b k) ∧ b k ≤ 1) ∧ f_X5_refuseLimps x (nI r) = some (0, x) ∧ f_X6_needLimps y (nI r) = some (0, y) := by
  unfold f_X5_refuseLimps f_X6_needLimps f_X5_refuseLimps_J42
  rw [missing_eq hr, gd_b hr (by decide), gd_b hr (by decide), ix_n (by omega)]
  rcases size_cases h.2.1 hr with ⟨e1, e2⟩ | ⟨n, hn, e1, e2⟩
  · left
    obtain ⟨x1, y1, g1, g2, g3⟩ := refuse_ok h (f := 1) (by decide)
    refine ⟨x1, y1, ?_, ?_, g3⟩
    · rw [if_pos e2, ob_some, if_neg (show ¬ (1 : Int32) = 0 by decide), show f_X5_refuse x 1 = some (-3, x1) from g1]; rfl
    · rw [e1, if_neg (by decide), show f_X6_meets y 1 = some (-3, y1) from g2]; rfl
  · rw [if_neg (show ¬ sh_sizes (ww_rows x) r = -1 by rw [e2]; exact nI_ne_m1 (by omega)), e1, ob_some, if_pos (show (0 : Int32) = 0 from rfl), if_pos (nI_pos' (by omega))]
    unfold f_X3_sizeOf
    rw [gd_b hr (by decide), ix_n (by omega), e2, ob_some, ob_some, in_ok]
    by_cases n0 : n < 1
    · left
      obtain ⟨x1, y1, g1, g2, g3⟩ := refuse_ok h (f := 5) (by decide)
      refine ⟨x1, y1, ?_, ?_, g3⟩
      · rw [if_pos (show nI n < 1 from nI_lt (b := 1) n0 (by decide)), show f_X5_refuse x 5 = some (-3, x1) from g1]; rfl
      · rw [if_pos (show nI n < 1 from nI_lt (b := 1) n0 (by decide)), ob_some, if_pos (show (0 : Int32) = 0 from rfl), show f_X6_meets y 5 = some (-3, y1) from g2]; rfl
    · rw [if_neg (show ¬ nI n < 1 from nI_nlt (b := 1) (by omega) (by omega)), if_neg (show ¬ nI n < 1 from nI_nlt (b := 1) (by omega) (by omega))]
      by_cases n20 : n ≤ 20
      · rw [if_pos (show nI n ≤ 20 from nI_le (b := 20) n20 (by decide)), if_neg (show ¬ (20 : Int32) < nI n from nI_nlt (a := 20) n20 (by decide)), ob_some, if_neg (show ¬ (1 : Int32) = 0 by decide)]
        have hpl := (h.2.1.2 r hr).2.2
        have hcl : f_X3_holdsBits 6 40 (ww_rows x) (nI r) = some (nI (if (List.range n).all (fun k => decide (md_rows y (40 * r + k) = 0 ∨ md_rows y (40 * r + k) = 1)) then 1 else 0)) := by
          have key : ∃ o, f_X3_holdsBits 6 40 (ww_rows x) (nI r) = some o ∧ o = nI (if (List.range n).all (fun k => decide (md_rows y (40 * r + k) = 0 ∨ md_rows y (40 * r + k) = 1)) then 1 else 0) := by
            unfold f_X3_holdsBits
            refine lp_i (fun k s => s = nI k ∧ (List.range k).all (fun k => decide (md_rows y (40 * r + k) = 0 ∨ md_rows y (40 * r + k) = 1)) = true) _ n ⟨rfl, rfl⟩ (by omega) ?_
            rintro k s hk ⟨rfl, hA⟩
            show (_ ∧ ∃ s1, f_X3_holdsBits_B2 6 40 (ww_rows x) (nI r) (nI k) = _ ∧ _) ∨ ∃ o, f_X3_holdsBits_B2 6 40 (ww_rows x) (nI r) (nI k) = _ ∧ _
            unfold f_X3_holdsBits_B2 f_X3_holdsBits_J37
            rw [gd_b hr (by decide), ix_n (j := r) (by omega), e2]
            by_cases hkn : n ≤ k
            · right
              have e : k = n := by omega
              subst e
              rw [if_pos (nI_le (Nat.le_refl _) (by omega)), if_pos hA]
              exact ⟨_, rfl, rfl⟩
            · rw [if_neg (nI_ge (by omega) (by omega)), gd_b hr (by decide), gd_b (show k < 40 by omega) (by decide), gd_b hr (by decide), gd_b (show k < 40 by omega) (by decide), ix_n (j := k) (by omega), hpl k (by omega), nI_1]
              by_cases hv : md_rows y (40 * r + k) = 0 ∨ md_rows y (40 * r + k) = 1
              · left
                refine ⟨by omega, nI (k + 1), ?_, rfl, ?_⟩
                · by_cases v0 : md_rows y (40 * r + k) = 0
                  · rw [if_pos v0]
                  · rw [if_neg v0, if_pos (hv.resolve_left v0)]
                · rw [List.range_succ, List.all_append, hA]
                  simpa using hv
              · right
                have hno : ¬ (List.range n).all (fun k => decide (md_rows y (40 * r + k) = 0 ∨ md_rows y (40 * r + k) = 1)) = true := by
                  intro hall
                  have := List.all_eq_true.mp hall k (List.mem_range.mpr (by omega))
                  exact hv (of_decide_eq_true this)
                rw [if_neg (fun z => hv (Or.inl z)), if_neg (fun z => hv (Or.inr z)), if_neg hno]
                exact ⟨_, rfl, rfl⟩
          obtain ⟨o, e, rfl⟩ := key
          exact e
        have hml : ∀ o, f_X6_needLimps_J80 y (nI (if (List.range n).all (fun k => decide (md_rows y (40 * r + k) = 0 ∨ md_rows y (40 * r + k) = 1)) then 1 else 0)) = some o → lp (f_X6_needLimps_L40 y (nI r)) fuel ((1 : Int32), (0 : Int32)) = some o := by
          intro o hJ
          refine lp_for0 (fun k => (nI (if (List.range k).all (fun k => decide (md_rows y (40 * r + k) = 0 ∨ md_rows y (40 * r + k) = 1)) then 1 else 0), nI k)) n (fun k hk => ?_) ?_ rfl (by show n < 100000; omega)
          · show f_X6_needLimps_B40 y (nI r) (nI _) (nI k) = _
            unfold f_X6_needLimps_B40 f_X6_needLimps_J72 f_X6_needLimps_J73
            rw [gd_b hr (by decide), ix_n (j := r) (by omega), e1, if_neg (nI_ge hk (by omega)), rowAt_ok hr (by omega), ob_some, bit01, ob_some, nI_1, List.range_succ, List.all_append]
            cases hA : (List.range k).all (fun k => decide (md_rows y (40 * r + k) = 0 ∨ md_rows y (40 * r + k) = 1))
            · rfl
            · by_cases hv : md_rows y (40 * r + k) = 0 ∨ md_rows y (40 * r + k) = 1
              · rw [if_pos hv, if_pos (show (true && [k].all (fun k => decide (md_rows y (40 * r + k) = 0 ∨ md_rows y (40 * r + k) = 1))) = true by simpa using hv)]; rfl
              · rw [if_neg hv, if_neg (show ¬ (true && [k].all (fun k => decide (md_rows y (40 * r + k) = 0 ∨ md_rows y (40 * r + k) = 1))) = true by simpa using hv)]; rfl
          · show f_X6_needLimps_B40 y (nI r) (nI _) (nI n) = _
            unfold f_X6_needLimps_B40
            rw [gd_b hr (by decide), ix_n (j := r) (by omega), e1, if_pos (nI_le (Nat.le_refl _) (by omega)), hJ]; rfl
        rw [hcl, ob_some]
        by_cases hall : (List.range n).all (fun k => decide (md_rows y (40 * r + k) = 0 ∨ md_rows y (40 * r + k) = 1)) = true
        · right
          have hv : ∀ k, k < n → md_rows y (40 * r + k) = nI (if md_rows y (40 * r + k) = 1 then 1 else 0) ∧ (if md_rows y (40 * r + k) = 1 then 1 else 0) ≤ 1 := by
            intro k hk
            have := of_decide_eq_true (List.all_eq_true.mp hall k (List.mem_range.mpr hk))
            by_cases v1 : md_rows y (40 * r + k) = 1
            · rw [if_pos v1]; exact ⟨v1, Nat.le_refl _⟩
            · rw [if_neg v1]; exact ⟨this.resolve_right v1, Nat.zero_le _⟩
          refine ⟨n, fun k => if md_rows y (40 * r + k) = 1 then 1 else 0, n20, rfl, rfl, fun k hk => ?_, hv, ?_, ?_⟩
          · rw [hpl k (by omega)]; exact hv k hk
          · rw [if_pos hall, if_neg (show ¬ nI 1 = 0 by decide)]
          · rw [hml (0, y) (by unfold f_X6_needLimps_J80; rw [if_pos hall, if_neg (show ¬ nI 1 = 0 by decide)])]
        · left
          obtain ⟨x1, y1, g1, g2, g3⟩ := refuse_ok h (f := 3) (by decide)
          refine ⟨x1, y1, ?_, ?_, g3⟩
          · rw [if_neg hall, if_pos (show nI 0 = 0 from nI_0), show f_X5_refuse x 3 = some (-3, x1) from g1]; rfl
          · rw [hml (-3, y1) (by unfold f_X6_needLimps_J80; rw [if_neg hall, if_pos (show nI 0 = 0 from nI_0), show f_X6_meets y 3 = some (-3, y1) from g2]; rfl)]
      · left
        obtain ⟨x1, y1, g1, g2, g3⟩ := refuse_ok h (f := 5) (by decide)
        refine ⟨x1, y1, ?_, ?_, g3⟩
        · rw [if_neg (show ¬ nI n ≤ 20 from nI_ge (a := 20) (by omega) (by omega)), show f_X5_refuse x 5 = some (-3, x1) from g1]; rfl
        · rw [if_pos (show (20 : Int32) < nI n from nI_lt (a := 20) (by omega) (by omega)), ob_some, if_pos (show (0 : Int32) = 0 from rfl), show f_X6_meets y 5 = some (-3, y1) from g2]; rfl
/-! gone -/
def thereN (d : Dyn) (t : Nat) : Dyn := (dRut d, dStand d, dDry d, t, dWear d)
theorem okD_there {c : Cfg} {d : Dyn} (hD : okD c d) {t : Nat} (ht : t < 2 ^ cN c) : okD c (thereN d t) := ⟨hD.1, hD.2.1, ht, hD.2.2.2⟩
theorem RW_there {w : Wh} {c : Cfg} {d : Dyn} (hW : RW w c d) (t : Nat) : RW (wh_set_there w (nI t)) c (thereN d t) := by
  obtain ⟨w1, w2, w3, w4, w5, w6, w7, w8, w9⟩ := hW
  exact ⟨w1, w2, w3, w4, rfl, w6, w7, w8, w9⟩
theorem RT_there {f : Ar} {d : Dyn} (h : RT f 0 d) (t : Nat) : RT (upd f 3 (nI t)) 0 (thereN d t) := by
  obtain ⟨h0, h1, h2, h3, h4⟩ := h
  exact ⟨(upd_n (by decide)).trans h0, (upd_n (by decide)).trans h1, (upd_n (by decide)).trans h2, upd_s, fun j hj => (upd_n (by omega)).trans (h4 j hj)⟩
def goneP (c : Cfg) (d : Dyn) (b : Nat → Nat) (n s : Nat) : Bool := asN c (thereN d (2 ^ cN c - 1 - s)) b n
def isFst (p : Nat → Bool) (lo q : Nat) : Prop := p q = true ∧ ∀ t, lo ≤ t → t < q → p t = false
theorem cgone_ok {a : As} {w : Wh} {c : Cfg} {d : Dyn} (hW : RW w c d) (hC : okC c) (hD : okD c d) (h3 : 3 ≤ cN c) (hr : dRut d < 400) {f : Ar} {b : Nat → Nat} {n : Nat} (hn20 : n ≤ 20) (hb : ∀ k, k < n → f k = nI (b k) ∧ b k ≤ 1) : ∃ a1, f_X0_goneSets 40 a w f (nI n) = some (if cntN (goneP c d b n) (2 ^ cN c) = 0 then -9 else nI (cntN (goneP c d b n) (2 ^ cN c)), a1) ∧ (0 < cntN (goneP c d b n) (2 ^ cN c) → ∃ q, isFst (goneP c d b n) 0 q ∧ as_found a1 = nI q) := by
  have hn := okC_n hC
  obtain ⟨hp, hp0⟩ := pow_n' hn
  have key : ∃ o, f_X0_goneSets 40 a w f (nI n) = some o ∧ ∃ a1, o = (if cntN (goneP c d b n) (2 ^ cN c) = 0 then -9 else nI (cntN (goneP c d b n) (2 ^ cN c)), a1) ∧ (0 < cntN (goneP c d b n) (2 ^ cN c) → ∃ q, isFst (goneP c d b n) 0 q ∧ as_found a1 = nI q) := by
    unfold f_X0_goneSets
    rw [hW.1, show jshl (1 : Int32) (nI (cN c)) - (1 : Int32) = _ from tb_all (cN c) (by omega), nm_eq]
    refine lp_e (fun k s => ∃ a1, s = (nI (cntN (goneP c d b n) k), nI k, a1) ∧ ((cntN (goneP c d b n) k = 0 → ∀ t, t < k → goneP c d b n t = false) ∧ (0 < cntN (goneP c d b n) k → ∃ q, isFst (goneP c d b n) 0 q ∧ as_found a1 = nI q))) _ (2 ^ cN c) ⟨a, rfl, fun _ t ht => absurd ht (by omega), fun h => absurd (show 0 < 0 from h) (Nat.lt_irrefl 0)⟩ (by omega) ?_ ?_
    · rintro k s hk ⟨a1, rfl, hz, hq⟩
      have hc := cnt_le (goneP c d b n) k
      obtain ⟨q1, e1, h1⟩ := take_ok (w := as_trial a1) hW hC hD
      have hg := tb_gone (cN c) (by omega) k hk
      obtain ⟨q2, e2⟩ := climpsAs_ok (RW_there h1 (2 ^ cN c - 1 - k)) hC (okD_there hD (by omega)) h3 hr hn20 hb
      show ∃ t, f_X0_goneSets_B18 40 w f (nI n) (nI (2 ^ cN c - 1)) (nI _) (nI k) a1 = _ ∧ ∃ a1, t = (nI (cntN (goneP c d b n) k + (if goneP c d b n k = true then 1 else 0)), nI (k + 1), a1) ∧ ((cntN (goneP c d b n) k + (if goneP c d b n k = true then 1 else 0) = 0 → ∀ t, t < k + 1 → goneP c d b n t = false) ∧ (0 < cntN (goneP c d b n) k + (if goneP c d b n k = true then 1 else 0) → ∃ q, isFst (goneP c d b n) 0 q ∧ as_found a1 = nI q))
      unfold f_X0_goneSets_B18 f_X0_goneSets_J71 f_X0_goneSets_J74
      rw [if_neg (nI_nlt (by omega) (by omega)), e1, ob_some, show nI (2 ^ cN c - 1) &&& (nI k ^^^ (-1 : Int32)) = _ from hg, e2, ob_some, nI_1]
      show ∃ t, (if nI (if goneP c d b n k = true then 1 else 0) = 0 then _ else _) = _ ∧ _
      by_cases e : goneP c d b n k = true
      · rw [if_pos e, if_neg (show ¬ nI 1 = 0 by decide)]
        by_cases c0 : cntN (goneP c d b n) k = 0
        · rw [c0, if_pos (show nI 0 = 0 from nI_0)]
          refine ⟨_, rfl, _, rfl, fun h => by omega, fun _ => ⟨k, ⟨e, fun t _ ht => hz c0 t ht⟩, rfl⟩⟩
        · rw [if_neg (nI_ne0 (by omega) (by omega)), nI_1]
          refine ⟨_, rfl, _, rfl, fun h => by omega, fun _ => ?_⟩
          obtain ⟨q, g1, g2⟩ := hq (by omega)
          exact ⟨q, g1, g2⟩
      · rw [if_neg e, if_pos (show nI 0 = 0 from nI_0)]
        refine ⟨_, rfl, _, rfl, fun h t ht => ?_, fun h => ?_⟩
        · by_cases et : t = k
          · subst et; simpa using e
          · exact hz (by omega) t (by omega)
        · obtain ⟨q, g1, g2⟩ := hq (by omega)
          exact ⟨q, g1, g2⟩
    · rintro s ⟨a1, rfl, hz, hq⟩
      have hc := cnt_le (goneP c d b n) (2 ^ cN c)
      refine ⟨_, ?_, a1, rfl, hq⟩
      show f_X0_goneSets_B18 40 w f (nI n) (nI (2 ^ cN c - 1)) (nI _) (nI (2 ^ cN c)) a1 = _
      unfold f_X0_goneSets_B18 f_X0_goneSets_J80
      rw [if_pos (nI_lt (by omega) (by omega))]
      by_cases c0 : cntN (goneP c d b n) (2 ^ cN c) = 0
      · rw [c0, if_pos (show nI 0 = 0 from nI_0), if_pos rfl]; rfl
      · rw [if_neg (nI_ne0 (by omega) (by omega)), if_neg c0]; rfl
  obtain ⟨o, e, a1, rfl, h⟩ := key
  exact ⟨a1, e, h⟩
theorem mgone_ok {y : Md} {c : Cfg} {d : Dyn} (hM : RM y c) (hN : RT (md_now y) 0 d) (hC : okC c) (hD : okD c d) (h3 : 3 ≤ cN c) (hr : dRut d < 400) {b : Nat → Nat} {r n : Nat} (hr6 : r < 6) (hs : md_sizes y r = nI n) (hn20 : n ≤ 20) (hb : ∀ k, k < n → md_rows y (40 * r + k) = nI (b k) ∧ b k ≤ 1) : ∃ t l, lp (f_X6_gone_L43 (nI r)) fuel ((0 : Int32), (-9 : Int32), nI (2 ^ cN c - 1), y) = f_X6_gone_J107 (md_set_tried y t) (nI (cntN (goneP c d b n) (2 ^ cN c))) l ∧ (0 < cntN (goneP c d b n) (2 ^ cN c) → ∃ q, isFst (goneP c d b n) 0 q ∧ l = nI q) := by
  have hn := okC_n hC
  obtain ⟨hp, hp0⟩ := pow_n' hn
  have key : ∃ o, lp (f_X6_gone_L43 (nI r)) fuel ((0 : Int32), (-9 : Int32), nI (2 ^ cN c - 1), y) = some o ∧ ∃ t l, f_X6_gone_J107 (md_set_tried y t) (nI (cntN (goneP c d b n) (2 ^ cN c))) l = some o ∧ (0 < cntN (goneP c d b n) (2 ^ cN c) → ∃ q, isFst (goneP c d b n) 0 q ∧ l = nI q) := by
    refine lp_e (fun k s => ∃ t m l, s = (nI m, l, nI (2 ^ cN c - k) + (-1 : Int32), md_set_tried y t) ∧ m + cntN (goneP c d b n) (2 ^ cN c - k) = cntN (goneP c d b n) (2 ^ cN c) ∧ ((m = 0 ∧ ∀ t, 2 ^ cN c - k ≤ t → t < 2 ^ cN c → goneP c d b n t = false) ∨ (0 < m ∧ ∃ q, isFst (goneP c d b n) (2 ^ cN c - k) q ∧ l = nI q))) _ (2 ^ cN c) ⟨md_tried y, 0, -9, ?_, Nat.zero_add _, Or.inl ⟨rfl, fun t h1 h2 => absurd h2 (by omega)⟩⟩ (by omega) ?_ ?_
    · rw [down_n hp0]; rfl
    · rintro k s hk ⟨t, m, l, rfl, hm, hI⟩
      have hsk : 2 ^ cN c - k = 2 ^ cN c - (k + 1) + 1 := by omega
      have hq2 : 2 ^ cN c - (k + 1) < 2 ^ cN c := by omega
      rw [down_n hk]
      rw [hsk] at hI hm
      generalize hq : 2 ^ cN c - (k + 1) = q at hI hm hq2 ⊢
      have hm : m + (cntN (goneP c d b n) q + (if goneP c d b n q = true then 1 else 0)) = cntN (goneP c d b n) (2 ^ cN c) := hm
      obtain ⟨t1, e1, h1⟩ := copyNow_t hN t
      have hg := tb_gone (cN c) (by omega) q hq2
      obtain ⟨t2, e2⟩ := isSo_ok hM (RT_there h1 (2 ^ cN c - 1 - q)) hC (okD_there hD (by omega)) h3 hr hr6 hs hn20 hb
      rw [show asN c (thereN d (2 ^ cN c - 1 - q)) b n = goneP c d b n q from rfl] at e2
      show ∃ s1, f_X6_gone_B43 (nI r) (nI m) l (nI q) (md_set_tried y t) = _ ∧ _
      unfold f_X6_gone_B43 f_X6_all f_X6_gone_J85 f_X6_gone_J99
      rw [if_neg (nI_pos (by omega)), e1, ob_some, ob_some, show md_n (md_set_tried y t1) = nI (cN c) from hM.1, show jshl (1 : Int32) (nI (cN c)) - (1 : Int32) = _ from tb_all (cN c) (by omega), show nI (2 ^ cN c - 1) &&& (nI q ^^^ (-1 : Int32)) = _ from hg, tt1, tt, e2, ob_some]
      dsimp only
      by_cases e : goneP c d b n q = true
      · rw [if_pos e] at hm
        rw [if_pos e, if_neg (show ¬ nI 1 = 0 by decide), if_neg (show ¬ nI 1 = 0 by decide)]
        refine ⟨(nI (m + 1), nI q, nI q + (-1 : Int32), md_set_tried y t2), ?_, t2, m + 1, nI q, rfl, by omega, Or.inr ⟨by omega, q, ⟨e, fun t h1 h2 => absurd h2 (by omega)⟩, rfl⟩⟩
        rw [nI_1]
      · rw [if_neg e] at hm
        rw [if_neg e, if_pos (show nI 0 = 0 from nI_0), if_pos (show nI 0 = 0 from nI_0)]
        refine ⟨(nI m, l, nI q + (-1 : Int32), md_set_tried y t2), ?_, t2, m, l, rfl, by omega, ?_⟩
        · show some (Sum.inl (nI m + nI 0, _)) = _
          rw [nI_add]; rfl
        · rcases hI with ⟨m0, hno⟩ | ⟨m1, q1, ⟨f1, f2⟩, f3⟩
          · refine Or.inl ⟨m0, fun t h1 h2 => ?_⟩
            by_cases et : t = q
            · subst et; simpa using e
            · exact hno t (by omega) h2
          · refine Or.inr ⟨m1, q1, ⟨f1, fun t h1 h2 => ?_⟩, f3⟩
            by_cases et : t = q
            · subst et; simpa using e
            · exact f2 t (by omega) h2
    · rintro s ⟨t, m, l, rfl, hm, hI⟩
      rw [Nat.sub_self] at hm hI ⊢
      have hm : m + 0 = cntN (goneP c d b n) (2 ^ cN c) := hm
      have hm : m = cntN (goneP c d b n) (2 ^ cN c) := by omega
      subst hm
      have hJ : ∃ o, f_X6_gone_J107 (md_set_tried y t) (nI (cntN (goneP c d b n) (2 ^ cN c))) l = some o := by
        unfold f_X6_gone_J107
        split
        · exact ⟨_, rfl⟩
        · exact ⟨_, rfl⟩
      obtain ⟨o, eJ⟩ := hJ
      refine ⟨o, ?_, t, l, eJ, fun h0 => ?_⟩
      · show f_X6_gone_B43 (nI r) (nI _) l (nI 0 + (-1 : Int32)) (md_set_tried y t) = _
        unfold f_X6_gone_B43
        rw [if_pos (show nI 0 + (-1 : Int32) < 0 by decide), eJ]; rfl
      · rcases hI with ⟨g1, -⟩ | ⟨-, q, g2, g3⟩
        · omega
        · exact ⟨q, g2, g3⟩
  obtain ⟨o, e, t, l, h1, h2⟩ := key
  exact ⟨t, l, e.trans h1.symm, h2⟩
theorem fst_uniq {p : Nat → Bool} {a b : Nat} (ha : isFst p 0 a) (hb : isFst p 0 b) : a = b := by
  rcases Nat.lt_trichotomy a b with h | h | h
  · have := hb.2 a (Nat.zero_le _) h
    rw [ha.1] at this; cases this
  · exact h
  · have := ha.2 b (Nat.zero_le _) h
    rw [hb.1] at this; cases this
theorem s_gone : S_gone Rel := by
  intro x y h v
  have hRel := h
  obtain ⟨hT, hR, hX, c, E, hWE⟩ := h
  obtain ⟨hC, hE, hRC, hM, hd, hN, hL, hK⟩ := id hWE
  obtain ⟨o1, o2⟩ := okD_rep hC hE
  have h40 := hE.1
  have hn := okC_n hC
  unfold f_X5_gone f_X6_gone f_X6_all
  rcases num_cases v 6 (by decide) with hb | ⟨r, hr, rfl⟩
  · rw [isNumber_bad hb, isRow_bad hb]
    exact ⟨-1, x, y, rfl, rfl, hRel⟩
  · rw [isNumber_in hr (by decide), isRow_in hr, ob_some, ob_some, if_neg (show ¬ (1 : Int32) = 0 by decide), if_neg (show ¬ (1 : Int32) = 0 by decide)]
    by_cases h0 : cN c = 0
    · rw [cEmpty0 hRC.1 h0, if_pos (mn0 hM h0)]
      exact ⟨-4, x, y, rfl, rfl, hRel⟩
    · have h3 := okC_3 hC h0
      rw [cEmpty1 hRC.1 hC h3, if_neg (mn1 hM hC h3), ob_some, if_pos (show (0 : Int32) = 0 from rfl)]
      rcases needs_ok hRel hr with ⟨x1, y1, g1, g2, g3⟩ | ⟨n, b, n20, s1, s2, b1, b2, g1, g2⟩
      · rw [g1, g2]
        exact ⟨-3, x1, y1, rfl, rfl, g3⟩
      · obtain ⟨hp, hp0⟩ := pow_n' hn
        obtain ⟨a1, e1, f1⟩ := cgone_ok (a := ww_aside x) hRC.1 hC o1 h3 (by omega) n20 b1
        obtain ⟨t, l, e2, f2⟩ := mgone_ok hM hN hC o1 h3 (by omega) hr s2 n20 b2
        have hc := cnt_le (goneP c (repN c E) b n) (2 ^ cN c)
        rw [g1, g2, ob_some, ob_some, if_pos (show ((0 : Int32), x).1 = 0 from rfl), if_pos (show (0 : Int32) ≤ ((0 : Int32), y).1 from (by decide : (0 : Int32) ≤ 0))]
        dsimp only
        unfold f_X3_placesOf f_X3_sizeOf
        rw [gd_b hr (by decide), gd_b hr (by decide), ob_some, ix_n (by omega), s1, ob_some, ob_some, hM.1, show jshl (1 : Int32) (nI (cN c)) - (1 : Int32) = _ from tb_all (cN c) (by omega), e1, e2, ob_some]
        unfold f_X5_tellBeside f_X6_gone_J107
        dsimp only
        by_cases c0 : cntN (goneP c (repN c E) b n) (2 ^ cN c) = 0
        · rw [c0, if_pos (show nI 0 = 0 from nI_0), if_pos rfl, if_pos rfl]
          exact ⟨-9, ww_set_aside x a1, md_set_tried y t, rfl, rfl, relB hRel⟩
        · obtain ⟨q1, i1, j1⟩ := f1 (by omega)
          obtain ⟨q2, i2, j2⟩ := f2 (by omega)
          have e := fst_uniq i1 i2
          subst e
          rw [if_neg c0, if_neg (nI_ne0 (by omega) (by omega)), if_neg (nI_ne_m9 (by omega))]
          exact ⟨nI (cntN (goneP c (repN c E) b n) (2 ^ cN c)), ww_set_askedLast (ww_set_aside x a1) (as_found a1), md_set_told (md_set_tried y t) l, rfl, rfl, relA hRel (j1.trans j2.symm)⟩
/-! strengths, kinds -/
def setI (p : Nat → Bool) : Nat → Int32
  | 0 => 0
  | k + 1 => if p k then setI p k ||| jshl (1 : Int32) (nI k) else setI p k
theorem or_0 (v : Int32) : v ||| (0 : Int32) = v := by
  apply Int32.toBitVec_inj.mp
  show v.toBitVec ||| 0#32 = v.toBitVec
  simp
def strC (c : Cfg) (i v : Nat) : Cfg := (cN c, cGate c, cRut c, cKind c, cLong c, updN (cStrong c) i v)
theorem okstrC {c : Cfg} (hC : okC c) {i v : Nat} (hv : v ≤ 9) : okC (strC c i v) := by
  obtain ⟨h1, h2, h3, h4⟩ := hC
  refine ⟨h1, h2, h3, fun j hj => ?_⟩
  obtain ⟨a1, a2, a3⟩ := h4 j hj
  refine ⟨a1, a2, ?_⟩
  show updN (cStrong c) i v j ≤ 9
  unfold updN
  split <;> assumption
theorem RWstrC {w : Wh} {c : Cfg} {d : Dyn} (hW : RW w c d) (i v : Nat) : RW (wh_set_strong w (upd (wh_strong w) i (nI v))) (strC c i v) d := by
  obtain ⟨w1, w2, w3, w4, w5, w6, w7, w8, w9⟩ := hW
  refine ⟨w1, w2, w3, w4, w5, w6, w7, w8, fun j hj => ?_⟩
  obtain ⟨a1, a2, a3⟩ := w9 j hj
  have hu : upd (wh_strong w) i (nI v) j = nI (updN (cStrong c) i v j) := by
    unfold updN
    by_cases e : j = i
    · subst e; rw [upd_s, if_pos rfl]
    · rw [upd_n e, if_neg e]; exact a3
  exact ⟨a1, a2, hu⟩
theorem RMzstrC {y : Md} {c : Cfg} (hM : RM y c) {i v : Nat} {t Z : Ar} (hZ : ∀ j, j < cN c → Z j = nI (updN (cStrong c) i v j)) : RM (kY y t (md_kinds y) (md_longs y) Z) (strC c i v) := by
  obtain ⟨m1, m2, m3, m4⟩ := hM
  refine ⟨m1, m2, m3, fun j hj => ?_⟩
  obtain ⟨a1, a2, a3⟩ := m4 j hj
  have hu := hZ j hj
  exact ⟨a1, a2, hu⟩
theorem RMstrC {y : Md} {c : Cfg} (hM : RM y c) {i v : Nat} {S : Ar} (hS : ∀ j, j ≠ i → S j = md_strongs y j) (t : Ar) : RM (kY y t (md_kinds y) (md_longs y) (upd S i (nI v))) (strC c i v) := by
  refine RMzstrC hM (fun j hj => ?_)
  obtain ⟨a1, a2, a3⟩ := hM.2.2.2 j hj
  unfold updN
  by_cases e : j = i
  · subst e; rw [upd_s, if_pos rfl]
  · rw [upd_n e, if_neg e, hS j e]; exact a3
theorem cstrC_ok {a : As} {w : Wh} {c : Cfg} {d : Dyn} (hW : RW w c d) (hC : okC c) (hD : okD c d) (h3 : 3 ≤ cN c) (hr : dRut d < 400) {f : Ar} {b : Nat → Nat} {n i : Nat} (hi : i < cN c) (hn20 : n ≤ 20) (hb : ∀ k, k < n → f k = nI (b k) ∧ b k ≤ 1) : ∃ a1, f_X0_likelyStrengths 40 a w f (nI i) (nI n) = some (setI (fun v => asN (strC c i v) d b n) 10, a1) := by
  have hn := okC_n hC
  have key : ∃ o, f_X0_likelyStrengths 40 a w f (nI i) (nI n) = some o ∧ ∃ a1, o = (setI (fun v => asN (strC c i v) d b n) 10, a1) := by
    unfold f_X0_likelyStrengths
    refine lp_e (fun k s => ∃ a1, s = (setI (fun v => asN (strC c i v) d b n) k, nI k, a1)) _ 10 ⟨a, rfl⟩ (by omega) ?_ ?_
    · rintro k s hk ⟨a1, rfl⟩
      obtain ⟨q1, e1, h1⟩ := take_ok (w := as_trial a1) hW hC hD
      obtain ⟨q2, e2⟩ := climpsAs_ok (RWstrC h1 i k) (okstrC hC (by omega)) (d := d) hD h3 hr hn20 hb
      show ∃ t, f_X0_likelyStrengths_B6 40 w f (nI i) (nI n) (setI _ k) (nI k) a1 = _ ∧ ∃ a1, t = (if asN (strC c i k) d b n = true then setI (fun v => asN (strC c i v) d b n) k ||| jshl (1 : Int32) (nI k) else setI (fun v => asN (strC c i v) d b n) k, nI (k + 1), a1)
      unfold f_X0_likelyStrengths_B6 f_X0_likelyStrengths_J56
      rw [if_neg (show ¬ (9 : Int32) < nI k from nI_nlt (a := 9) (by omega) (by decide)), e1, ob_some, gd_b (by omega) (by decide), ix_n (by omega), e2, ob_some, nI_1]
      dsimp only
      by_cases e : asN (strC c i k) d b n = true
      · rw [if_pos e, if_pos e, if_neg (show ¬ nI 1 = 0 by decide)]
        exact ⟨_, rfl, _, rfl⟩
      · rw [if_neg e, if_neg e, if_pos (show nI 0 = 0 from nI_0)]
        exact ⟨_, rfl, _, rfl⟩
    · rintro s ⟨a1, rfl⟩
      refine ⟨_, ?_, a1, rfl⟩
      show f_X0_likelyStrengths_B6 40 w f (nI i) (nI n) (setI (fun v => asN (strC c i v) d b n) 10) (nI 10) a1 = _
      unfold f_X0_likelyStrengths_B6
      rw [if_pos (show (9 : Int32) < nI 10 by decide)]; rfl
  obtain ⟨o, e, a1, rfl⟩ := key
  exact ⟨a1, e⟩
theorem mstrC_ok {y : Md} {c : Cfg} {d : Dyn} (hM : RM y c) (hN : RT (md_now y) 0 d) (hC : okC c) (hD : okD c d) (h3 : 3 ≤ cN c) (hr : dRut d < 400) {b : Nat → Nat} {r n i : Nat} (hi : i < cN c) (hr6 : r < 6) (hs : md_sizes y r = nI n) (hn20 : n ≤ 20) (hb : ∀ k, k < n → md_rows y (40 * r + k) = nI (b k) ∧ b k ≤ 1) : ∃ t, lp (f_X6_strengths_L43 (nI i) (nI r) (md_strongs y i)) fuel ((0 : Int32), (0 : Int32), y) = some (setI (fun v => asN (strC c i v) d b n) 10, md_set_tried y t) := by
  have hn := okC_n hC
  have key : ∃ o, lp (f_X6_strengths_L43 (nI i) (nI r) (md_strongs y i)) fuel ((0 : Int32), (0 : Int32), y) = some o ∧ ∃ t, o = (setI (fun v => asN (strC c i v) d b n) 10, md_set_tried y t) := by
    refine lp_e (fun k s => ∃ t S, s = (setI (fun v => asN (strC c i v) d b n) k, nI k, kY y t (md_kinds y) (md_longs y) S) ∧ ∀ j, j ≠ i → S j = md_strongs y j) _ 10 ⟨md_tried y, md_strongs y, rfl, fun _ _ => rfl⟩ (by omega) ?_ ?_
    · rintro k s hk ⟨t, S, rfl, hS⟩
      obtain ⟨t1, e1, h1⟩ := copy_kY hN t (md_kinds y) (md_longs y) S
      have hs' : ∀ t Z : Ar, md_sizes (kY y t (md_kinds y) (md_longs y) Z) r = nI n := fun _ _ => hs
      have hb' : ∀ t Z : Ar, ∀ k, k < n → md_rows (kY y t (md_kinds y) (md_longs y) Z) (40 * r + k) = nI (b k) ∧ b k ≤ 1 := fun _ _ => hb
      obtain ⟨t2, e2⟩ := isSo_ok (RMstrC hM (v := k) hS t1) h1 (okstrC hC (by omega)) (d := d) hD h3 hr hr6 (hs' _ _) hn20 (hb' _ _)
      rw [kY_s_tried, kY_s_tried] at e2
      show ∃ s1, f_X6_strengths_B43 (nI i) (nI r) (md_strongs y i) (setI _ k) (nI k) (kY y t (md_kinds y) (md_longs y) S) = _ ∧ ∃ t S, s1 = (if asN (strC c i k) d b n = true then setI (fun v => asN (strC c i v) d b n) k ||| jshl (1 : Int32) (nI k) else setI (fun v => asN (strC c i v) d b n) k, nI (k + 1), kY y t (md_kinds y) (md_longs y) S) ∧ ∀ j, j ≠ i → S j = md_strongs y j
      unfold f_X6_strengths_B43 f_X6_strengths_J80
      rw [if_neg (show ¬ (10 : Int32) ≤ nI k from nI_ge hk (by decide)), e1, ob_some, gd_b (by omega) (by decide), ix_n (by omega), kY_f_strongs, kY_s_strongs, e2, ob_some, nI_1]
      dsimp only
      have hS2 : ∀ j, j ≠ i → upd S i (nI k) j = md_strongs y j := fun j hj => (upd_n hj).trans (hS j hj)
      by_cases e : asN (strC c i k) d b n = true
      · rw [if_pos e, if_pos e, if_neg (show ¬ nI 1 = 0 by decide)]
        exact ⟨_, rfl, t2, _, rfl, hS2⟩
      · rw [if_neg e, if_neg e, if_pos (show nI 0 = 0 from nI_0), or_0]
        exact ⟨_, rfl, t2, _, rfl, hS2⟩
    · rintro s ⟨t, S, rfl, hS⟩
      have hu : upd S i (md_strongs y i) = md_strongs y := by
        funext j
        by_cases e : j = i
        · subst e; rw [upd_s]
        · rw [upd_n e, hS j e]
      refine ⟨_, ?_, t, rfl⟩
      show f_X6_strengths_B43 (nI i) (nI r) (md_strongs y i) (setI (fun v => asN (strC c i v) d b n) 10) (nI 10) (kY y t (md_kinds y) (md_longs y) S) = _
      unfold f_X6_strengths_B43 f_X6_strengths_J89
      rw [if_pos (show (10 : Int32) ≤ nI 10 by decide), gd_b (by omega) (by decide), ix_n (by omega), kY_f_strongs, kY_s_strongs, hu, ← kY_tr]
      rfl
  obtain ⟨o, e, t, rfl⟩ := key
  exact ⟨t, e⟩
theorem s_strengths : S_strengths Rel := by
  intro x y h v u
  have hRel := h
  obtain ⟨hT, hR, hX, c, E, hWE⟩ := h
  obtain ⟨hC, hE, hRC, hM, hd, hN, hL, hK⟩ := id hWE
  obtain ⟨o1, o2⟩ := okD_rep hC hE
  have h40 := hE.1
  have hn := okC_n hC
  unfold f_X5_strengths f_X6_strengths f_X5_refuseGuess
  rcases num_cases v (cN c) (by omega) with hb | ⟨i, hi, rfl⟩
  · rw [isSpoke_bad hRC.1.1 hb, mSpoke_bad hM.1 hn hb]
    exact ⟨-1, x, y, rfl, rfl, hRel⟩
  · have h3 := okC_3 hC (by omega)
    rw [isSpoke_in hRC.1.1 hn hi, mSpoke_in hM.1 hn hi, ob_some, ob_some, if_neg (show ¬ (1 : Int32) = 0 by decide), if_neg (show ¬ (1 : Int32) = 0 by decide)]
    rcases num_cases u 6 (by decide) with hb | ⟨r, hr, rfl⟩
    · rw [isNumber_bad hb, isRow_bad hb]
      exact ⟨-1, x, y, rfl, rfl, hRel⟩
    · rw [isNumber_in hr (by decide), isRow_in hr, ob_some, ob_some, if_neg (show ¬ (1 : Int32) = 0 by decide), if_neg (show ¬ (1 : Int32) = 0 by decide)]
      rcases needs_ok hRel hr with ⟨x1, y1, g1, g2, g3⟩ | ⟨n, b, n20, s1, s2, b1, b2, g1, g2⟩
      · rw [g1, g2]
        exact ⟨-3, x1, y1, rfl, rfl, g3⟩
      · obtain ⟨a1, e1⟩ := cstrC_ok (a := ww_aside x) hRC.1 hC o1 h3 (by omega) hi n20 b1
        obtain ⟨t, e2⟩ := mstrC_ok hM hN hC o1 h3 (by omega) hi hr s2 n20 b2
        rw [g1, g2, ob_some, ob_some, ob_some, if_pos (show ((0 : Int32), x).1 = 0 from rfl), if_pos (show (0 : Int32) ≤ ((0 : Int32), y).1 from (by decide : (0 : Int32) ≤ 0))]
        dsimp only
        unfold f_X3_placesOf f_X3_sizeOf
        rw [gd_b hr (by decide), gd_b hr (by decide), ob_some, ix_n (j := r) (by omega), s1, ob_some, gd_b (show i < 8 by omega) (by decide), ix_n (j := i) (by omega), nm_eq, e1, e2, ob_some]
        exact ⟨_, ww_set_aside x a1, md_set_tried y t, rfl, rfl, relB hRel⟩
def kndC (c : Cfg) (i v : Nat) : Cfg := (cN c, cGate c, cRut c, updN (cKind c) i v, cLong c, cStrong c)
theorem okkndC {c : Cfg} (hC : okC c) {i v : Nat} (hv : v ≤ 5) : okC (kndC c i v) := by
  obtain ⟨h1, h2, h3, h4⟩ := hC
  refine ⟨h1, h2, h3, fun j hj => ?_⟩
  obtain ⟨a1, a2, a3⟩ := h4 j hj
  refine ⟨?_, a2, a3⟩
  show updN (cKind c) i v j ≤ 5
  unfold updN
  split <;> assumption
theorem RWkndC {w : Wh} {c : Cfg} {d : Dyn} (hW : RW w c d) (i v : Nat) : RW (wh_set_kind w (upd (wh_kind w) i (nI v))) (kndC c i v) d := by
  obtain ⟨w1, w2, w3, w4, w5, w6, w7, w8, w9⟩ := hW
  refine ⟨w1, w2, w3, w4, w5, w6, w7, w8, fun j hj => ?_⟩
  obtain ⟨a1, a2, a3⟩ := w9 j hj
  have hu : upd (wh_kind w) i (nI v) j = nI (updN (cKind c) i v j) := by
    unfold updN
    by_cases e : j = i
    · subst e; rw [upd_s, if_pos rfl]
    · rw [upd_n e, if_neg e]; exact a1
  exact ⟨hu, a2, a3⟩
theorem RMzkndC {y : Md} {c : Cfg} (hM : RM y c) {i v : Nat} {t Z : Ar} (hZ : ∀ j, j < cN c → Z j = nI (updN (cKind c) i v j)) : RM (kY y t Z (md_longs y) (md_strongs y)) (kndC c i v) := by
  obtain ⟨m1, m2, m3, m4⟩ := hM
  refine ⟨m1, m2, m3, fun j hj => ?_⟩
  obtain ⟨a1, a2, a3⟩ := m4 j hj
  have hu := hZ j hj
  exact ⟨hu, a2, a3⟩
theorem RMkndC {y : Md} {c : Cfg} (hM : RM y c) {i v : Nat} {S : Ar} (hS : ∀ j, j ≠ i → S j = md_kinds y j) (t : Ar) : RM (kY y t (upd S i (nI v)) (md_longs y) (md_strongs y)) (kndC c i v) := by
  refine RMzkndC hM (fun j hj => ?_)
  obtain ⟨a1, a2, a3⟩ := hM.2.2.2 j hj
  unfold updN
  by_cases e : j = i
  · subst e; rw [upd_s, if_pos rfl]
  · rw [upd_n e, if_neg e, hS j e]; exact a1
theorem ckndC_ok {a : As} {w : Wh} {c : Cfg} {d : Dyn} (hW : RW w c d) (hC : okC c) (hD : okD c d) (h3 : 3 ≤ cN c) (hr : dRut d < 400) {f : Ar} {b : Nat → Nat} {n i : Nat} (hi : i < cN c) (hn20 : n ≤ 20) (hb : ∀ k, k < n → f k = nI (b k) ∧ b k ≤ 1) : ∃ a1, f_X0_likelyKinds 40 a w f (nI i) (nI n) = some (setI (fun v => asN (kndC c i v) d b n) 6, a1) := by
  have hn := okC_n hC
  have key : ∃ o, f_X0_likelyKinds 40 a w f (nI i) (nI n) = some o ∧ ∃ a1, o = (setI (fun v => asN (kndC c i v) d b n) 6, a1) := by
    unfold f_X0_likelyKinds
    refine lp_e (fun k s => ∃ a1, s = (setI (fun v => asN (kndC c i v) d b n) k, nI k, a1)) _ 6 ⟨a, rfl⟩ (by omega) ?_ ?_
    · rintro k s hk ⟨a1, rfl⟩
      obtain ⟨q1, e1, h1⟩ := take_ok (w := as_trial a1) hW hC hD
      obtain ⟨q2, e2⟩ := climpsAs_ok (RWkndC h1 i k) (okkndC hC (by omega)) (d := d) hD h3 hr hn20 hb
      show ∃ t, f_X0_likelyKinds_B6 40 w f (nI i) (nI n) (setI _ k) (nI k) a1 = _ ∧ ∃ a1, t = (if asN (kndC c i k) d b n = true then setI (fun v => asN (kndC c i v) d b n) k ||| jshl (1 : Int32) (nI k) else setI (fun v => asN (kndC c i v) d b n) k, nI (k + 1), a1)
      unfold f_X0_likelyKinds_B6 f_X0_likelyKinds_J56
      rw [if_neg (show ¬ (6 : Int32) ≤ nI k from nI_ge hk (by decide)), e1, ob_some, gd_b (by omega) (by decide), ix_n (by omega), e2, ob_some, nI_1]
      dsimp only
      by_cases e : asN (kndC c i k) d b n = true
      · rw [if_pos e, if_pos e, if_neg (show ¬ nI 1 = 0 by decide)]
        exact ⟨_, rfl, _, rfl⟩
      · rw [if_neg e, if_neg e, if_pos (show nI 0 = 0 from nI_0)]
        exact ⟨_, rfl, _, rfl⟩
    · rintro s ⟨a1, rfl⟩
      refine ⟨_, ?_, a1, rfl⟩
      show f_X0_likelyKinds_B6 40 w f (nI i) (nI n) (setI (fun v => asN (kndC c i v) d b n) 6) (nI 6) a1 = _
      unfold f_X0_likelyKinds_B6
      rw [if_pos (show (6 : Int32) ≤ nI 6 by decide)]; rfl
  obtain ⟨o, e, a1, rfl⟩ := key
  exact ⟨a1, e⟩
theorem mkndC_ok {y : Md} {c : Cfg} {d : Dyn} (hM : RM y c) (hN : RT (md_now y) 0 d) (hC : okC c) (hD : okD c d) (h3 : 3 ≤ cN c) (hr : dRut d < 400) {b : Nat → Nat} {r n i : Nat} (hi : i < cN c) (hr6 : r < 6) (hs : md_sizes y r = nI n) (hn20 : n ≤ 20) (hb : ∀ k, k < n → md_rows y (40 * r + k) = nI (b k) ∧ b k ≤ 1) : ∃ t, lp (f_X6_kinds_L43 (nI i) (nI r) (md_kinds y i)) fuel ((0 : Int32), (0 : Int32), y) = some (setI (fun v => asN (kndC c i v) d b n) 6, md_set_tried y t) := by
  have hn := okC_n hC
  have key : ∃ o, lp (f_X6_kinds_L43 (nI i) (nI r) (md_kinds y i)) fuel ((0 : Int32), (0 : Int32), y) = some o ∧ ∃ t, o = (setI (fun v => asN (kndC c i v) d b n) 6, md_set_tried y t) := by
    refine lp_e (fun k s => ∃ t S, s = (setI (fun v => asN (kndC c i v) d b n) k, nI k, kY y t S (md_longs y) (md_strongs y)) ∧ ∀ j, j ≠ i → S j = md_kinds y j) _ 6 ⟨md_tried y, md_kinds y, rfl, fun _ _ => rfl⟩ (by omega) ?_ ?_
    · rintro k s hk ⟨t, S, rfl, hS⟩
      obtain ⟨t1, e1, h1⟩ := copy_kY hN t S (md_longs y) (md_strongs y)
      have hs' : ∀ t Z : Ar, md_sizes (kY y t Z (md_longs y) (md_strongs y)) r = nI n := fun _ _ => hs
      have hb' : ∀ t Z : Ar, ∀ k, k < n → md_rows (kY y t Z (md_longs y) (md_strongs y)) (40 * r + k) = nI (b k) ∧ b k ≤ 1 := fun _ _ => hb
      obtain ⟨t2, e2⟩ := isSo_ok (RMkndC hM (v := k) hS t1) h1 (okkndC hC (by omega)) (d := d) hD h3 hr hr6 (hs' _ _) hn20 (hb' _ _)
      rw [kY_s_tried, kY_s_tried] at e2
      show ∃ s1, f_X6_kinds_B43 (nI i) (nI r) (md_kinds y i) (setI _ k) (nI k) (kY y t S (md_longs y) (md_strongs y)) = _ ∧ ∃ t S, s1 = (if asN (kndC c i k) d b n = true then setI (fun v => asN (kndC c i v) d b n) k ||| jshl (1 : Int32) (nI k) else setI (fun v => asN (kndC c i v) d b n) k, nI (k + 1), kY y t S (md_longs y) (md_strongs y)) ∧ ∀ j, j ≠ i → S j = md_kinds y j
      unfold f_X6_kinds_B43 f_X6_kinds_J80
      rw [if_neg (show ¬ (6 : Int32) ≤ nI k from nI_ge hk (by decide)), e1, ob_some, gd_b (by omega) (by decide), ix_n (by omega), kY_f_kinds, kY_s_kinds, e2, ob_some, nI_1]
      dsimp only
      have hS2 : ∀ j, j ≠ i → upd S i (nI k) j = md_kinds y j := fun j hj => (upd_n hj).trans (hS j hj)
      by_cases e : asN (kndC c i k) d b n = true
      · rw [if_pos e, if_pos e, if_neg (show ¬ nI 1 = 0 by decide)]
        exact ⟨_, rfl, t2, _, rfl, hS2⟩
      · rw [if_neg e, if_neg e, if_pos (show nI 0 = 0 from nI_0), or_0]
        exact ⟨_, rfl, t2, _, rfl, hS2⟩
    · rintro s ⟨t, S, rfl, hS⟩
      have hu : upd S i (md_kinds y i) = md_kinds y := by
        funext j
        by_cases e : j = i
        · subst e; rw [upd_s]
        · rw [upd_n e, hS j e]
      refine ⟨_, ?_, t, rfl⟩
      show f_X6_kinds_B43 (nI i) (nI r) (md_kinds y i) (setI (fun v => asN (kndC c i v) d b n) 6) (nI 6) (kY y t S (md_longs y) (md_strongs y)) = _
      unfold f_X6_kinds_B43 f_X6_kinds_J89
      rw [if_pos (show (6 : Int32) ≤ nI 6 by decide), gd_b (by omega) (by decide), ix_n (by omega), kY_f_kinds, kY_s_kinds, hu, ← kY_tr]
      rfl
  obtain ⟨o, e, t, rfl⟩ := key
  exact ⟨t, e⟩
theorem s_kinds : S_kinds Rel := by
  intro x y h v u
  have hRel := h
  obtain ⟨hT, hR, hX, c, E, hWE⟩ := h
  obtain ⟨hC, hE, hRC, hM, hd, hN, hL, hK⟩ := id hWE
  obtain ⟨o1, o2⟩ := okD_rep hC hE
  have h40 := hE.1
  have hn := okC_n hC
  unfold f_X5_kinds f_X6_kinds f_X5_refuseGuess
  rcases num_cases v (cN c) (by omega) with hb | ⟨i, hi, rfl⟩
  · rw [isSpoke_bad hRC.1.1 hb, mSpoke_bad hM.1 hn hb]
    exact ⟨-1, x, y, rfl, rfl, hRel⟩
  · have h3 := okC_3 hC (by omega)
    rw [isSpoke_in hRC.1.1 hn hi, mSpoke_in hM.1 hn hi, ob_some, ob_some, if_neg (show ¬ (1 : Int32) = 0 by decide), if_neg (show ¬ (1 : Int32) = 0 by decide)]
    rcases num_cases u 6 (by decide) with hb | ⟨r, hr, rfl⟩
    · rw [isNumber_bad hb, isRow_bad hb]
      exact ⟨-1, x, y, rfl, rfl, hRel⟩
    · rw [isNumber_in hr (by decide), isRow_in hr, ob_some, ob_some, if_neg (show ¬ (1 : Int32) = 0 by decide), if_neg (show ¬ (1 : Int32) = 0 by decide)]
      rcases needs_ok hRel hr with ⟨x1, y1, g1, g2, g3⟩ | ⟨n, b, n20, s1, s2, b1, b2, g1, g2⟩
      · rw [g1, g2]
        exact ⟨-3, x1, y1, rfl, rfl, g3⟩
      · obtain ⟨a1, e1⟩ := ckndC_ok (a := ww_aside x) hRC.1 hC o1 h3 (by omega) hi n20 b1
        obtain ⟨t, e2⟩ := mkndC_ok hM hN hC o1 h3 (by omega) hi hr s2 n20 b2
        rw [g1, g2, ob_some, ob_some, ob_some, if_pos (show ((0 : Int32), x).1 = 0 from rfl), if_pos (show (0 : Int32) ≤ ((0 : Int32), y).1 from (by decide : (0 : Int32) ≤ 0))]
        dsimp only
        unfold f_X3_placesOf f_X3_sizeOf
        rw [gd_b hr (by decide), gd_b hr (by decide), ob_some, ix_n (j := r) (by omega), s1, ob_some, gd_b (show i < 8 by omega) (by decide), ix_n (j := i) (by omega), nm_eq, e1, e2, ob_some]
        exact ⟨_, ww_set_aside x a1, md_set_tried y t, rfl, rfl, relB hRel⟩
