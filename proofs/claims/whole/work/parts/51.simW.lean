/-! PURE SIDE: duel: the reference's loops; the simulation -/
theorem J200_ok {y : Md} {t O : Ar} {q : Nat} (hq : q < 6561) (x2 x3 v : Int32) : f_X6_duel_J200 (oY y t O) x2 x3 (nI q) v = some (Sum.inl (nI (q + 1), oY y t (upd O q v))) := by
  unfold f_X6_duel_J200
  rw [gd_b hq (by decide), ix_n (by omega), nI_1, oY_f_outcomes, oY_s_outcomes]
theorem best_loop {y : Md} {t O : Ar} {g : Nat → Nat} {q j : Nat} (hj : j < 100) (hq : 9 * q + 8 < 6561) (hO : ∀ k, k < 9 → O (9 * q + k) = nI (g k)) (hg : ∀ k, g k ≤ 1000000) (x2 : Int32) : lp (f_X6_duel_L114 (oY y t O) x2 (nI j) (nI q)) fuel ((1000000 : Int32), (0 : Int32)) = some (Sum.inl (nI (q + 1), oY y t (upd O q (nI (bestN (parN j) g 9))))) := by
  refine lp_for0 (fun k => (nI (bestN (parN j) g k), nI k)) 9 (fun k hk => ?_) ?_ rfl (by decide)
  · have hb := best_le (par := parN j) hg k
    have hgk := hg k
    have hidx : (9 : Int32) * nI q + nI k = nI (9 * q + k) := by
      rw [show (9 : Int32) * nI q = nI (9 * q) from pk_mul 9 q, nI_add]
    show f_X6_duel_B114 (oY y t O) x2 (nI j) (nI q) (nI (bestN (parN j) g k)) (nI k) = some (Sum.inl (nI (bestN (parN j) g (k + 1)), nI (k + 1)))
    rw [best_succ]
    unfold f_X6_duel_B114 f_X6_duel_J177 f_X6_duel_J173 f_X6_duel_J178 f_X6_duel_J192
    rw [if_neg (show ¬ (9 : Int32) ≤ nI k from nI_ge hk (by decide)), hidx, gd_b (show 9 * q + k < 6561 by omega) (by decide), ix_n (by omega), oY_f_outcomes, hO k hk, nm_eq, nI_1]
    by_cases e1 : g k = 1000000
    · rw [if_pos e1, if_pos (show nI (g k) = (1000000 : Int32) by rw [e1]; rfl), if_pos (show (0 : Int32) = 0 from rfl)]
    · rw [if_neg e1, if_neg (show ¬ nI (g k) = (1000000 : Int32) from fun z => e1 ((nI_eq (b := 1000000) (by omega) (by decide)).mp z))]
      by_cases e2 : bestN (parN j) g k = 1000000
      · rw [if_pos e2, if_pos (show nI (bestN (parN j) g k) = (1000000 : Int32) by rw [e2]; rfl), if_neg (show ¬ (1 : Int32) = 0 by decide)]
      · rw [if_neg e2, if_neg (show ¬ nI (bestN (parN j) g k) = (1000000 : Int32) from fun z => e2 ((nI_eq (b := 1000000) (by omega) (by decide)).mp z))]
        by_cases hp : parN j = true
        · rw [if_pos ((par_j hj).mpr hp), hp, pick_t]
          rw [hp] at hb
          by_cases e3 : bestN true g k < g k
          · rw [if_neg (nI_ge e3 (by omega)), if_pos e3, if_neg (show ¬ (1 : Int32) = 0 by decide)]
          · rw [if_pos (nI_le (by omega) (by omega)), if_neg e3, if_pos (show (0 : Int32) = 0 from rfl)]
        · have hp' : parN j = false := by simpa using hp
          rw [if_neg (fun z => hp ((par_j hj).mp z)), hp', pick_f]
          rw [hp'] at hb
          by_cases e3 : g k < bestN false g k
          · rw [if_neg (nI_ge e3 (by omega)), if_pos e3, if_neg (show ¬ (1 : Int32) = 0 by decide)]
          · rw [if_pos (nI_le (by omega) (by omega)), if_neg e3, if_pos (show (0 : Int32) = 0 from rfl)]
  · show f_X6_duel_B114 (oY y t O) x2 (nI j) (nI q) (nI (bestN (parN j) g 9)) (nI 9) = _
    unfold f_X6_duel_B114
    rw [if_pos (show (9 : Int32) ≤ nI 9 by decide), J200_ok (by omega)]; rfl
theorem level_loop {y : Md} {c : Cfg} {d : Dyn} (hn8 : cN c ≤ 8) {T j : Nat} (hT : T ≤ 4) (hj : j < T) {t O : Ar} (hO : ∀ q, q < 9 ^ (j + 1) → O q = nI (valT c d T (j + 1) q)) : ∃ O', lp (f_X6_duel_L101 (nI (9 ^ j)) (nI j)) fuel ((0 : Int32), oY y t O) = some (Sum.inl (nI (9 ^ j), nI j + (-1 : Int32), oY y t O')) ∧ ∀ q, q < 9 ^ j → O' q = nI (valT c d T j q) := by
  have h9 := p9 (T := j + 1) (by omega)
  have h9j := p9 (T := j) (by omega)
  have hs : 9 ^ (j + 1) = 9 ^ j * 9 := Nat.pow_succ 9 j
  have key : ∃ o, lp (f_X6_duel_L101 (nI (9 ^ j)) (nI j)) fuel ((0 : Int32), oY y t O) = some o ∧ ∃ O', o = Sum.inl (nI (9 ^ j), nI j + (-1 : Int32), oY y t O') ∧ ∀ q, q < 9 ^ j → O' q = nI (valT c d T j q) := by
    refine lp_e (fun q s => ∃ O', s = (nI q, oY y t O') ∧ (∀ p, p < q → O' p = nI (valT c d T j p)) ∧ ∀ p, q ≤ p → p < 9 ^ (j + 1) → O' p = nI (valT c d T (j + 1) p)) _ (9 ^ j) ⟨O, rfl, fun p hp => absurd hp (by omega), fun p _ hp => hO p hp⟩ (by omega) ?_ ?_
    · rintro q s hq ⟨O', rfl, b1, b2⟩
      have hl := best_loop (y := y) (t := t) (O := O') (g := fun k => valT c d T (j + 1) (9 * q + k)) (q := q) (j := j) (by omega) (by omega) (fun k hk => b2 (9 * q + k) (by omega) (by omega)) (fun k => valT_le _ _ _ _ _) (nI (9 ^ j))
      rw [level_ok hn8 hj] at hl
      refine ⟨(nI (q + 1), oY y t (upd O' q (nI (valT c d T j q)))), ?_, _, rfl, fun p hp => ?_, fun p hp hp2 => ?_⟩
      · show f_X6_duel_B101 (nI (9 ^ j)) (nI j) (nI q) (oY y t O') = _
        unfold f_X6_duel_B101
        rw [if_neg (nI_ge hq (by omega))]
        exact hl
      · by_cases e : p = q
        · subst e; rw [upd_s]
        · rw [upd_n e]; exact b1 p (by omega)
      · rw [upd_n (by omega)]; exact b2 p (by omega) hp2
    · rintro s ⟨O', rfl, b1, b2⟩
      refine ⟨_, ?_, O', rfl, b1⟩
      show f_X6_duel_B101 (nI (9 ^ j)) (nI j) (nI (9 ^ j)) (oY y t O') = _
      unfold f_X6_duel_B101 f_X6_duel_J215
      rw [if_pos (nI_le (Nat.le_refl _) (by omega))]; rfl
  obtain ⟨o, e, O', rfl, h⟩ := key
  exact ⟨O', e, h⟩
theorem down_loop {y : Md} {c : Cfg} {d : Dyn} (hn8 : cN c ≤ 8) {T : Nat} (hT : T ≤ 4) {t O : Ar} (hO : ∀ q, q < 9 ^ T → O q = nI (valT c d T T q)) : ∃ O', f_X6_duel_J85 (oY y t O) (nI T) (nI (9 ^ T)) = some (nI (valT c d T 0 0), oY y t O') := by
  have key : ∃ o, f_X6_duel_J85 (oY y t O) (nI T) (nI (9 ^ T)) = some o ∧ ∃ O', o = (nI (valT c d T 0 0), oY y t O') := by
    unfold f_X6_duel_J85
    refine lp_e (fun k s => ∃ O', s = (nI (9 ^ (T - k)), nI (T - k) + (-1 : Int32), oY y t O') ∧ ∀ q, q < 9 ^ (T - k) → O' q = nI (valT c d T (T - k) q)) _ T ⟨O, by rw [Int32.sub_eq_add_neg]; rfl, hO⟩ (by omega) ?_ ?_
    · rintro k s hk ⟨O', rfl, hO'⟩
      have h9 := p9 (T := T - k) (by omega)
      have hsk : T - k = T - (k + 1) + 1 := by omega
      rw [down_n hk]
      rw [hsk] at hO' ⊢
      generalize T - (k + 1) = j at hO' hsk ⊢
      have hjT : j < T := by omega
      obtain ⟨O2, e2, h2⟩ := level_loop (y := y) (c := c) (d := d) hn8 hT hjT (t := t) hO'
      have h9' := p9 (T := j + 1) (by omega)
      have hd : nI (9 ^ (j + 1)) / (9 : Int32) = nI (9 ^ j) := by
        rw [show nI (9 ^ (j + 1)) / (9 : Int32) = nI (9 ^ (j + 1) / 9) from pk_div (d := 9) (by omega) (by decide) (by decide), Nat.pow_succ, Nat.mul_div_cancel _ (by decide)]
      refine ⟨_, ?_, O2, rfl, h2⟩
      show f_X6_duel_B89 (nI (9 ^ (j + 1))) (nI j) (oY y t O') = _
      unfold f_X6_duel_B89
      rw [if_neg (nI_pos (by omega)), hd]
      exact e2
    · rintro s ⟨O', rfl, hO'⟩
      rw [Nat.sub_self] at hO' ⊢
      refine ⟨_, ?_, O', rfl⟩
      show f_X6_duel_B89 (nI (9 ^ 0)) (nI 0 + (-1 : Int32)) (oY y t O') = _
      unfold f_X6_duel_B89 f_X6_duel_J221
      rw [if_pos (show nI 0 + (-1 : Int32) < 0 by decide), oY_f_outcomes, hO' 0 (by decide)]; rfl
  obtain ⟨o, e, O', rfl⟩ := key
  exact ⟨O', e⟩
theorem J78_ok {y : Md} {t O : Ar} {q : Nat} (hq : q < 6561) (x1 x2 v : Int32) : f_X6_duel_J78 (oY y t O) x1 x2 (nI q) (nI q) v = some (Sum.inl (nI (q + 1), oY y t (upd O q v))) := by
  unfold f_X6_duel_J78
  rw [gd_b hq (by decide), ix_n (by omega), nI_1, oY_f_outcomes, oY_s_outcomes]
theorem mduel_ok {y : Md} {c : Cfg} {d : Dyn} (hM : RM y c) (hN : RT (md_now y) 0 d) (hC : okC c) (hD : okD c d) (h3 : 3 ≤ cN c) (hr : dRut d < 400) {T : Nat} (hT : T ≤ 4) : ∃ t O, lp (f_X6_duel_L25 y (nI T)) fuel ((1 : Int32), (0 : Int32)) = some (nI (valN c d T true (dThere d, 0)), oY y t O) := by
  have hn := okC_n hC
  have hp0 := Nat.two_pow_pos (cN c)
  have h9 := p9 hT
  have key : ∃ o, f_X6_duel_J41 y (nI T) (nI (9 ^ T)) = some o ∧ ∃ t O, o = (nI (valT c d T 0 0), oY y t O) := by
    unfold f_X6_duel_J41
    refine lp_e (fun k s => ∃ t O, s = (nI k, oY y t O) ∧ ∀ q, q < k → O q = nI (valT c d T T q)) _ (9 ^ T) ⟨md_tried y, md_outcomes y, rfl, fun q hq => absurd hq (by omega)⟩ (by omega) ?_ ?_
    · rintro k s hk ⟨t, O, rfl, hO⟩
      obtain ⟨t1, e1, g1⟩ := copy_oY hN t O
      obtain ⟨t2, e2, g2⟩ := moved_ok (s0 := (dThere d, 0)) (d := d) (O := O) hM hn hD.2.2.1 hp0 (by rw [frD_0]; exact g1) hT hk
      have hfin : ∀ t' : Ar, ∀ v : Int32, v = nI (valT c d T T k) → ∃ t O', (nI (k + 1), oY y t' (upd O k v)) = (nI (k + 1), oY y t O') ∧ ∀ q, q < k + 1 → O' q = nI (valT c d T T q) := by
        intro t' v hv
        refine ⟨t', _, rfl, fun q hq => ?_⟩
        by_cases e : q = k
        · subst e; rw [upd_s]; exact hv
        · rw [upd_n e]; exact hO q (by omega)
      show ∃ s1, f_X6_duel_B43 (nI T) (nI (9 ^ T)) (nI k) (oY y t O) = _ ∧ _
      unfold f_X6_duel_B43
      rw [if_neg (nI_ge hk (by omega)), e1, ob_some, e2, ob_some]
      dsimp only
      cases e : stN (cN c) (dThere d, 0) T k with
      | none =>
        rw [show (Option.isSome (none : Option (Nat × Nat))) = false from rfl, if_neg (show ¬ false = true by decide), if_pos (show nI 0 = 0 from nI_0), J78_ok (by omega)]
        exact ⟨_, rfl, hfin t2 _ (by rw [valT_n e]; rfl)⟩
      | some s =>
        obtain ⟨u1, u2⟩ := st_ok hD.2.2.1 hp0 T k s e
        obtain ⟨t3, e3, -⟩ := limps_oY (RM_oY hM t2 O) (g2 s e) hC (okD_fr hD u1) h3 (show dRut d < 500 by omega) (n := 12) (by omega) true
        rw [show (Option.isSome (some s)) = true from rfl, if_pos rfl, if_neg (show ¬ nI 1 = 0 by decide), show f_X6_limpsIn (oY y t2 O) (12 : Int32) (1 : Int32) = _ from e3, ob_some, J78_ok (by omega)]
        refine ⟨_, rfl, hfin t3 _ ?_⟩
        rw [valT_s e, Nat.sub_self]
        show _ = nI (limW c d s.1 s.2)
        rw [limW_fr u2]
    · rintro s ⟨t, O, rfl, hO⟩
      obtain ⟨O2, e2⟩ := down_loop (y := y) (c := c) (d := d) hn hT (t := t) hO
      refine ⟨_, ?_, t, O2, rfl⟩
      show f_X6_duel_B43 (nI T) (nI (9 ^ T)) (nI (9 ^ T)) (oY y t O) = _
      unfold f_X6_duel_B43
      rw [if_pos (nI_le (Nat.le_refl _) (by omega)), e2]; rfl
  obtain ⟨o, e, t, O, rfl⟩ := key
  refine ⟨t, O, ?_⟩
  have hv : valT c d T 0 0 = valN c d T true (dThere d, 0) := valT_s rfl
  rw [hv] at e
  refine lp_for0 (fun k => (nI (9 ^ k), nI k)) T (fun k hk => ?_) ?_ rfl (by show T < 100000; omega)
  · show f_X6_duel_B25 y (nI T) (nI (9 ^ k)) (nI k) = some (Sum.inl (nI (9 ^ (k + 1)), nI (k + 1)))
    unfold f_X6_duel_B25
    rw [if_neg (nI_ge hk (by omega)), nI_1, show nI (9 ^ k) * (9 : Int32) = nI (9 ^ k * 9) from pk_mul _ 9, Nat.pow_succ]
  · show f_X6_duel_B25 y (nI T) (nI (9 ^ T)) (nI T) = _
    unfold f_X6_duel_B25
    rw [if_pos (nI_le (Nat.le_refl _) (by omega)), e]; rfl
theorem s_duel : S_duel Rel := by
  intro x y h v
  have hRel := h
  obtain ⟨hT, hR, hX, c, E, hWE⟩ := h
  obtain ⟨hC, hE, hRC, hM, hd, hN, hL, hK⟩ := id hWE
  obtain ⟨o1, o2⟩ := okD_rep hC hE
  have h40 := hE.1
  unfold f_X5_duel f_X6_duel
  rcases num_cases v 5 (by decide) with hb | ⟨k, hk, rfl⟩
  · refine ⟨-1, x, y, ?_, ?_, hRel⟩
    · by_cases h0 : v < 0
      · rw [if_pos h0]
      · rw [if_neg h0, if_neg (show ¬ v ≤ (4 : Int32) from fun z => absurd (lt_of_nle (n := 4) (by decide) (hb.resolve_left h0)) (Int32.not_lt.mpr z))]
    · rw [show f_X6_in v 0 4 = some 0 from in_bad (k := 5) (by decide) hb]; rfl
  · rw [if_neg (nI_pos (by omega)), if_pos (show nI k ≤ (4 : Int32) from nI_le (b := 4) (by omega) (by decide)), show f_X6_in (nI k) 0 4 = some 1 from in_good (k := 5) (by decide) hk, ob_some, if_neg (show ¬ (1 : Int32) = 0 by decide)]
    by_cases h0 : cN c = 0
    · rw [cEmpty0 hRC.1 h0, if_pos (mn0 hM h0)]
      exact ⟨-4, x, y, rfl, rfl, hRel⟩
    · have h3 := okC_3 hC h0
      obtain ⟨a1, e1⟩ := cduel_ok (a := ww_aside x) hRC.1 hC o1 h3 (by omega) (k := k) (by omega)
      obtain ⟨t, O, e2⟩ := mduel_ok hM hN hC o1 h3 (by omega) (T := k) (by omega)
      rw [cEmpty1 hRC.1 hC h3, if_neg (mn1 hM hC h3), ob_some, if_pos (show (0 : Int32) = 0 from rfl), e1, e2]
      exact ⟨_, ww_set_aside x a1, oY y t O, rfl, rfl, Rel_oY (Relw_aside hRel a1) t O⟩
