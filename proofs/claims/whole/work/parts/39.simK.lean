/-! PURE SIDE: lots, goes, over, limps -/
theorem lp2_inv {σ ρ σ' ρ' : Type} {b1 : σ → Option (σ ⊕ ρ)} {b2 : σ' → Option (σ' ⊕ ρ')} (I : Nat → σ → σ' → Prop) (Q : ρ → ρ' → Prop) (N : Nat) (step : ∀ k s t, k < N → I k s t → ∃ s1 t1, b1 s = some (.inl s1) ∧ b2 t = some (.inl t1) ∧ I (k + 1) s1 t1) (stop : ∀ s t, I N s t → ∃ o p, b1 s = some (.inr o) ∧ b2 t = some (.inr p) ∧ Q o p) : ∀ (n k : Nat) (s : σ) (t : σ'), k ≤ N → N < n + k → I k s t → ∃ o p, lp b1 n s = some o ∧ lp b2 n t = some p ∧ Q o p := by
  intro n
  induction n with
  | zero => intro k s t h1 h2; omega
  | succ n ih =>
    intro k s t h1 h2 hI
    by_cases e : k = N
    · subst e
      obtain ⟨o, p, e1, e2, hQ⟩ := stop s t hI
      exact ⟨o, p, lp_stop e1, lp_stop e2, hQ⟩
    · obtain ⟨s1, t1, e1, e2, hI'⟩ := step k s t (by omega) hI
      obtain ⟨o, p, e3, e4, hQ⟩ := ih (k + 1) s1 t1 (by omega) (by omega) hI'
      exact ⟨o, p, (lp_go e1).trans e3, (lp_go e2).trans e4, hQ⟩
theorem lpp2 {σ ρ σ' ρ' : Type} {b1 : σ → Option (σ ⊕ ρ)} {b2 : σ' → Option (σ' ⊕ ρ')} (I : Nat → σ → σ' → Prop) (Q : ρ → ρ' → Prop) (N : Nat) {s : σ} {t : σ'} (h0 : I 0 s t) (hN : N < 100000) (step : ∀ k s t, k < N → I k s t → ∃ s1 t1, b1 s = some (.inl s1) ∧ b2 t = some (.inl t1) ∧ I (k + 1) s1 t1) (stop : ∀ s t, I N s t → ∃ o p, b1 s = some (.inr o) ∧ b2 t = some (.inr p) ∧ Q o p) : ∃ o p, lp b1 fuel s = some o ∧ lp b2 fuel t = some p ∧ Q o p := lp2_inv I Q N step stop fuel 0 s t (Nat.zero_le N) hN h0
theorem rng {v : Int32} {b : Nat} (hb : b < 2 ^ 31) (h0 : ¬ v < 0) (h : ¬ nI b < v) : ∃ m, m ≤ b ∧ v = nI m := nI_of2 (nI_toInt hb) h0 (Int32.not_lt.mp h)
theorem lt1_of_lt0 {v : Int32} (h : v < 0) : v < 1 := by
  rw [Int32.lt_iff_toInt_lt] at h ⊢
  have e0 : (0 : Int32).toInt = 0 := by decide
  have e1 : (1 : Int32).toInt = 1 := by decide
  omega
theorem rng1 {v : Int32} {b : Nat} (hb : b < 2 ^ 31) (h0 : ¬ v < 1) (h : ¬ nI b < v) : ∃ m, 1 ≤ m ∧ m ≤ b ∧ v = nI m := by
  obtain ⟨m, hm, rfl⟩ := rng hb (fun z => h0 (lt1_of_lt0 z)) h
  refine ⟨m, ?_, hm, rfl⟩
  apply Nat.one_le_iff_ne_zero.mpr
  rintro rfl
  exact h0 (by decide)
theorem nI_ne_m9 {k : Nat} (h : k < 2 ^ 31) : ¬ nI k = -9 := by
  have := nI_mm (k := k) (j := 9) h (by decide) (by decide)
  intro e
  rw [← this]
  exact e
/-- one deed by lot -/
theorem lot_ok {x : Ww} {y : Md} {c : Cfg} {E : List (Nat × Nat)} (h : RWE x y c E) (h3 : 3 ≤ cN c) (hl : E.length < 40) {a : Nat} (ha : a < 2 ^ 31) (x1 x5 : Int32) : ∃ e ct L vv nw, f_X5_doLot x (lN a) = some (ww_set_cart x ct) ∧ Option.bind (f_X6_remember y) (fun q69 => if (lg_cmp (jremL (lN a) (6 : Int64)) (0 : Int64)) = 0 then (f_X6_lots_J162 (md_set_now q69 (upd (md_now q69) 2 ((1 : Int32) - ((md_now q69) 2)))) x1 (lN a) x5) else (if (lg_cmp (jremL (lN a) (6 : Int64)) (1 : Int64)) = 0 then (gd (decide (¬ ((md_n q69).toInt64) = 0)) (Option.bind (f_X6_puts 12 (md_now q69) ((jremL ((lN a) / (8 : Int64)) ((md_n q69).toInt64)).toInt32)) (fun q125 => f_X6_lots_J162 (md_set_now q69 q125) x1 (lN a) x5))) else (Option.bind (f_X6_isOver_now q69) (fun q136 => if q136 = 0 then (Option.bind (f_X6_steps_now q69) (fun q158 => f_X6_lots_J162 q158.2 x1 (lN a) x5)) else (Option.bind (f_X6_soaks 12 (md_now q69)) (fun q146 => f_X6_lots_J162 (md_set_now q69 q146.2) x1 (lN a) x5)))))) = some (Sum.inl (lN a, x5 + 1, md_set_now (md_set_deedMany (md_set_log y L) vv) nw)) ∧ okA c e ∧ RWE (ww_set_cart x ct) (md_set_now (md_set_deedMany (md_set_log y L) vv) nw) c (E ++ [e]) := by
  obtain ⟨hC, hE, hRC, hM, hd, hN, hL, hK⟩ := id h
  obtain ⟨o1, o2⟩ := okD_rep hC hE
  have h40 := hE.1
  have hn := okC_n hC
  have hr6 : jremL (lN a) (6 : Int64) = lN (a % 6) := pk_lRem (by omega) (b := 6) (by decide) (by decide)
  have hd8 : lN a / (8 : Int64) = lN (a / 8) := pk_lDiv (by omega) (b := 8) (by decide) (by decide)
  have hnl : (nI (cN c)).toInt64 = lN (cN c) := nI_l (by omega)
  have hrn : jremL (lN (a / 8)) (lN (cN c)) = lN (a / 8 % cN c) := pk_lRem (by omega) (by omega) (by omega)
  have hmod : a / 8 % cN c < cN c := Nat.mod_lt _ (by omega)
  have hgd : decide (¬ lN (cN c) = 0) = true := by
    have : ¬ lN (cN c) = lN 0 := fun e => by have := (lN_eq (by omega) (by decide)).mp e; omega
    exact decide_eq_true (show ¬ lN (cN c) = 0 from this)
  obtain ⟨L, vv, hv, e2, l1, l2⟩ := rem_ok hd hl
  unfold f_X5_doLot
  rw [hr6, lN_i, nm_eq, e2, ob_some]
  have hl0 : (lg_cmp (lN (a % 6)) (0 : Int64) = 0) ↔ a % 6 = 0 := by
    rw [lg_cmp_eq]
    exact lN_eq (b := 0) (by omega) (by decide)
  have hl1 : (lg_cmp (lN (a % 6)) (1 : Int64) = 0) ↔ a % 6 = 1 := by
    rw [lg_cmp_eq]
    exact lN_eq (b := 1) (by omega) (by decide)
  by_cases a0 : a % 6 = 0
  · have he : okA c (2, 0) := ⟨by decide, by decide, fun h => absurd h (by decide)⟩
    obtain ⟨ct, e1, h1⟩ := add_ok hRC hC hE h3 hl he
    obtain ⟨h4, h5⟩ := mweather_ok hN o1
    rw [if_pos (show nI (a % 6) = 0 by rw [a0]; rfl), if_pos (hl0.mpr a0), show f_X1_add (ww_cart x) (2 : Int32) (0 : Int32) = _ from e1]
    exact ⟨(2, 0), ct, L, vv, _, rfl, rfl, he, deedW h h3 hl he hv h1 l1 l2 h4⟩
  · have a0' : ¬ nI (a % 6) = 0 := nI_ne0 (by omega) (by omega)
    rw [if_neg a0', if_neg (fun z => a0 (hl0.mp z))]
    by_cases a1 : a % 6 = 1
    · have he : okA c (4, a / 8 % cN c) := ⟨by show 4 ≤ 4; omega, by show a / 8 % cN c < 8; omega, fun _ => hmod⟩
      obtain ⟨ct, e1, h1⟩ := add_ok hRC hC hE h3 hl he
      obtain ⟨t1, e3, h4⟩ := mputs_ok hN hC o1 hmod
      rw [if_pos (show nI (a % 6) = 1 by rw [a1]; rfl), if_pos (hl1.mpr a1), hRC.1.1, nm_eq]
      rw [show jmax (1 : Int32) (nI (cN c)) = nI (cN c) by unfold jmax; rw [if_pos (show (1 : Int32) < nI (cN c) from nI_lt (a := 1) (by omega) (by omega))], hnl, gd_t hgd, hd8, hrn, lN_i, show f_X1_add (ww_cart x) (4 : Int32) (nI (a / 8 % cN c)) = _ from e1]
      rw [show md_n (md_set_deedMany (md_set_log y L) vv) = nI (cN c) from hM.1, hnl, gd_t hgd, hrn, lN_i, show f_X6_puts 12 (md_now (md_set_deedMany (md_set_log y L) vv)) (nI (a / 8 % cN c)) = _ from e3]
      exact ⟨(4, a / 8 % cN c), ct, L, vv, t1, rfl, rfl, he, deedW h h3 hl he hv h1 l1 l2 h4⟩
    · have a1' : ¬ nI (a % 6) = 1 := fun z => a1 ((nI_eq (b := 1) (by omega) (by decide)).mp z)
      rw [if_neg a1', if_neg (fun z => a1 (hl1.mp z)), RW_over hRC.1 hC o1, mover_now (y := md_set_deedMany (md_set_log y L) vv) hM.1 hN.2.2.2.1 hn (there_lt hC o1), ob_some, ob_some]
      unfold f_X5_doLot_J89
      by_cases ho : overN (cN c) (dThere (repN c E)) = true
      · rw [if_pos ho, if_neg (show ¬ nI 1 = 0 by decide), if_neg (show ¬ nI 1 = 0 by decide)]
        have he : okA c (1, 0) := ⟨by decide, by decide, fun h => absurd h (by decide)⟩
        obtain ⟨ct, e1, h1⟩ := add_ok hRC hC hE h3 hl he
        obtain ⟨t1, e3, h4⟩ := msoak_ok hN hC o1
        rw [show f_X1_add (ww_cart x) (1 : Int32) (0 : Int32) = _ from e1, show f_X6_soaks 12 (md_now (md_set_deedMany (md_set_log y L) vv)) = _ from e3]
        exact ⟨(1, 0), ct, L, vv, t1, rfl, rfl, he, deedW h h3 hl he hv h1 l1 l2 h4⟩
      · rw [if_neg ho, if_pos (show nI 0 = 0 from nI_0), if_pos (show nI 0 = 0 from nI_0)]
        have he : okA c (0, 0) := ⟨by decide, by decide, fun h => absurd h (by decide)⟩
        obtain ⟨ct, e1, h1⟩ := add_ok hRC hC hE h3 hl he
        obtain ⟨t1, e3, h4⟩ := steps_now_ok (y := md_set_deedMany (md_set_log y L) vv) (RM_dl hM L _) hN hC o1 h3 (by omega)
        rw [show f_X1_add (ww_cart x) (0 : Int32) (0 : Int32) = _ from e1, e3]
        exact ⟨(0, 0), ct, L, vv, t1, rfl, rfl, he, deedW h h3 hl he hv h1 l1 l2 h4⟩
theorem s_lots : S_lots Rel := by
  intro x y h v u
  have hRel := h
  obtain ⟨hT, hR, hX, c, E, hWE⟩ := h
  obtain ⟨hC, hE, hRC, hM, hd, hN, hL, hK⟩ := id hWE
  have h40 := hE.1
  unfold f_X5_lots f_X6_lots
  rw [in_ok, in_ok]
  by_cases v1 : v < 1
  · rw [if_pos v1, if_pos v1]
    exact ⟨-1, x, y, rfl, rfl, hRel⟩
  · by_cases v2 : (20 : Int32) < v
    · rw [if_neg v1, if_neg v1, if_pos v2, if_pos v2]
      exact ⟨-1, x, y, rfl, rfl, hRel⟩
    · rw [if_neg v1, if_neg v1, if_neg v2, if_neg v2, ob_some, if_neg (show ¬ (1 : Int32) = 0 by decide)]
      obtain ⟨m, m1, m2, rfl⟩ := rng1 (b := 20) (by decide) v1 v2
      by_cases u1 : u < 1
      · rw [if_pos u1, if_pos u1]
        exact ⟨-1, x, y, rfl, rfl, hRel⟩
      · rw [if_neg u1, if_neg u1]
        obtain ⟨s, hs, rfl⟩ := nI_of (x := u) (fun z => u1 (lt1_of_lt0 z))
        rw [nI_l hs]
        have hcl : (lg_cmp (lN s) (2147483647 : Int64) < 0) ↔ s < 2147483647 := by
          rw [lg_cmp_lt]
          exact lN_lt (b := 2147483647) hs (by decide)
        by_cases s1 : s < 2147483647
        · rw [if_pos (hcl.mpr s1), if_neg (show ¬ (2147483646 : Int32) < nI s from nI_nlt (b := s) (a := 2147483646) (by omega) (by decide)), ob_some, if_neg (show ¬ (1 : Int32) = 0 by decide)]
          by_cases h0 : cN c = 0
          · rw [cEmpty0 hRC.1 h0, if_pos (mn0 hM h0)]
            exact ⟨-4, x, y, rfl, rfl, hRel⟩
          · have h3 := okC_3 hC h0
            rw [cEmpty1 hRC.1 hC h3, if_neg (mn1 hM hC h3), hRC.2.1, hd, ob_some, if_pos (show (0 : Int32) = 0 from rfl), nI_add]
            by_cases hf : E.length + m ≤ 40
            · rw [if_pos (show nI (E.length + m) ≤ 40 from nI_le hf (by decide)), if_pos (show nI (E.length + m) ≤ 40 from nI_le hf (by decide))]
              have key : ∃ o p, lp (f_X5_lots_L66 (nI m)) fuel (lN s, (0 : Int32), x) = some o ∧ lp (f_X6_lots_L52 (nI m)) fuel (lN s, (0 : Int32), y) = some p ∧ o.1 = p.1 ∧ Rel o.2 p.2 := by
                refine lpp2 (fun k s t => ∃ (a : Nat) (x1 : Ww) (y1 : Md) (F : List (Nat × Nat)), a < 2147483647 ∧ s = (lN a, nI k, x1) ∧ t = (lN a, nI k, y1) ∧ RX x1 y1 ∧ RWE x1 y1 c F ∧ F.length = E.length + k) _ m ⟨s, x, y, E, s1, rfl, rfl, ⟨hT, hR, hX⟩, hWE, rfl⟩ (by omega) ?_ ?_
                · rintro k _ _ hk ⟨a, x1, y1, F, ha, rfl, rfl, q1, q4, q5⟩
                  have hmul : jremL (lN a * (48271 : Int64)) (2147483647 : Int64) = lN (a * 48271 % 2147483647) := by
                    rw [show lN a * (48271 : Int64) = lN (a * 48271) from lN_mul a 48271]
                    exact pk_lRem (by omega) (b := 2147483647) (by decide) (by decide)
                  have hmul2 : jremL ((48271 : Int64) * lN a) (2147483647 : Int64) = lN (a * 48271 % 2147483647) := by
                    rw [show (48271 : Int64) * lN a = lN (48271 * a) from lN_mul 48271 a, Nat.mul_comm 48271 a]
                    exact pk_lRem (by omega) (b := 2147483647) (by decide) (by decide)
                  have hlt : a * 48271 % 2147483647 < 2147483647 := Nat.mod_lt _ (by decide)
                  obtain ⟨e, ct, L, vv, nw, g1, g2, g3, g4⟩ := lot_ok q4 h3 (by omega) (a := a * 48271 % 2147483647) (by omega) (nI m) (nI k)
                  refine ⟨(lN (a * 48271 % 2147483647), nI (k + 1), ww_set_cart x1 ct), (lN (a * 48271 % 2147483647), nI (k + 1), md_set_now (md_set_deedMany (md_set_log y1 L) vv) nw), ?_, ?_, _, _, _, F ++ [e], hlt, rfl, rfl, RXw_cart (RX_now (RX_deedMany (RX_log q1 L) vv) nw) ct, g4, ?_⟩
                  · show f_X5_lots_B66 (nI m) (lN a) (nI k) x1 = _
                    unfold f_X5_lots_B66
                    rw [if_neg (nI_ge hk (by omega)), hmul, nm_eq, g1, ob_some, nI_1]
                  · show f_X6_lots_B52 (nI m) (lN a) (nI k) y1 = _
                    unfold f_X6_lots_B52
                    rw [if_neg (nI_ge hk (by omega)), hmul2, nm_eq, g2, nI_1]
                  · rw [List.length_append, q5]; rfl
                · rintro _ _ ⟨a, x1, y1, F, ha, rfl, rfl, q1, q4, q5⟩
                  refine ⟨(wh_rut (ct_wheel (ww_cart x1)), x1), (md_now y1 0, y1), ?_, ?_, ?_, q1.1, q1.2.1, q1.2.2, c, F, q4⟩
                  · show f_X5_lots_B66 (nI m) (lN a) (nI m) x1 = _
                    unfold f_X5_lots_B66
                    rw [if_pos (nI_le (Nat.le_refl m) (by omega))]; rfl
                  · show f_X6_lots_B52 (nI m) (lN a) (nI m) y1 = _
                    unfold f_X6_lots_B52
                    rw [if_pos (nI_le (Nat.le_refl m) (by omega))]; rfl
                  · exact q4.2.2.1.1.2.2.2.1.trans q4.2.2.2.2.2.1.1.symm
              obtain ⟨⟨r, x1⟩, ⟨r2, y1⟩, e1, e2, e3, hq⟩ := key
              have e3 : r = r2 := e3
              subst e3
              exact ⟨r, x1, y1, e1, e2, hq⟩
            · rw [if_neg (show ¬ nI (E.length + m) ≤ 40 from nI_ge (a := 40) (by omega) (by omega)), if_neg (show ¬ nI (E.length + m) ≤ 40 from nI_ge (a := 40) (by omega) (by omega))]
              exact ⟨-2, x, y, rfl, rfl, hRel⟩
        · rw [if_neg (fun z => s1 (hcl.mp z)), if_pos (show (2147483646 : Int32) < nI s from nI_lt (a := 2147483646) (by omega) hs)]
          exact ⟨-1, x, y, rfl, rfl, hRel⟩
/-! how far it goes -/
theorem s_goes : S_goes Rel := by
  intro x y h v
  have hRel := h
  obtain ⟨hT, hR, hX, c, E, hWE⟩ := h
  obtain ⟨hC, hE, hRC, hM, hd, hN, hL, hK⟩ := id hWE
  obtain ⟨o1, o2⟩ := okD_rep hC hE
  have h40 := hE.1
  unfold f_X5_goes f_X6_goes
  rw [in_ok]
  by_cases v1 : v < 0
  · rw [if_pos v1, if_pos v1]
    exact ⟨-1, x, y, rfl, rfl, hRel⟩
  · rw [if_neg v1, if_neg v1]
    by_cases v2 : (60 : Int32) < v
    · rw [if_neg (fun z => absurd v2 (Int32.not_lt.mpr z)), if_pos v2]
      exact ⟨-1, x, y, rfl, rfl, hRel⟩
    · rw [if_pos (Int32.not_lt.mp v2), if_neg v2, ob_some, if_neg (show ¬ (1 : Int32) = 0 by decide)]
      obtain ⟨m, m2, rfl⟩ := rng (b := 60) (by decide) v1 v2
      by_cases h0 : cN c = 0
      · rw [cEmpty0 hRC.1 h0, if_pos (mn0 hM h0)]
        exact ⟨-4, x, y, rfl, rfl, hRel⟩
      · have h3 := okC_3 hC h0
        rw [cEmpty1 hRC.1 hC h3, if_neg (mn1 hM hC h3), ob_some, if_pos (show (0 : Int32) = 0 from rfl)]
        obtain ⟨w1, e1, h1⟩ := take_ok (w := as_trial (ww_aside x)) hRC.1 hC o1
        obtain ⟨w2, e2, h2⟩ := cfar_ok h1 hC o1 h3 (by omega) (n := m) (by omega)
        obtain ⟨t1, e3, h5⟩ := copyNow_ok hN
        obtain ⟨t2, e4, h6⟩ := mlimps_t hM h5 hC o1 h3 (by omega) (n := m) (by omega) false
        obtain ⟨k1, k2, k3⟩ := lim_ok false o1 h3 m
        refine ⟨nI (dRut (limN c false (repN c E) m).2), ww_set_askedLast (ww_set_aside x (as_set_trial (as_set_found (ww_aside x) (nI (limN c false (repN c E) m).1)) w2)) (nI (limN c false (repN c E) m).1), md_set_told (md_set_tried y t2) (nI (limN c false (repN c E) m).1), ?_, ?_, relA hRel rfl⟩
        · unfold f_X0_rutBehind f_X5_tellBeside
          rw [e1, ob_some, e2, ob_some, ob_some]
          dsimp only
          rw [h2.2.2.2.1, if_neg (nI_ne_m9 (by omega))]; rfl
        · rw [e3, ob_some, show f_X6_limpsIn (md_set_tried y t1) (nI m) (0 : Int32) = _ from e4, ob_some]
          show some (t2 0, _) = _
          rw [h6.1]
theorem s_over : S_over Rel := by
  intro x y h
  have hRel := h
  obtain ⟨hT, hR, hX, c, E, hWE⟩ := h
  obtain ⟨hC, hE, hRC, hM, hd, hN, hL, hK⟩ := id hWE
  obtain ⟨o1, o2⟩ := okD_rep hC hE
  have h40 := hE.1
  have hn := okC_n hC
  unfold f_X5_over f_X6_over
  by_cases h0 : cN c = 0
  · rw [cEmpty0 hRC.1 h0, if_pos (mn0 hM h0)]
    exact ⟨-4, x, y, rfl, rfl, hRel⟩
  · have h3 := okC_3 hC h0
    rw [cEmpty1 hRC.1 hC h3, if_neg (mn1 hM hC h3), ob_some, if_pos (show (0 : Int32) = 0 from rfl)]
    obtain ⟨w1, e1, h1⟩ := take_ok (w := as_trial (ww_aside x)) hRC.1 hC o1
    obtain ⟨w2, e2, h2⟩ := cfar_ok h1 hC o1 h3 (by omega) (n := 60) (by omega)
    obtain ⟨t1, e3, h5⟩ := copyNow_ok hN
    obtain ⟨t2, e4, h6⟩ := mlimps_t hM h5 hC o1 h3 (by omega) (n := 60) (by omega) false
    obtain ⟨k1, k2, k3⟩ := lim_ok false o1 h3 60
    have hm := mover_tried (y := md_set_tried y t2) hM.1 h6.2.2.2.1 hn (there_lt hC k1)
    unfold f_X0_rutOver
    rw [e1, ob_some, show f_X4_rollFar w1 (60 : Int32) = _ from e2, ob_some, RW_over h2 hC k1, ob_some, e3, ob_some, show f_X6_limpsIn (md_set_tried y t1) (60 : Int32) (0 : Int32) = _ from e4, ob_some, hm, ob_some]
    by_cases ho : overN (cN c) (dThere (limN c false (repN c E) 60).2) = true
    · rw [if_pos ho, if_neg (show ¬ nI 1 = 0 by decide), if_neg (show ¬ nI 1 = 0 by decide), goneOnes_ok h2.1 h2.2.2.2.2.1 hn k1.2.2.1]
      refine ⟨nI (dRut (limN c false (repN c E) 60).2), ww_set_askedLast (ww_set_aside x (as_set_trial (as_set_found (ww_aside x) (nI (2 ^ cN c - 1 - dThere (limN c false (repN c E) 60).2))) w2)) (nI (2 ^ cN c - 1 - dThere (limN c false (repN c E) 60).2)), md_set_told (md_set_tried y t2) (nI (2 ^ cN c - 1 - dThere (limN c false (repN c E) 60).2)), ?_, ?_, relA hRel rfl⟩
      · unfold f_X5_tellBeside
        rw [ob_some, ob_some]
        dsimp only
        rw [h2.2.2.2.1, if_neg (nI_ne_m9 (by omega))]; rfl
      · show some (t2 0, md_set_told _ ((jshl (nI 1) (md_n y) - nI 1) &&& (t2 3 ^^^ -nI 1))) = _
        rw [h6.1, show t2 3 = _ from h6.2.2.2.1, hM.1, tb_all _ (by omega), tb_gone _ (by omega) _ k1.2.2.1]
    · rw [if_neg ho, if_pos (show nI 0 = 0 from nI_0), if_pos (show nI 0 = 0 from nI_0)]
      exact ⟨-9, ww_set_aside x _, md_set_tried y t2, rfl, rfl, relB hRel⟩
/-- one step, or none -/
def lbN (c : Cfg) (d : Dyn) : Nat := (nxtN c false (0, d)).1
def nxD (c : Cfg) (d : Dyn) : Dyn := (nxtN c false (0, d)).2
theorem lim_split (c : Cfg) (d : Dyn) (k : Nat) : limN c false d (k + 1) = ((limN c false d k).1 + lbN c (limN c false d k).2, nxD c (limN c false d k).2) := by
  show nxtN c false (limN c false d k) = _
  unfold lbN nxD nxtN
  dsimp only
  by_cases ho : overN (cN c) (dThere (limN c false d k).2) = true
  · rw [if_pos ho, if_pos ho]; rfl
  · rw [if_neg ho, if_neg ho]
    dsimp only
    rw [Nat.zero_add]
theorem lb_le (c : Cfg) (d : Dyn) : lbN c d ≤ 1 := by
  unfold lbN nxtN
  dsimp only
  split
  · exact Nat.zero_le _
  · dsimp only
    split <;> omega
theorem lb_over {c : Cfg} {d : Dyn} (h : overN (cN c) (dThere d) = true) : lbN c d = 0 ∧ nxD c d = d := by
  unfold lbN nxD nxtN
  dsimp only
  rw [if_pos h]
  exact ⟨rfl, rfl⟩
theorem lb_step {c : Cfg} {d : Dyn} (h : ¬ overN (cN c) (dThere d) = true) : lbN c d = (if (stepN c d).1 then 1 else 0) ∧ nxD c d = (stepN c d).2 := by
  unfold lbN nxD nxtN
  dsimp only
  rw [if_neg h]
  exact ⟨Nat.zero_add _, rfl⟩
theorem okD_nx {c : Cfg} {d : Dyn} (hD : okD c d) (h3 : 3 ≤ cN c) : okD c (nxD c d) ∧ dRut (nxD c d) ≤ dRut d + 1 := by
  by_cases h : overN (cN c) (dThere d) = true
  · rw [(lb_over h).2]; exact ⟨hD, Nat.le_succ _⟩
  · rw [(lb_step h).2]; exact ⟨okD_step hD h3, Nat.le_of_eq (rut_step c d)⟩
theorem mone_ok {y : Md} {c : Cfg} {d : Dyn} (hM : RM y c) (hT : RT (md_tried y) 0 d) (hC : okC c) (hD : okD c d) (h3 : 3 ≤ cN c) (hr : dRut d < 500) : ∃ t1, f_X6_limpsIn y (1 : Int32) (0 : Int32) = some (nI (lbN c d), md_set_tried y t1) ∧ RT t1 0 (nxD c d) := mlimps_ok hM hT hC hD h3 hr (n := 1) (by omega) false
theorem mone_t {y : Md} {c : Cfg} {d : Dyn} {X : Ar} (hM : RM y c) (hT : RT X 0 d) (hC : okC c) (hD : okD c d) (h3 : 3 ≤ cN c) (hr : dRut d < 500) : ∃ t1, f_X6_limpsIn (md_set_tried y X) (1 : Int32) (0 : Int32) = some (nI (lbN c d), md_set_tried y t1) ∧ RT t1 0 (nxD c d) := mlimps_t hM hT hC hD h3 hr (n := 1) (by omega) false
theorem RS_gen {n m : Nat} {w w1 : Sh} {sz sz1 pl pl1 : Ar} (h : RS n m w sz pl) {r k : Nat} (hm : sh_most w1 = sh_most w) (hk : k ≤ m) (s1 : sh_sizes w1 r = nI k) (s2 : sz1 r = nI k) (s3 : ∀ q, q ≠ r → sh_sizes w1 q = sh_sizes w q ∧ sz1 q = sz q) (p1 : ∀ j, j < m → sh_places w1 r j = pl1 (m * r + j)) (p2 : ∀ q, q ≠ r → ∀ j, j < m → sh_places w1 q j = sh_places w q j) (p3 : ∀ q, (q < m * r ∨ m * r + m ≤ q) → pl1 q = pl q) : RS n m w1 sz1 pl1 := by
  refine ⟨hm.trans h.1, fun q hq => ?_⟩
  obtain ⟨a1, a2, a3⟩ := h.2 q hq
  by_cases e : q = r
  · subst e
    exact ⟨s1.trans s2.symm, Or.inr ⟨k, hk, s2⟩, p1⟩
  · obtain ⟨b1, b2⟩ := s3 q e
    refine ⟨by rw [b1, b2]; exact a1, by rw [b2]; exact a2, fun i hi => ?_⟩
    rw [p2 q e i hi, p3 (m * q + i) ?_, a3 i hi]
    rcases Nat.lt_or_gt_of_ne e with hlt | hlt
    · have z : m * q + m ≤ m * r := by rw [← Nat.mul_succ]; exact Nat.mul_le_mul_left m hlt
      omega
    · have z : m * r + m ≤ m * q := by rw [← Nat.mul_succ]; exact Nat.mul_le_mul_left m hlt
      omega
theorem write_ok {a : As} {nw : Wh} {f : Ar} {c : Cfg} {d : Dyn} (hW : RW nw c d) (hC : okC c) (hD : okD c d) (h3 : 3 ≤ cN c) (hr : dRut d < 400) {n : Nat} (hn : n ≤ 20) : ∃ a1 g, f_X0_writeLimps 40 a nw f (nI n) = some (nI (limN c false d n).1, a1, g) ∧ (∀ j, j < n → g j = nI (lbN c (limN c false d j).2)) ∧ ∀ j, n ≤ j → g j = f j := by
  obtain ⟨w1, e1, h1⟩ := take_ok (w := as_trial a) hW hC hD
  have key : ∃ o, f_X0_writeLimps 40 a nw f (nI n) = some o ∧ ∃ a1 g, o = (nI (limN c false d n).1, a1, g) ∧ (∀ j, j < n → g j = nI (lbN c (limN c false d j).2)) ∧ ∀ j, n ≤ j → g j = f j := by
    unfold f_X0_writeLimps
    rw [e1, ob_some]
    refine lp_e (fun k s => ∃ a1 g, s = (nI (limN c false d k).1, nI k, a1, g) ∧ RW (as_trial a1) c (limN c false d k).2 ∧ (∀ j, j < k → g j = nI (lbN c (limN c false d j).2)) ∧ ∀ j, k ≤ j → g j = f j) _ n ⟨as_set_trial a w1, f, rfl, h1, fun j hj => absurd hj (by omega), fun _ _ => rfl⟩ (by omega) ?_ ?_
    · rintro k s hk ⟨a1, g, rfl, hw, b1, b2⟩
      obtain ⟨k1, k2, k3⟩ := lim_ok false hD h3 k
      have hfin : ∀ a2 : As, RW (as_trial a2) c (nxD c (limN c false d k).2) → ∃ a3 g3, some (Sum.inl (nI (limN c false d k).1 + upd g k (nI (lbN c (limN c false d k).2)) k, nI k + 1, a2, upd g k (nI (lbN c (limN c false d k).2)))) = some (Sum.inl (β := Int32 × As × Ar) (nI (limN c false d (k + 1)).1, nI (k + 1), a3, g3)) ∧ RW (as_trial a3) c (limN c false d (k + 1)).2 ∧ (∀ j, j < k + 1 → g3 j = nI (lbN c (limN c false d j).2)) ∧ ∀ j, k + 1 ≤ j → g3 j = f j := by
        intro a2 ha2
        refine ⟨a2, upd g k (nI (lbN c (limN c false d k).2)), ?_, ?_, fun j hj => ?_, fun j hj => ?_⟩
        · rw [upd_s, nI_add, nI_1, lim_split]
        · rw [lim_split]; exact ha2
        · by_cases e : j = k
          · subst e; rw [upd_s]
          · rw [upd_n e]; exact b1 j (by omega)
        · rw [upd_n (by omega)]; exact b2 j (by omega)
      suffices hs : ∃ a2, f_X0_writeLimps_B16 40 nw (nI n) (nI (limN c false d k).1) (nI k) a1 g = some (Sum.inl (nI (limN c false d k).1 + upd g k (nI (lbN c (limN c false d k).2)) k, nI k + 1, a2, upd g k (nI (lbN c (limN c false d k).2)))) ∧ RW (as_trial a2) c (nxD c (limN c false d k).2) by
        obtain ⟨a2, e2, ha2⟩ := hs
        obtain ⟨a3, g3, e3, r1, r2, r3⟩ := hfin a2 ha2
        exact ⟨_, e2.trans e3, a3, g3, rfl, r1, r2, r3⟩
      unfold f_X0_writeLimps_B16 f_X0_writeLimps_J49 f_X0_writeLimps_J50
      rw [if_neg (nI_ge hk (by omega)), RW_over hw hC k1, ob_some]
      by_cases ho : overN (cN c) (dThere (limN c false d k).2) = true
      · rw [if_pos ho, if_neg (show ¬ nI 1 = 0 by decide), gd_b (by omega) (by decide), gd_b (by omega) (by decide), ix_n (by omega), (lb_over ho).1, (lb_over ho).2]
        exact ⟨a1, rfl, hw⟩
      · obtain ⟨w2, e2, hw2⟩ := roll_ok hw hC k1 h3 (by omega)
        rw [if_neg ho, if_pos (show nI 0 = 0 from nI_0), e2, ob_some, (lb_step ho).1, (lb_step ho).2, gd_b (by omega) (by decide), gd_b (by omega) (by decide), gd_b (by omega) (by decide), gd_b (by omega) (by decide), ix_n (by omega)]
        refine ⟨as_set_trial a1 w2, ?_, hw2⟩
        by_cases hb : (stepN c (limN c false d k).2).1 = true
        · rw [if_pos hb, if_neg (show ¬ nI 1 = 0 by decide)]; rfl
        · rw [if_neg hb, if_pos (show nI 0 = 0 from nI_0)]; rfl
    · rintro s ⟨a1, g, rfl, hw, b1, b2⟩
      refine ⟨_, ?_, a1, g, rfl, b1, b2⟩
      show f_X0_writeLimps_B16 40 nw (nI n) (nI _) (nI n) a1 g = _
      unfold f_X0_writeLimps_B16
      rw [if_pos (nI_le (Nat.le_refl n) (by omega))]; rfl
  obtain ⟨o, e, a1, g, rfl, b1, b2⟩ := key
  exact ⟨a1, g, e, b1, b2⟩
theorem s_limps : S_limps Rel := by
  intro x y h v u
  have hRel := h
  obtain ⟨hT, hR, hX, c, E, hWE⟩ := h
  obtain ⟨hC, hE, hRC, hM, hd, hN, hL, hK⟩ := id hWE
  obtain ⟨o1, o2⟩ := okD_rep hC hE
  have h40 := hE.1
  unfold f_X5_limps f_X6_limps
  rw [in_ok]
  by_cases v1 : v < 1
  · rw [if_pos v1, if_pos v1]
    exact ⟨-1, x, y, rfl, rfl, hRel⟩
  · by_cases v2 : (20 : Int32) < v
    · rw [if_neg v1, if_neg v1, if_pos v2, if_pos v2]
      exact ⟨-1, x, y, rfl, rfl, hRel⟩
    · rw [if_neg v1, if_neg v1, if_neg v2, if_neg v2, ob_some, if_neg (show ¬ (1 : Int32) = 0 by decide)]
      obtain ⟨m, m1, m2, rfl⟩ := rng1 (b := 20) (by decide) v1 v2
      rcases num_cases u 6 (by decide) with hb | ⟨r, hr, rfl⟩
      · rw [isNumber_bad hb, isRow_bad hb]
        exact ⟨-1, x, y, rfl, rfl, hRel⟩
      · rw [isNumber_in hr (by decide), isRow_in hr, ob_some, ob_some, if_neg (show ¬ (1 : Int32) = 0 by decide), if_neg (show ¬ (1 : Int32) = 0 by decide)]
        by_cases h0 : cN c = 0
        · rw [cEmpty0 hRC.1 h0, if_pos (mn0 hM h0)]
          exact ⟨-4, x, y, rfl, rfl, hRel⟩
        · have h3 := okC_3 hC h0
          rw [cEmpty1 hRC.1 hC h3, if_neg (mn1 hM hC h3), ob_some, if_pos (show (0 : Int32) = 0 from rfl)]
          obtain ⟨g, e1, e2, -⟩ := fill_ok (n := 40) (by decide) (sh_places (ww_rows x) r) 0
          obtain ⟨t1, e3, h5⟩ := copyNow_ok hN
          obtain ⟨a1, g1, e4, b1, b2⟩ := write_ok (a := ww_aside x) (f := g) hRC.1 hC o1 h3 (by omega) (n := m) (by omega)
          have hrow : f_X6_row (md_set_tried y t1) (nI r) (nI m) = some (nI m, md_set_rows (md_set_sizes (md_set_tried y t1) (upd (md_sizes y) r (nI m))) (rowFill (md_rows y) (40 * r) 40)) := by
            unfold f_X6_row
            rw [isRow_in hr, ob_some, if_neg (show ¬ (1 : Int32) = 0 by decide), if_pos (show nI m ≤ 40 from nI_le (b := 40) (by omega) (by decide)), if_pos (nI_pos' (by omega)), gd_b hr (by decide), ix_n (by omega)]
            exact rowLoop_ok (y := md_set_sizes (md_set_tried y t1) (upd (md_sizes y) r (nI m))) hr (nI m)
          have key : ∃ o, lp (f_X6_limps_L45 (nI m) (nI r)) fuel ((0 : Int32), (0 : Int32), md_set_rows (md_set_sizes (md_set_tried y t1) (upd (md_sizes y) r (nI m))) (rowFill (md_rows y) (40 * r) 40)) = some o ∧ ∃ t2 P, o = (nI (limN c false (repN c E) m).1, md_set_rows (md_set_tried (md_set_sizes y (upd (md_sizes y) r (nI m))) t2) P) ∧ (∀ j, j < m → P (40 * r + j) = nI (lbN c (limN c false (repN c E) j).2)) ∧ (∀ j, m ≤ j → j < 40 → P (40 * r + j) = 0) ∧ ∀ q, (q < 40 * r ∨ 40 * r + 40 ≤ q) → P q = md_rows y q := by
            refine lp_e (fun k s => ∃ t2 P, s = (nI (limN c false (repN c E) k).1, nI k, md_set_rows (md_set_tried (md_set_sizes y (upd (md_sizes y) r (nI m))) t2) P) ∧ RT t2 0 (limN c false (repN c E) k).2 ∧ (∀ j, j < k → P (40 * r + j) = nI (lbN c (limN c false (repN c E) j).2)) ∧ (∀ j, k ≤ j → j < 40 → P (40 * r + j) = 0) ∧ ∀ q, (q < 40 * r ∨ 40 * r + 40 ≤ q) → P q = md_rows y q) _ m ⟨t1, rowFill (md_rows y) (40 * r) 40, rfl, h5, fun j hj => absurd hj (by omega), fun j _ hj => by unfold rowFill; rw [if_pos (by omega)], fun q hq => by unfold rowFill; rw [if_neg (by omega)]⟩ (by omega) ?_ ?_
            · rintro k s hk ⟨t2, P, rfl, ht, c1, c2, c3⟩
              obtain ⟨k1, k2, k3⟩ := lim_ok false o1 h3 k
              obtain ⟨j1, j2⟩ := idx_n (m := 40) (r := r) (i := k) (N := 240) (by omega) (by decide)
              obtain ⟨t3, e5, h6⟩ := mone_ok (y := md_set_rows (md_set_tried (md_set_sizes y (upd (md_sizes y) r (nI m))) t2) P) hM ht hC k1 h3 (by omega)
              refine ⟨(nI (limN c false (repN c E) (k + 1)).1, nI (k + 1), md_set_rows (md_set_tried (md_set_sizes y (upd (md_sizes y) r (nI m))) t3) (upd P (40 * r + k) (nI (lbN c (limN c false (repN c E) k).2)))), ?_, t3, _, rfl, ?_, fun j hj => ?_, fun j hj hj2 => ?_, fun q hq => ?_⟩
              · show f_X6_limps_B45 (nI m) (nI r) (nI _) (nI k) (md_set_rows (md_set_tried (md_set_sizes y (upd (md_sizes y) r (nI m))) t2) P) = _
                unfold f_X6_limps_B45
                rw [if_neg (nI_ge hk (by omega)), e5, ob_some, gd_t (show inb ((40 : Int32) * nI r + nI k) 240 = true from j1), show ix ((40 : Int32) * nI r + nI k) = 40 * r + k from j2, nI_1, nI_add, lim_split]
                rfl
              · rw [lim_split]; exact h6
              · by_cases e : j = k
                · subst e; rw [upd_s]
                · rw [upd_n (by omega)]; exact c1 j (by omega)
              · rw [upd_n (by omega)]; exact c2 j (by omega) hj2
              · rw [upd_n (by omega)]; exact c3 q hq
            · rintro s ⟨t2, P, rfl, ht, c1, c2, c3⟩
              refine ⟨_, ?_, t2, P, rfl, c1, c2, c3⟩
              show f_X6_limps_B45 (nI m) (nI r) (nI _) (nI m) (md_set_rows (md_set_tried (md_set_sizes y (upd (md_sizes y) r (nI m))) t2) P) = _
              unfold f_X6_limps_B45
              rw [if_pos (nI_le (Nat.le_refl m) (by omega))]; rfl
          obtain ⟨o, e5, t2, P, rfl, c1, c2, c3⟩ := key
          refine ⟨nI (limN c false (repN c E) m).1, ww_set_aside (ww_set_rows x (sh_set_places (sh_set_sizes (sh_set_places (ww_rows x) (updA (sh_places (ww_rows x)) r g)) (upd (sh_sizes (ww_rows x)) r (nI m))) (updA (updA (sh_places (ww_rows x)) r g) r g1))) a1, md_set_rows (md_set_tried (md_set_sizes y (upd (md_sizes y) r (nI m))) t2) P, ?_, ?_, relL hRel ?_⟩
          · unfold f_X3_makeOne f_X3_placesOf
            rw [gd_b hr (by decide), gd_b hr (by decide), ix_n (by omega), e1, ob_some, ob_some, gd_b hr (by decide), ob_some]
            show Option.bind (f_X0_writeLimps 40 (ww_aside x) (ct_wheel (ww_cart x)) (updA (sh_places (ww_rows x)) r g r) (nI m)) _ = _
            rw [updA_s, e4, ob_some]; rfl
          · rw [e3, ob_some, hrow, ob_some]
            exact e5
          · refine RS_gen (k := m) (r := r) hR rfl (by omega) ?_ ?_ (fun q hq => ⟨?_, ?_⟩) (fun j hj => ?_) (fun q hq j hj => ?_) c3
            · exact upd_s
            · exact upd_s
            · exact upd_n hq
            · exact upd_n hq
            · show updA (updA (sh_places (ww_rows x)) r g) r g1 r j = P (40 * r + j)
              rw [updA_s]
              by_cases e : j < m
              · rw [b1 j e, c1 j e]
              · rw [b2 j (by omega), c2 j (by omega) hj, e2 j hj]
            · show updA (updA (sh_places (ww_rows x)) r g) r g1 q j = sh_places (ww_rows x) q j
              rw [updA_n hq, updA_n hq]
