/-! PURE SIDE: deeds -/
def sumN (f : Nat → Nat) : Nat → Nat
  | 0 => 0
  | k + 1 => sumN f k + f k
theorem sum_tail {f : Nat → Nat} {n j : Nat} (h : ∀ i, n ≤ i → i < n + j → f i = 0) : sumN f (n + j) = sumN f n := by
  induction j with
  | zero => rfl
  | succ j ih =>
    show sumN f (n + j) + f (n + j) = sumN f n
    rw [ih (fun i h1 h2 => h i h1 (by omega)), h (n + j) (by omega) (by omega), Nat.add_zero]
def ansN (c : Cfg) (d : Dyn) (e : Nat × Nat) : Nat :=
  if e.1 = 0 then (if (stepN c d).1 then 1 else 0) else if e.1 = 1 then sumN (fun i => dWear d i / 2) (cN c) else if e.1 = 2 then 1 - dDry d else if e.1 = 3 then dWear d e.2 else (if (dThere d).testBit e.2 then 0 else 1)
def okA (c : Cfg) (e : Nat × Nat) : Prop := e.1 ≤ 4 ∧ e.2 < 8 ∧ (3 ≤ e.1 → e.2 < cN c)
theorem csoak_ok {w : Wh} {c : Cfg} {d : Dyn} (hW : RW w c d) (hC : okC c) (hD : okD c d) : ∃ w1, f_X4_soakAll w = some (nI (sumN (fun i => dWear d i / 2) (cN c)), w1) ∧ RW w1 c (soakN d) := by
  have hn := okC_n hC
  obtain ⟨w1, w2, w3, w4, w5, w6, w7, w8, w9⟩ := hW
  have key : ∃ o, f_X4_soakAll w = some o ∧ ∃ g : Ar, o = (nI (sumN (fun i => dWear d i / 2) (cN c)), wh_set_wear w g) ∧ (∀ i, i < cN c → g i = nI (dWear d i / 2)) ∧ ∀ i, cN c ≤ i → g i = wh_wear w i := by
    unfold f_X4_soakAll
    refine lp_e (fun k s => ∃ g : Ar, s = (nI (sumN (fun i => dWear d i / 2) k), nI k, wh_set_wear w g) ∧ (∀ i, i < k → g i = nI (dWear d i / 2)) ∧ ∀ i, k ≤ i → g i = wh_wear w i) _ (cN c) ⟨wh_wear w, rfl, fun i hi => absurd hi (by omega), fun i _ => rfl⟩ (by omega) ?_ ?_
    · rintro k s hk ⟨g, rfl, h1, h2⟩
      have hdiv : nI (dWear d k) / nI 2 = nI (dWear d k / 2) := pk_div (by have := (hD.2.2.2 k (by omega)).1; omega) (by decide) (by decide)
      refine ⟨(nI (sumN (fun i => dWear d i / 2) (k + 1)), nI (k + 1), wh_set_wear w (upd g k (nI (dWear d k / 2)))), ?_, _, rfl, fun i hi => ?_, fun i hi => ?_⟩
      · show f_X4_soakAll_B4 (nI _) (nI k) (wh_set_wear w g) = _
        unfold f_X4_soakAll_B4
        rw [show wh_spokes (wh_set_wear w g) = nI (cN c) from w1, if_neg (nI_ge hk (by omega)), gd_b (by omega) (by decide), gd_b (by omega) (by decide), gd_b (by omega) (by decide), ix_n (by omega)]
        show some (Sum.inl (nI (sumN (fun i => dWear d i / 2) k) + upd g k (g k / nI 2) k, nI k + 1, wh_set_wear w (upd g k (g k / nI 2)))) = _
        rw [upd_s, h2 k (Nat.le_refl k), w8 k (by omega), hdiv, nI_add, nI_1]; rfl
      · by_cases e : i = k
        · subst e; rw [upd_s]
        · rw [upd_n e]; exact h1 i (by omega)
      · rw [upd_n (by omega)]; exact h2 i (by omega)
    · rintro s ⟨g, rfl, h1, h2⟩
      refine ⟨_, ?_, g, rfl, h1, h2⟩
      show f_X4_soakAll_B4 (nI _) (nI (cN c)) (wh_set_wear w g) = _
      unfold f_X4_soakAll_B4
      rw [show wh_spokes (wh_set_wear w g) = nI (cN c) from w1, if_pos (nI_le (Nat.le_refl _) (by omega))]; rfl
  obtain ⟨o, e, g, rfl, h1, h2⟩ := key
  refine ⟨_, e, w1, w2, w3, w4, w5, w6, w7, fun i hi => ?_, w9⟩
  show g i = nI (dWear d i / 2)
  by_cases e : i < cN c
  · exact h1 i e
  · rw [h2 i (by omega), w8 i hi, (hD.2.2.2 i hi).2 (by omega)]
theorem putIn_ok {w : Wh} {c : Cfg} {d : Dyn} (hW : RW w c d) (hC : okC c) (hD : okD c d) {i : Nat} (hi : i < cN c) : ∃ w1, f_X4_putIn w (nI i) = some (nI (if (dThere d).testBit i then 0 else 1), w1) ∧ RW w1 c (mendN d i) := by
  have hn := okC_n hC
  have ht := there_lt hC hD
  obtain ⟨w1, w2, w3, w4, w5, w6, w7, w8, w9⟩ := hW
  have hm := tb_mend _ ht i (by omega)
  unfold f_X4_putIn f_X4_putIn_J13
  rw [isThere_ok w5 ht (by omega), ob_some, gd_b (by omega) (by decide), gd_b (by omega) (by decide), ix_n (by omega)]
  refine ⟨wh_set_there (wh_set_wear w (upd (wh_wear w) i 0)) (wh_there w ||| jshl 1 (nI i)), ?_, w1, w2, w3, w4, ?_, w6, w7, fun j hj => ?_, w9⟩
  · by_cases e : (dThere d).testBit i = true
    · rw [if_pos e, if_pos e, if_neg (show ¬ nI 1 = 0 by decide)]; rfl
    · rw [if_neg e, if_neg e, if_pos (show nI 0 = 0 from nI_0)]; rfl
  · show wh_there w ||| jshl (nI 1) (nI i) = _
    rw [w5, hm]; rfl
  · show upd (wh_wear w) i 0 j = nI (updN (dWear d) i 0 j)
    unfold updN
    by_cases e : j = i
    · subst e; rw [upd_s, if_pos rfl]; rfl
    · rw [upd_n e, if_neg e, w8 j hj]
theorem act_ok {w : Wh} {c : Cfg} {d : Dyn} (hW : RW w c d) (hC : okC c) (hD : okD c d) (h3 : 3 ≤ cN c) (hr : dRut d < 1000) {e : Nat × Nat} (he : okA c e) : ∃ w1, f_X4_act w (nI e.1) (nI e.2) = some (nI (ansN c d e), w1) ∧ RW w1 c (actN c d e) := by
  obtain ⟨a, i⟩ := e
  obtain ⟨ha, hi8, hi⟩ := he
  have ha : a ≤ 4 := ha
  have hn := okC_n hC
  have ht := there_lt hC hD
  unfold f_X4_act ansN actN
  rcases (by omega : a = 0 ∨ a = 1 ∨ a = 2 ∨ a = 3 ∨ a = 4) with rfl | rfl | rfl | rfl | rfl
  · obtain ⟨w2, e2, h2⟩ := roll_ok hW hC hD h3 hr
    refine ⟨w2, ?_, h2⟩
    rw [if_pos (show nI (0, i).1 = 0 from rfl), e2, ob_some, if_pos (show (0, i).1 = 0 from rfl)]
    by_cases hb : (stepN c d).1 = true
    · rw [if_pos hb, if_neg (show ¬ nI 1 = 0 by decide)]; rfl
    · rw [if_neg hb, if_pos (show nI 0 = 0 from nI_0)]; rfl
  · obtain ⟨w2, e2, h2⟩ := csoak_ok hW hC hD
    refine ⟨w2, ?_, h2⟩
    show Option.bind (f_X4_soakAll w) _ = _
    rw [e2]; rfl
  · obtain ⟨w1, w2, w3, w4, w5, w6, w7, w8, w9⟩ := hW
    refine ⟨wh_set_dry w (nI (1 - dDry d)), ?_, w1, w2, w3, w4, w5, rfl, w7, w8, w9⟩
    show Option.bind (f_X4_turnWeather w) _ = _
    unfold f_X4_turnWeather
    rw [w6]
    rcases (by have := hD.2.1; omega : dDry d = 0 ∨ dDry d = 1) with e | e <;> rw [e] <;> rfl
  · have hi : i < cN c := hi (show 3 ≤ 3 by omega)
    obtain ⟨w1, w2, w3, w4, w5, w6, w7, w8, w9⟩ := hW
    refine ⟨wh_set_there w (wh_there w &&& (jshl 1 (nI i) ^^^ -1)), ?_, w1, w2, w3, w4, ?_, w6, w7, w8, w9⟩
    · show Option.bind (f_X4_knockOut w (nI i)) _ = _
      unfold f_X4_knockOut
      rw [gd_b (by omega) (by decide), ix_n (by omega), w8 i (by omega)]; rfl
    · show wh_there w &&& (jshl (nI 1) (nI i) ^^^ -nI 1) = nI (if (dThere d).testBit i = true then dThere d - 2 ^ i else dThere d)
      rw [w5, tb_knock _ ht i (by omega)]
  · have hi : i < cN c := hi (show 3 ≤ 4 by omega)
    obtain ⟨w2, e2, h2⟩ := putIn_ok hW hC hD hi
    refine ⟨w2, ?_, h2⟩
    show Option.bind (f_X4_putIn w (nI i)) _ = _
    rw [e2]; rfl
theorem okD_act {c : Cfg} {d : Dyn} (hC : okC c) (hD : okD c d) (h3 : 3 ≤ cN c) {e : Nat × Nat} (he : okA c e) : okD c (actN c d e) ∧ dRut (actN c d e) ≤ dRut d + 1 := by
  obtain ⟨a, i⟩ := e
  obtain ⟨ha, hi8, hi⟩ := he
  have ha : a ≤ 4 := ha
  have hn := okC_n hC
  obtain ⟨d1, d2, d3, d4⟩ := id hD
  unfold actN
  rcases (by omega : a = 0 ∨ a = 1 ∨ a = 2 ∨ a = 3 ∨ a = 4) with rfl | rfl | rfl | rfl | rfl
  · exact ⟨okD_step hD h3, Nat.le_of_eq (rut_step c d)⟩
  · refine ⟨⟨d1, d2, d3, fun i hi => ?_⟩, Nat.le_succ _⟩
    have h1 := d4 i hi
    show dWear d i / 2 ≤ 30 ∧ (cN c ≤ i → dWear d i / 2 = 0)
    exact ⟨by omega, fun h => by rw [h1.2 h]⟩
  · refine ⟨⟨d1, ?_, d3, d4⟩, Nat.le_succ _⟩
    show 1 - dDry d ≤ 1
    omega
  · refine ⟨⟨d1, d2, ?_, d4⟩, Nat.le_succ _⟩
    exact (tb_down (cN c) (by omega) _ d3 i (hi (show 3 ≤ 3 by omega))).1
  · refine ⟨⟨d1, d2, ?_, fun j hj => ?_⟩, Nat.le_succ _⟩
    · exact (tb_down (cN c) (by omega) _ d3 i (hi (show 3 ≤ 4 by omega))).2
    · have h1 := d4 j hj
      show updN (dWear d) i 0 j ≤ 30 ∧ (cN c ≤ j → updN (dWear d) i 0 j = 0)
      unfold updN
      split
      · exact ⟨by omega, fun _ => rfl⟩
      · exact h1
theorem okD_start {c : Cfg} (h : cN c = 0 ∨ 3 ≤ cN c) : okD c (startN c) := by
  refine ⟨?_, Nat.zero_le _, ?_, fun i _ => ⟨Nat.zero_le _, fun _ => rfl⟩⟩
  · show cN c = 0 ∨ 0 < cN c
    omega
  · show 2 ^ cN c - 1 < 2 ^ cN c
    have := Nat.two_pow_pos (cN c)
    omega
theorem okD_fold {c : Cfg} (hC : okC c) (h3 : 3 ≤ cN c) (E : List (Nat × Nat)) : ∀ (d : Dyn), okD c d → (∀ e ∈ E, okA c e) → okD c (E.foldl (actN c) d) ∧ dRut (E.foldl (actN c) d) ≤ dRut d + E.length := by
  induction E with
  | nil => exact fun d h _ => ⟨h, Nat.le_refl _⟩
  | cons e E ih =>
    intro d hD hE
    obtain ⟨h1, h2⟩ := okD_act hC hD h3 (hE e List.mem_cons_self)
    obtain ⟨h4, h5⟩ := ih _ h1 (fun e' he' => hE e' (List.mem_cons_of_mem _ he'))
    refine ⟨h4, ?_⟩
    show dRut (E.foldl (actN c) (actN c d e)) ≤ dRut d + (E.length + 1)
    omega
theorem okE_A {c : Cfg} {E : List (Nat × Nat)} (hE : okE c E) : ∀ e ∈ E, okA c e := fun e he => hE.2.2 e he
theorem okD_rep {c : Cfg} (hC : okC c) {E : List (Nat × Nat)} (hE : okE c E) : okD c (repN c E) ∧ dRut (repN c E) ≤ E.length := by
  by_cases h0 : cN c = 0
  · rw [hE.2.1 h0]
    exact ⟨okD_start (Or.inl h0), Nat.le_refl _⟩
  · have h3 : 3 ≤ cN c := by rcases hC.1 with h | h <;> omega
    have := okD_fold hC h3 E (startN c) (okD_start (Or.inr h3)) (okE_A hE)
    refine ⟨this.1, ?_⟩
    have h2 := this.2
    rw [show dRut (startN c) = 0 from rfl, Nat.zero_add] at h2
    exact h2
theorem rep_snoc (c : Cfg) (E : List (Nat × Nat)) (e : Nat × Nat) : repN c (E ++ [e]) = actN c (repN c E) e := by
  unfold repN
  rw [List.foldl_append]; rfl
theorem add_ok {w : Ct} {c : Cfg} {E : List (Nat × Nat)} (hR : RC w c E) (hC : okC c) (hE : okE c E) (h3 : 3 ≤ cN c) (hl : E.length < 40) {e : Nat × Nat} (he : okA c e) : ∃ w1, f_X1_add w (nI e.1) (nI e.2) = some (nI (ansN c (repN c E) e), w1) ∧ RC w1 c (E ++ [e]) := by
  obtain ⟨hW, hd, hz⟩ := hR
  obtain ⟨o1, o2⟩ := okD_rep hC hE
  obtain ⟨w1, e1, h1⟩ := act_ok hW hC o1 h3 (by omega) he
  unfold f_X1_add
  rw [hd, if_neg (nI_pos (by omega)), if_pos (show nI E.length < 40 from nI_lt hl (by decide)), gd_b hl (by decide), gd_b hl (by decide), ix_n (by omega), e1, ob_some]
  refine ⟨_, rfl, ?_, ?_, fun j e' hj => ?_⟩
  · show RW w1 c (repN c (E ++ [e]))
    rw [rep_snoc]; exact h1
  · show nI E.length + 1 = nI (E ++ [e]).length
    rw [nI_1, List.length_append]; rfl
  · show upd (ct_deeds w) E.length (nI e.1) j = nI e'.1 ∧ upd (ct_doneTo w) E.length (nI e.2) j = nI e'.2
    by_cases ej : j = E.length
    · subst ej
      rw [List.getElem?_append_right (Nat.le_refl _), Nat.sub_self] at hj
      have hj : e = e' := by simpa using hj
      subst hj
      rw [upd_s, upd_s]; exact ⟨rfl, rfl⟩
    · rw [upd_n ej, upd_n ej]
      have hjl : j < E.length := by
        have := (List.getElem?_eq_some_iff.mp hj).1
        rw [List.length_append] at this
        simp at this
        omega
      rw [List.getElem?_append_left hjl] at hj
      exact hz j e' hj
theorem RT_of {t L : Ar} {o p : Nat} {d : Dyn} (h : RT t o d) (hL : ∀ j, j < 12 → L (p + j) = t (o + j)) : RT L p d := by
  obtain ⟨h0, h1, h2, h3, h4⟩ := h
  refine ⟨(hL 0 (by omega)).trans h0, (hL 1 (by omega)).trans h1, (hL 2 (by omega)).trans h2, (hL 3 (by omega)).trans h3, fun i hi => ?_⟩
  have := hL (4 + i) (by omega)
  rw [← Nat.add_assoc, ← Nat.add_assoc] at this
  exact this.trans (h4 i hi)
theorem rem_ok {y : Md} {m : Nat} (hm : md_deedMany y = nI m) (h : m < 40) : ∃ L vv, vv = nI (m + 1) ∧ f_X6_remember y = some (md_set_deedMany (md_set_log y L) vv) ∧ (∀ j, j < 12 * m → L j = md_log y j) ∧ ∀ j, j < 12 → L (12 * m + j) = md_now y j := by
  have key : ∃ o, f_X6_remember y = some o ∧ ∃ L, o = md_set_deedMany (md_set_log y L) (nI (m + 1)) ∧ (∀ j, j < 12 * m → L j = md_log y j) ∧ ∀ j, j < 12 → L (12 * m + j) = md_now y j := by
    unfold f_X6_remember
    refine lp_e (fun k s => ∃ L, s = (nI k, md_set_log y L) ∧ (∀ j, j < 12 * m → L j = md_log y j) ∧ ∀ j, j < k → L (12 * m + j) = md_now y j) _ 12 ⟨md_log y, rfl, fun _ _ => rfl, fun j hj => absurd hj (by omega)⟩ (by omega) ?_ ?_
    · rintro k s hk ⟨L, rfl, h1, h2⟩
      obtain ⟨j1, j2⟩ := idx_n (m := 12) (r := m) (i := k) (N := 480) (by omega) (by decide)
      refine ⟨(nI (k + 1), md_set_log y (upd L (12 * m + k) (md_now y k))), ?_, _, rfl, fun j hj => ?_, fun j hj => ?_⟩
      · show f_X6_remember_B2 (nI k) (md_set_log y L) = _
        unfold f_X6_remember_B2
        rw [if_neg (show ¬ (12 : Int32) ≤ nI k from nI_ge hk (by decide)), show md_deedMany (md_set_log y L) = nI m from hm, gd_b (by omega) (by decide), gd_t (show inb ((12 : Int32) * nI m + nI k) 480 = true from j1), show ix ((12 : Int32) * nI m + nI k) = 12 * m + k from j2, ix_n (by omega), nI_1]
        rfl
      · rw [upd_n (by omega)]; exact h1 j hj
      · by_cases e : j = k
        · subst e; rw [upd_s]
        · rw [upd_n (by omega)]; exact h2 j (by omega)
    · rintro s ⟨L, rfl, h1, h2⟩
      refine ⟨_, ?_, L, rfl, h1, h2⟩
      show f_X6_remember_B2 (nI 12) (md_set_log y L) = _
      unfold f_X6_remember_B2 f_X6_remember_J34
      rw [if_pos (show (12 : Int32) ≤ nI 12 by decide), show md_deedMany (md_set_log y L) = nI m from hm, nI_1]; rfl
  obtain ⟨o, e, L, rfl, h1, h2⟩ := key
  exact ⟨L, _, rfl, e, h1, h2⟩
/-- the wheel's part of the relation, with its numbers -/
def RWE (x : Ww) (y : Md) (c : Cfg) (E : List (Nat × Nat)) : Prop := okC c ∧ okE c E ∧ RC (ww_cart x) c E ∧ RM y c ∧ md_deedMany y = nI E.length ∧ RT (md_now y) 0 (repN c E) ∧ (∀ j, j < E.length → RT (md_log y) (12 * j) (repN c (E.take j))) ∧ ∀ k, k < 3 → RK x y c k
theorem okE_snoc {c : Cfg} {E : List (Nat × Nat)} (hE : okE c E) (h3 : 3 ≤ cN c) (hl : E.length < 40) {e : Nat × Nat} (he : okA c e) : okE c (E ++ [e]) := by
  refine ⟨?_, fun h => by omega, fun e' he' => ?_⟩
  · rw [List.length_append]; show E.length + 1 ≤ 40; omega
  · rcases List.mem_append.mp he' with h | h
    · exact hE.2.2 e' h
    · rw [List.mem_singleton.mp h]; exact he
theorem deedW {x : Ww} {y : Md} {c : Cfg} {E : List (Nat × Nat)} (h : RWE x y c E) (h3 : 3 ≤ cN c) (hl : E.length < 40) {e : Nat × Nat} (he : okA c e) {vv : Int32} (hv : vv = nI (E.length + 1)) {ct : Ct} (hct : RC ct c (E ++ [e])) {L nw : Ar} (h1 : ∀ j, j < 12 * E.length → L j = md_log y j) (h2 : ∀ j, j < 12 → L (12 * E.length + j) = md_now y j) (hn : RT nw 0 (actN c (repN c E) e)) : RWE (ww_set_cart x ct) (md_set_now (md_set_deedMany (md_set_log y L) vv) nw) c (E ++ [e]) := by
  obtain ⟨hC, hE, hR, hM, hd, hN, hL, hK⟩ := h
  refine ⟨hC, okE_snoc hE h3 hl he, hct, hM, ?_, ?_, fun j hj => ?_, hK⟩
  · show vv = nI (E ++ [e]).length
    rw [hv, List.length_append]; rfl
  · show RT nw 0 (repN c (E ++ [e]))
    rw [rep_snoc]; exact hn
  · show RT L (12 * j) (repN c ((E ++ [e]).take j))
    rw [List.length_append] at hj
    have hj : j < E.length + 1 := hj
    rw [List.take_append_of_le_length (by omega)]
    by_cases ej : j = E.length
    · subst ej
      rw [List.take_length]
      exact RT_of hN (fun i hi => by rw [h2 i hi, Nat.zero_add])
    · exact RT_of (hL j (by omega)) (fun i hi => h1 _ (by omega))
/-! the reference's deeds -/
theorem RT4 {t : Ar} {d : Dyn} (h : RT t 0 d) {i : Nat} (hi : i < 8) : t (4 + i) = nI (dWear d i) := by have := h.2.2.2.2 i hi; rwa [Nat.zero_add] at this
theorem mputs_ok {f : Ar} {c : Cfg} {d : Dyn} (hT : RT f 0 d) (hC : okC c) (hD : okD c d) {i : Nat} (hi : i < cN c) : ∃ g, f_X6_puts 12 f (nI i) = some g ∧ RT g 0 (mendN d i) := by
  have hn := okC_n hC
  have ht := there_lt hC hD
  unfold f_X6_puts
  rw [gd_t (show inb (3 : Int32) 12 = true by decide), gd_t (show inb (3 : Int32) 12 = true by decide), gd4 (by omega), ix4 (by omega), show ix (3 : Int32) = 3 by decide]
  refine ⟨_, rfl, ?_, ?_, ?_, ?_, fun j hj => ?_⟩
  · rw [upd_n (by omega), upd_n (by decide)]; exact hT.1
  · rw [upd_n (by omega), upd_n (by decide)]; exact hT.2.1
  · rw [upd_n (by omega), upd_n (by decide)]; exact hT.2.2.1
  · rw [upd_n (by omega), upd_s, show f 3 = nI (dThere d) from hT.2.2.2.1]
    exact tb_mend _ ht i (by omega)
  · rw [Nat.zero_add]
    show _ = nI (updN (dWear d) i 0 j)
    unfold updN
    by_cases e : j = i
    · subst e; rw [upd_s, if_pos rfl]; rfl
    · rw [upd_n (by omega), upd_n (by omega), if_neg e]; exact RT4 hT hj
theorem mknock_ok {f : Ar} {c : Cfg} {d : Dyn} (hT : RT f 0 d) (hC : okC c) (hD : okD c d) {i : Nat} (hi : i < cN c) : RT (upd f 3 (f 3 &&& (jshl 1 (nI i) ^^^ -1))) 0 (knockN d i) := by
  have hn := okC_n hC
  have ht := there_lt hC hD
  refine ⟨?_, ?_, ?_, ?_, fun j hj => ?_⟩
  · rw [upd_n (by omega)]; exact hT.1
  · rw [upd_n (by omega)]; exact hT.2.1
  · rw [upd_n (by omega)]; exact hT.2.2.1
  · rw [upd_s, show f 3 = nI (dThere d) from hT.2.2.2.1]
    exact tb_knock _ ht i (by omega)
  · rw [upd_n (by omega)]; exact hT.2.2.2.2 j hj
theorem mweather_ok {f : Ar} {c : Cfg} {d : Dyn} (hT : RT f 0 d) (hD : okD c d) : RT (upd f 2 (1 - f 2)) 0 (weatherN d) ∧ 1 - f 2 = nI (1 - dDry d) := by
  have h2 : (1 : Int32) - f 2 = nI (1 - dDry d) := by
    rw [show f 2 = nI (dDry d) from hT.2.2.1]
    exact pk_sub (a := 1) hD.2.1
  refine ⟨⟨?_, ?_, ?_, ?_, fun j hj => ?_⟩, h2⟩
  · rw [upd_n (by omega)]; exact hT.1
  · rw [upd_n (by omega)]; exact hT.2.1
  · rw [upd_s]; exact h2
  · rw [upd_n (by omega)]; exact hT.2.2.2.1
  · rw [upd_n (by omega)]; exact hT.2.2.2.2 j hj
theorem msoak_ok {f : Ar} {c : Cfg} {d : Dyn} (hT : RT f 0 d) (hC : okC c) (hD : okD c d) : ∃ g, f_X6_soaks 12 f = some (nI (sumN (fun i => dWear d i / 2) (cN c)), g) ∧ RT g 0 (soakN d) := by
  have hn := okC_n hC
  have hs : sumN (fun i => dWear d i / 2) 8 = sumN (fun i => dWear d i / 2) (cN c) := by
    have := sum_tail (f := fun i => dWear d i / 2) (n := cN c) (j := 8 - cN c) (fun i h1 h2 => by show dWear d i / 2 = 0; rw [(hD.2.2.2 i (by omega)).2 h1])
    rwa [show cN c + (8 - cN c) = 8 by omega] at this
  have key : ∃ o, f_X6_soaks 12 f = some o ∧ ∃ g : Ar, o = (nI (sumN (fun i => dWear d i / 2) 8), g) ∧ (∀ i, i < 8 → g (4 + i) = nI (dWear d i / 2)) ∧ ∀ i, i < 4 → g i = f i := by
    unfold f_X6_soaks
    refine lp_e (fun k s => ∃ g : Ar, s = (nI (sumN (fun i => dWear d i / 2) k), nI k, g) ∧ (∀ i, i < k → g (4 + i) = nI (dWear d i / 2)) ∧ (∀ i, k ≤ i → g (4 + i) = f (4 + i)) ∧ ∀ i, i < 4 → g i = f i) _ 8 ⟨f, rfl, fun i hi => absurd hi (by omega), fun i _ => rfl, fun i _ => rfl⟩ (by omega) ?_ ?_
    · rintro k s hk ⟨g, rfl, h1, h2, h4⟩
      have hdiv : nI (dWear d k) / nI 2 = nI (dWear d k / 2) := pk_div (by have := (hD.2.2.2 k (by omega)).1; omega) (by decide) (by decide)
      refine ⟨(nI (sumN (fun i => dWear d i / 2) (k + 1)), nI (k + 1), upd g (4 + k) (nI (dWear d k / 2))), ?_, _, rfl, fun i hi => ?_, fun i hi => ?_, fun i hi => ?_⟩
      · show f_X6_soaks_B4 12 (nI _) (nI k) g = _
        unfold f_X6_soaks_B4
        rw [if_neg (show ¬ (8 : Int32) ≤ nI k from nI_ge hk (by decide)), gd4 (by omega), gd4 (by omega), gd4 (by omega), ix4 (by omega)]
        show some (Sum.inl (nI (sumN (fun i => dWear d i / 2) k) + upd g (4 + k) (g (4 + k) / nI 2) (4 + k), nI k + 1, upd g (4 + k) (g (4 + k) / nI 2))) = _
        rw [upd_s, h2 k (Nat.le_refl k), RT4 hT hk, hdiv, nI_add, nI_1]; rfl
      · by_cases e : i = k
        · subst e; rw [upd_s]
        · rw [upd_n (by omega)]; exact h1 i (by omega)
      · rw [upd_n (by omega)]; exact h2 i (by omega)
      · rw [upd_n (by omega)]; exact h4 i hi
    · rintro s ⟨g, rfl, h1, h2, h4⟩
      refine ⟨_, ?_, g, rfl, h1, h4⟩
      show f_X6_soaks_B4 12 (nI _) (nI 8) g = _
      unfold f_X6_soaks_B4
      rw [if_pos (show (8 : Int32) ≤ nI 8 by decide)]; rfl
  obtain ⟨o, e, g, rfl, h1, h4⟩ := key
  refine ⟨g, ?_, ?_⟩
  · rw [e, hs]
  · refine ⟨(h4 0 (by omega)).trans hT.1, (h4 1 (by omega)).trans hT.2.1, (h4 2 (by omega)).trans hT.2.2.1, (h4 3 (by omega)).trans hT.2.2.2.1, fun i hi => ?_⟩
    rw [Nat.zero_add]; exact h1 i hi
