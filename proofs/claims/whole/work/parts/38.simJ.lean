/-! PURE SIDE: undo, keep, on -/
theorem okE_take {c : Cfg} {E : List (Nat × Nat)} (hE : okE c E) (k : Nat) : okE c (E.take k) := by
  refine ⟨?_, fun h => ?_, fun e he => hE.2.2 e (List.mem_of_mem_take he)⟩
  · rw [List.length_take]; have := hE.1; omega
  · rw [hE.2.1 h, List.take_nil]
theorem start_ok {w : Wh} {c : Cfg} {d : Dyn} (hW : RW w c d) (hC : okC c) : ∃ w1, f_X4_start w = some w1 ∧ RW w1 c (startN c) := by
  obtain ⟨w1, w2, w3, w4, w5, w6, w7, w8, w9⟩ := hW
  have hn := okC_n hC
  obtain ⟨g, e1, e2, -⟩ := fill_ok (n := 8) (by decide) (wh_wear w) 0
  unfold f_X4_start
  rw [e1, ob_some]
  refine ⟨_, rfl, w1, w2, rfl, rfl, ?_, rfl, w7, fun i hi => e2 i hi, w9⟩
  show jshl (nI 1) (wh_spokes w) - nI 1 = nI (2 ^ cN c - 1)
  rw [w1, tb_all _ (by omega)]
theorem getE {E : List (Nat × Nat)} {k : Nat} (h : k < E.length) : ∃ e, E[k]? = some e := ⟨E[k], List.getElem?_eq_getElem h⟩
theorem goBack_ok {w : Ct} {c : Cfg} {E : List (Nat × Nat)} (hR : RC w c E) (hC : okC c) (hE : okE c E) {m : Nat} (hm : m ≤ E.length) : ∃ w1, f_X1_goBack w (nI m) = some w1 ∧ RC w1 c (E.take m) := by
  obtain ⟨hW, hd, hz⟩ := hR
  have h40 := hE.1
  obtain ⟨v, e1, hv⟩ := start_ok hW hC
  have key : ∃ o, lp (f_X1_goBack_L9 (nI m)) fuel ((0 : Int32), ct_set_wheel w v) = some o ∧ ∃ u, o = ct_set_done (ct_set_wheel w u) (nI m) ∧ RW u c (repN c (E.take m)) := by
    refine lp_e (fun k s => ∃ u, s = (nI k, ct_set_wheel w u) ∧ RW u c (repN c (E.take k))) _ m ⟨v, rfl, hv⟩ (by omega) ?_ ?_
    · rintro k s hk ⟨u, rfl, hu⟩
      obtain ⟨e, he⟩ := getE (E := E) (k := k) (by omega)
      have hmem : e ∈ E := List.mem_of_getElem? he
      have h3 : 3 ≤ cN c := okC_3 hC (fun h0 => by rw [hE.2.1 h0] at hmem; exact absurd hmem List.not_mem_nil)
      obtain ⟨o1, o2⟩ := okD_rep hC (okE_take hE k)
      rw [List.length_take] at o2
      obtain ⟨u2, e2, hu2⟩ := act_ok hu hC o1 h3 (by omega) (hE.2.2 e hmem)
      obtain ⟨z1, z2⟩ := hz k e he
      refine ⟨(nI (k + 1), ct_set_wheel w u2), ?_, u2, rfl, ?_⟩
      · show f_X1_goBack_B9 (nI m) (nI k) (ct_set_wheel w u) = _
        unfold f_X1_goBack_B9
        rw [if_neg (nI_ge hk (by omega)), if_neg (show ¬ (40 : Int32) ≤ nI k from nI_ge (b := 40) (by omega) (by decide)), gd_b (by omega) (by decide), gd_b (by omega) (by decide), ix_n (by omega), show ct_deeds (ct_set_wheel w u) k = nI e.1 from z1, show ct_doneTo (ct_set_wheel w u) k = nI e.2 from z2, show f_X4_act (ct_wheel (ct_set_wheel w u)) (nI e.1) (nI e.2) = _ from e2, ob_some, nI_1]
        rfl
      · rw [List.take_succ, he]
        show RW u2 c (repN c (E.take k ++ [e]))
        rw [rep_snoc]; exact hu2
    · rintro s ⟨u, rfl, hu⟩
      refine ⟨_, ?_, u, rfl, hu⟩
      show f_X1_goBack_B9 (nI m) (nI m) (ct_set_wheel w u) = _
      unfold f_X1_goBack_B9
      rw [if_pos (nI_le (Nat.le_refl m) (by omega))]; rfl
  obtain ⟨o, e, u, rfl, hu⟩ := key
  refine ⟨ct_set_done (ct_set_wheel w u) (nI m), ?_, hu, ?_, fun j e' hj => ?_⟩
  · unfold f_X1_goBack
    rw [e1, ob_some]; exact e
  · show nI m = nI (E.take m).length
    rw [List.length_take, Nat.min_eq_left hm]
  · rw [List.getElem?_take] at hj
    split at hj
    · exact hz j e' hj
    · cases hj
theorem s_undo : S_undo Rel := by
  intro x y h v
  obtain ⟨hT, hR, hX, c, E, hWE⟩ := h
  obtain ⟨hC, hE, hRC, hM, hd, hN, hL, hK⟩ := id hWE
  have h40 := hE.1
  unfold f_X5_undo f_X6_undo
  rw [in_ok, hRC.2.1, hd]
  rcases num_cases v (E.length + 1) (by omega) with hb | ⟨m, hm, rfl⟩
  · refine ⟨-1, x, y, ?_, ?_, hT, hR, hX, c, E, hWE⟩
    · by_cases h0 : v < 0
      · rw [if_pos h0]
      · rw [if_neg h0, if_neg (show ¬ v ≤ nI E.length from fun z => absurd (lt_of_nle (by omega) (hb.resolve_left h0)) (Int32.not_lt.mpr z))]
    · by_cases h0 : v < 0
      · rw [if_pos h0]; rfl
      · rw [if_neg h0, if_pos (lt_of_nle (by omega) (hb.resolve_left h0))]; rfl
  · obtain ⟨ct, e1, h1⟩ := goBack_ok hRC hC hE (m := m) (by omega)
    rw [if_neg (nI_pos (by omega)), if_neg (nI_pos (by omega)), if_pos (nI_le (by omega) (by omega)), if_neg (nI_nlt (by omega) (by omega)), nm_eq, pk_sub (by omega), e1, ob_some, ob_some, if_neg (show ¬ (1 : Int32) = 0 by decide)]
    have key : ∃ o, lp (f_X6_undo_L23 (nI m) (nI (E.length - m))) fuel ((0 : Int32), y) = some o ∧ ∃ nw, o = (nI (E.length - m), md_set_deedMany (md_set_now y nw) (nI m)) ∧ RT nw 0 (repN c (E.take m)) := by
      by_cases hm2 : m = E.length
      · subst hm2
        refine lp_i (fun k s => k = 0 ∧ s = ((0 : Int32), y)) _ 0 ⟨rfl, rfl⟩ (by omega) ?_
        rintro k s hk ⟨rfl, rfl⟩
        right
        refine ⟨_, ?_, md_now y, rfl, ?_⟩
        · show f_X6_undo_B23 (nI E.length) (nI (E.length - E.length)) 0 y = _
          unfold f_X6_undo_B23
          rw [if_neg (show ¬ (12 : Int32) ≤ 0 by decide), Nat.sub_self, if_pos (show nI 0 ≤ 0 by decide)]; rfl
        · rw [List.take_length]; exact hN
      · refine lp_e (fun k s => ∃ nw, s = (nI k, md_set_now y nw) ∧ ∀ j, j < k → nw j = md_log y (12 * m + j)) _ 12 ⟨md_now y, rfl, fun j hj => absurd hj (by omega)⟩ (by omega) ?_ ?_
        · rintro k s hk ⟨nw, rfl, hnw⟩
          obtain ⟨j1, j2⟩ := idx_n (m := 12) (r := m) (i := k) (N := 480) (by omega) (by decide)
          refine ⟨(nI (k + 1), md_set_now y (upd nw k (md_log y (12 * m + k)))), ?_, _, rfl, fun j hj => ?_⟩
          · show f_X6_undo_B23 (nI m) (nI (E.length - m)) (nI k) (md_set_now y nw) = _
            unfold f_X6_undo_B23
            rw [if_neg (show ¬ (12 : Int32) ≤ nI k from nI_ge hk (by decide)), if_neg (nI_nle (by omega) (by omega)), gd_t (show inb ((12 : Int32) * nI m + nI k) 480 = true from j1), gd_b (by omega) (by decide), show ix ((12 : Int32) * nI m + nI k) = 12 * m + k from j2, ix_n (by omega), nI_1]
            rfl
          · by_cases e : j = k
            · subst e; rw [upd_s]
            · rw [upd_n e]; exact hnw j (by omega)
        · rintro s ⟨nw, rfl, hnw⟩
          refine ⟨_, ?_, nw, rfl, ?_⟩
          · show f_X6_undo_B23 (nI m) (nI (E.length - m)) (nI 12) (md_set_now y nw) = _
            unfold f_X6_undo_B23
            rw [if_pos (show (12 : Int32) ≤ nI 12 by decide)]; rfl
          · exact RT_of (hL m (by omega)) (fun j hj => by rw [Nat.zero_add]; exact hnw j hj)
    obtain ⟨o, e, nw, rfl, hnw⟩ := key
    refine ⟨_, _, _, rfl, e, relU hT hR hX hC (okE_take hE m) h1 hM ?_ hnw (fun j hj => ?_) hK⟩
    · rw [List.length_take, Nat.min_eq_left (by omega)]
    · rw [List.length_take] at hj
      show RT (md_log y) (12 * j) (repN c ((E.take m).take j))
      rw [List.take_take, Nat.min_eq_left (by omega)]
      exact hL j (by omega)
theorem ctake_ok {w v : Ct} {c : Cfg} {E : List (Nat × Nat)} (hV : RC v c E) (hC : okC c) (hE : okE c E) : ∃ w1, f_X1_take w v = some w1 ∧ RC w1 c E := by
  obtain ⟨hW, hd, hz⟩ := hV
  have h40 := hE.1
  obtain ⟨u, e1, hu⟩ := take_ok (w := ct_wheel w) hW hC (okD_rep hC hE).1
  have hcp : ∀ (f g : Ar) (j : Nat), j < 40 → acpy f g (0 : Int32) (0 : Int32) (40 : Int32) j = f j := fun f g j hj => sb_cpy0 hj
  unfold f_X1_take
  rw [e1, ob_some]
  refine ⟨_, rfl, hu, hd, fun j e hj => ?_⟩
  have hjl : j < E.length := (List.getElem?_eq_some_iff.mp hj).1
  obtain ⟨z1, z2⟩ := hz j e hj
  exact ⟨(hcp _ _ j (by omega)).trans z1, (hcp _ _ j (by omega)).trans z2⟩
theorem keep_in {x : Ww} {q : Nat} (hq : q < 3) : f_X5_keep x (nI q) = Option.bind (f_X4_isEmpty (ct_wheel (ww_cart x))) (fun q18 => if q18 = 0 then Option.bind (f_X1_take (ww_kept x q) (ww_cart x)) (fun q37 => some (ct_done (ww_cart x), ww_set_kept x (updK (ww_kept x) q q37))) else some (-4, x)) := by
  match q, hq with
  | 0, _ => rfl
  | 1, _ => rfl
  | 2, _ => rfl
  | k + 3, h => exact absurd h (by omega)
theorem on_in {x : Ww} {q : Nat} (hq : q < 3) : f_X5_on x (nI q) = if ct_done (ww_kept x q) = -1 then Option.bind (f_X5_refuse x 1) (fun q26 => some (q26.1, q26.2)) else Option.bind (f_X1_take (ww_cart x) (ww_kept x q)) (fun q40 => some (ct_done q40, ww_set_cart x q40)) := by
  match q, hq with
  | 0, _ => rfl
  | 1, _ => rfl
  | 2, _ => rfl
  | k + 3, h => exact absurd h (by omega)
theorem three_bad {v : Int32} (hb : v < 0 ∨ nI 3 ≤ v) : f_X6_in v 0 2 = some 0 := in_bad (k := 3) (by decide) hb
theorem three_good {q : Nat} (h : q < 3) : f_X6_in (nI q) 0 2 = some 1 := in_good (k := 3) (by decide) h
theorem idx3 {q o k : Nat} (h : 492 * q + o + k < 1476) : inb (((492 : Int32) * nI q + nI o) + nI k) 1476 = true ∧ ix (((492 : Int32) * nI q + nI o) + nI k) = 492 * q + o + k := by
  have : ((492 : Int32) * nI q + nI o) + nI k = nI (492 * q + o + k) := by
    show (nI 492 * nI q + nI o) + nI k = _
    rw [pk_mul, nI_add, nI_add]
  rw [this]
  exact ⟨inb_n h (by decide), ix_n (by omega)⟩
theorem keep2_ok {Z : Md} {q n : Nat} (hd : md_deedMany Z = nI n) (hq : q < 3) (hn : n ≤ 40) : ∃ K, lp (f_X6_keep_L65 (nI q)) fuel ((0 : Int32), Z) = some (nI n, md_set_kept Z K) ∧ (∀ j, (j < 492 * q + 12 ∨ 492 * q + 492 ≤ j) → K j = md_kept Z j) ∧ ∀ j, j < 12 * n → K (492 * q + 12 + j) = md_log Z j := by
  have key : ∃ o, lp (f_X6_keep_L65 (nI q)) fuel ((0 : Int32), Z) = some o ∧ ∃ K, o = (nI n, md_set_kept Z K) ∧ (∀ j, (j < 492 * q + 12 ∨ 492 * q + 492 ≤ j) → K j = md_kept Z j) ∧ ∀ j, j < 12 * n → K (492 * q + 12 + j) = md_log Z j := by
    refine lp_e (fun k s => ∃ K, s = (nI k, md_set_kept Z K) ∧ (∀ j, (j < 492 * q + 12 ∨ 492 * q + 492 ≤ j) → K j = md_kept Z j) ∧ ∀ j, j < k → K (492 * q + 12 + j) = md_log Z j) _ (12 * n) ⟨md_kept Z, rfl, fun _ _ => rfl, fun j hj => absurd hj (by omega)⟩ (by omega) ?_ ?_
    · rintro k s hk ⟨K, rfl, b2, b3⟩
      obtain ⟨j1, j2⟩ := idx3 (q := q) (o := 12) (k := k) (by omega)
      refine ⟨(nI (k + 1), md_set_kept Z (upd K (492 * q + 12 + k) (md_log Z k))), ?_, _, rfl, fun j hj => ?_, fun j hj => ?_⟩
      · show f_X6_keep_B65 (nI q) (nI k) (md_set_kept Z K) = _
        unfold f_X6_keep_B65
        rw [show md_deedMany (md_set_kept Z K) = nI n from hd, show (12 : Int32) * nI n = nI (12 * n) from pk_mul 12 _, if_neg (nI_ge hk (by omega)), gd_b (by omega) (by decide), gd_t (show inb (((492 : Int32) * nI q + (12 : Int32)) + nI k) 1476 = true from j1), show ix (((492 : Int32) * nI q + (12 : Int32)) + nI k) = 492 * q + 12 + k from j2, ix_n (by omega), nI_1]
        rfl
      · rw [upd_n (by omega)]; exact b2 j hj
      · by_cases e : j = k
        · subst e; rw [upd_s]
        · rw [upd_n (by omega)]; exact b3 j (by omega)
    · rintro s ⟨K, rfl, b2, b3⟩
      refine ⟨_, ?_, K, rfl, b2, b3⟩
      show f_X6_keep_B65 (nI q) (nI (12 * n)) (md_set_kept Z K) = _
      unfold f_X6_keep_B65 f_X6_keep_J103
      rw [show md_deedMany (md_set_kept Z K) = nI n from hd, show (12 : Int32) * nI n = nI (12 * n) from pk_mul 12 _, if_pos (nI_le (Nat.le_refl _) (by omega))]
      rfl
  obtain ⟨o, e, K, rfl, h⟩ := key
  exact ⟨K, e, h⟩
theorem keep1_ok {Z : Md} {q n : Nat} (hd : md_deedMany Z = nI n) (hq : q < 3) (hn : n ≤ 40) : ∃ K, lp (f_X6_keep_L33 (nI q)) fuel ((0 : Int32), Z) = some (nI n, md_set_kept Z K) ∧ (∀ j, j < 12 → K (492 * q + j) = md_now Z j) ∧ (∀ j, (j < 492 * q ∨ 492 * q + 492 ≤ j) → K j = md_kept Z j) ∧ ∀ j, j < 12 * n → K (492 * q + 12 + j) = md_log Z j := by
  have key : ∃ o, lp (f_X6_keep_L33 (nI q)) fuel ((0 : Int32), Z) = some o ∧ ∃ K, o = (nI n, md_set_kept Z K) ∧ (∀ j, j < 12 → K (492 * q + j) = md_now Z j) ∧ (∀ j, (j < 492 * q ∨ 492 * q + 492 ≤ j) → K j = md_kept Z j) ∧ ∀ j, j < 12 * n → K (492 * q + 12 + j) = md_log Z j := by
    refine lp_e (fun k s => ∃ K, s = (nI k, md_set_kept Z K) ∧ (∀ j, j < k → K (492 * q + j) = md_now Z j) ∧ (∀ j, (j < 492 * q ∨ 492 * q + 492 ≤ j) → K j = md_kept Z j)) _ 12 ⟨md_kept Z, rfl, fun j hj => absurd hj (by omega), fun _ _ => rfl⟩ (by omega) ?_ ?_
    · rintro k s hk ⟨K, rfl, b1, b2⟩
      obtain ⟨j1, j2⟩ := idx_n (m := 492) (r := q) (i := k) (N := 1476) (by omega) (by decide)
      refine ⟨(nI (k + 1), md_set_kept Z (upd K (492 * q + k) (md_now Z k))), ?_, _, rfl, fun j hj => ?_, fun j hj => ?_⟩
      · show f_X6_keep_B33 (nI q) (nI k) (md_set_kept Z K) = _
        unfold f_X6_keep_B33
        rw [if_neg (show ¬ (12 : Int32) ≤ nI k from nI_ge hk (by decide)), gd_b (by omega) (by decide), gd_t (show inb ((492 : Int32) * nI q + nI k) 1476 = true from j1), show ix ((492 : Int32) * nI q + nI k) = 492 * q + k from j2, ix_n (by omega), nI_1]
        rfl
      · by_cases e : j = k
        · subst e; rw [upd_s]
        · rw [upd_n (by omega)]; exact b1 j (by omega)
      · rw [upd_n (by omega)]; exact b2 j hj
    · rintro s ⟨K, rfl, b1, b2⟩
      obtain ⟨K2, e, c1, c2⟩ := keep2_ok (Z := md_set_kept Z K) hd hq hn
      refine ⟨(nI n, md_set_kept Z K2), ?_, K2, rfl, fun j hj => (c1 _ (by omega)).trans (b1 j hj), fun j hj => (c1 _ (by omega)).trans (b2 j hj), c2⟩
      show f_X6_keep_B33 (nI q) (nI 12) (md_set_kept Z K) = _
      unfold f_X6_keep_B33 f_X6_keep_J63
      rw [if_pos (show (12 : Int32) ≤ nI 12 by decide), e]; rfl
  obtain ⟨o, e, K, rfl, h⟩ := key
  exact ⟨K, e, h⟩
theorem s_keep : S_keep Rel := by
  intro x y h v
  obtain ⟨hT, hR, hX, c, E, hWE⟩ := h
  obtain ⟨hC, hE, hRC, hM, hd, hN, hL, hK⟩ := id hWE
  have h40 := hE.1
  rcases num_cases v 3 (by decide) with hb | ⟨q, hq, rfl⟩
  · refine ⟨-1, x, y, ?_, ?_, hT, hR, hX, c, E, hWE⟩
    · unfold f_X5_keep
      by_cases h0 : v < 0
      · rw [if_pos h0]
      · rw [if_neg h0, if_neg (show ¬ v < (3 : Int32) from Int32.not_lt.mpr (hb.resolve_left h0))]
    · unfold f_X6_keep
      rw [three_bad hb]; rfl
  · rw [keep_in hq]
    unfold f_X6_keep
    rw [three_good hq, ob_some, if_neg (show ¬ (1 : Int32) = 0 by decide)]
    by_cases h0 : cN c = 0
    · rw [cEmpty0 hRC.1 h0, if_pos (mn0 hM h0)]
      exact ⟨-4, x, y, rfl, rfl, hT, hR, hX, c, E, hWE⟩
    · have h3 := okC_3 hC h0
      rw [cEmpty1 hRC.1 hC h3, if_neg (mn1 hM hC h3), gd_b hq (by decide), ix_n (by omega), ob_some, if_pos (show (0 : Int32) = 0 from rfl)]
      obtain ⟨ct, e1, h1⟩ := ctake_ok (w := ww_kept x q) hRC hC hE
      obtain ⟨M, eM⟩ : ∃ M, M = upd (md_keptMany y) q (md_deedMany y) := ⟨_, rfl⟩
      have hMq : M q = nI E.length := by rw [eM, upd_s, hd]
      have hMn : ∀ k, k ≠ q → M k = md_keptMany y k := fun k hk => by rw [eM, upd_n hk]
      rw [← eM]
      clear eM
      obtain ⟨K, e, b1, b2, b3⟩ := keep1_ok (Z := md_set_keptMany y M) (q := q) (n := E.length) hd hq h40
      have b1 : ∀ j, j < 12 → K (492 * q + j) = md_now y j := b1
      have b2 : ∀ j, (j < 492 * q ∨ 492 * q + 492 ≤ j) → K j = md_kept y j := b2
      have b3 : ∀ j, j < 12 * E.length → K (492 * q + 12 + j) = md_log y j := b3
      refine ⟨nI E.length, ww_set_kept x (updK (ww_kept x) q ct), md_set_kept (md_set_keptMany y M) K, ?_, e, relK hT hR hX hWE (fun k hk => ?_)⟩
      · rw [e1, ob_some, hRC.2.1]
      · by_cases ek : k = q
        · subst ek
          right
          refine ⟨h3, E, hE, ?_, hMq, ?_, fun j hj => ?_⟩
          · show RC (updK (ww_kept x) k ct k) c E
            unfold updK
            rw [if_pos rfl]; exact h1
          · exact RT_of (L := K) hN (fun j hj => by rw [Nat.zero_add]; exact b1 j hj)
          · refine RT_of (L := K) (hL j hj) (fun i hi => ?_)
            have := b3 (12 * j + i) (by omega)
            rw [← Nat.add_assoc] at this
            exact this
        · rcases hK k hk with ⟨g1, g2⟩ | ⟨g0, E2, g1, g2, g3, g4, g5⟩
          · left
            refine ⟨?_, (hMn k ek).trans g2⟩
            show ct_done (updK (ww_kept x) q ct k) = -1
            unfold updK
            rw [if_neg ek]; exact g1
          · right
            refine ⟨g0, E2, g1, ?_, (hMn k ek).trans g3, ?_, fun j hj => ?_⟩
            · show RC (updK (ww_kept x) q ct k) c E2
              unfold updK
              rw [if_neg ek]; exact g2
            · exact RT_of (L := K) g4 (fun j hj => b2 _ (by omega))
            · have h402 := g1.1
              exact RT_of (L := K) (g5 j hj) (fun i hi => b2 _ (by omega))
theorem on2_ok {Z : Md} {q n : Nat} (hd : md_deedMany Z = nI n) (hq : q < 3) (hn : n ≤ 40) : ∃ L, lp (f_X6_on_L70 (nI q)) fuel ((0 : Int32), Z) = some (nI n, md_set_log Z L) ∧ ∀ j, j < 12 * n → L j = md_kept Z (492 * q + 12 + j) := by
  have key : ∃ o, lp (f_X6_on_L70 (nI q)) fuel ((0 : Int32), Z) = some o ∧ ∃ L, o = (nI n, md_set_log Z L) ∧ ∀ j, j < 12 * n → L j = md_kept Z (492 * q + 12 + j) := by
    refine lp_e (fun k s => ∃ L, s = (nI k, md_set_log Z L) ∧ ∀ j, j < k → L j = md_kept Z (492 * q + 12 + j)) _ (12 * n) ⟨md_log Z, rfl, fun j hj => absurd hj (by omega)⟩ (by omega) ?_ ?_
    · rintro k s hk ⟨L, rfl, b1⟩
      obtain ⟨j1, j2⟩ := idx3 (q := q) (o := 12) (k := k) (by omega)
      refine ⟨(nI (k + 1), md_set_log Z (upd L k (md_kept Z (492 * q + 12 + k)))), ?_, _, rfl, fun j hj => ?_⟩
      · show f_X6_on_B70 (nI q) (nI k) (md_set_log Z L) = _
        unfold f_X6_on_B70
        rw [show md_deedMany (md_set_log Z L) = nI n from hd, show (12 : Int32) * nI n = nI (12 * n) from pk_mul 12 _, if_neg (nI_ge hk (by omega)), gd_t (show inb (((492 : Int32) * nI q + (12 : Int32)) + nI k) 1476 = true from j1), gd_b (by omega) (by decide), show ix (((492 : Int32) * nI q + (12 : Int32)) + nI k) = 492 * q + 12 + k from j2, ix_n (by omega), nI_1]
        rfl
      · by_cases e : j = k
        · subst e; rw [upd_s]
        · rw [upd_n (by omega)]; exact b1 j (by omega)
    · rintro s ⟨L, rfl, b1⟩
      refine ⟨_, ?_, L, rfl, b1⟩
      show f_X6_on_B70 (nI q) (nI (12 * n)) (md_set_log Z L) = _
      unfold f_X6_on_B70 f_X6_on_J108
      rw [show md_deedMany (md_set_log Z L) = nI n from hd, show (12 : Int32) * nI n = nI (12 * n) from pk_mul 12 _, if_pos (nI_le (Nat.le_refl _) (by omega))]
      rfl
  obtain ⟨o, e, L, rfl, h⟩ := key
  exact ⟨L, e, h⟩
theorem on1_ok {Z : Md} {q n : Nat} (hd : md_deedMany Z = nI n) (hq : q < 3) (hn : n ≤ 40) : ∃ nw L, lp (f_X6_on_L38 (nI q)) fuel ((0 : Int32), Z) = some (nI n, md_set_log (md_set_now Z nw) L) ∧ (∀ j, j < 12 → nw j = md_kept Z (492 * q + j)) ∧ ∀ j, j < 12 * n → L j = md_kept Z (492 * q + 12 + j) := by
  have key : ∃ o, lp (f_X6_on_L38 (nI q)) fuel ((0 : Int32), Z) = some o ∧ ∃ nw L, o = (nI n, md_set_log (md_set_now Z nw) L) ∧ (∀ j, j < 12 → nw j = md_kept Z (492 * q + j)) ∧ ∀ j, j < 12 * n → L j = md_kept Z (492 * q + 12 + j) := by
    refine lp_e (fun k s => ∃ nw, s = (nI k, md_set_now Z nw) ∧ ∀ j, j < k → nw j = md_kept Z (492 * q + j)) _ 12 ⟨md_now Z, rfl, fun j hj => absurd hj (by omega)⟩ (by omega) ?_ ?_
    · rintro k s hk ⟨nw, rfl, b1⟩
      obtain ⟨j1, j2⟩ := idx_n (m := 492) (r := q) (i := k) (N := 1476) (by omega) (by decide)
      refine ⟨(nI (k + 1), md_set_now Z (upd nw k (md_kept Z (492 * q + k)))), ?_, _, rfl, fun j hj => ?_⟩
      · show f_X6_on_B38 (nI q) (nI k) (md_set_now Z nw) = _
        unfold f_X6_on_B38
        rw [if_neg (show ¬ (12 : Int32) ≤ nI k from nI_ge hk (by decide)), gd_t (show inb ((492 : Int32) * nI q + nI k) 1476 = true from j1), gd_b (by omega) (by decide), show ix ((492 : Int32) * nI q + nI k) = 492 * q + k from j2, ix_n (by omega), nI_1]
        rfl
      · by_cases e : j = k
        · subst e; rw [upd_s]
        · rw [upd_n (by omega)]; exact b1 j (by omega)
    · rintro s ⟨nw, rfl, b1⟩
      obtain ⟨L, e, c1⟩ := on2_ok (Z := md_set_now Z nw) hd hq hn
      refine ⟨(nI n, md_set_log (md_set_now Z nw) L), ?_, nw, L, rfl, b1, c1⟩
      show f_X6_on_B38 (nI q) (nI 12) (md_set_now Z nw) = _
      unfold f_X6_on_B38 f_X6_on_J68
      rw [if_pos (show (12 : Int32) ≤ nI 12 by decide), e]; rfl
  obtain ⟨o, e, nw, L, rfl, h⟩ := key
  exact ⟨nw, L, e, h⟩
theorem s_on : S_on Rel := by
  intro x y h v
  have hRel := h
  obtain ⟨hT, hR, hX, c, E, hWE⟩ := h
  obtain ⟨hC, hE, hRC, hM, hd, hN, hL, hK⟩ := id hWE
  rcases num_cases v 3 (by decide) with hb | ⟨q, hq, rfl⟩
  · refine ⟨-1, x, y, ?_, ?_, hRel⟩
    · unfold f_X5_on
      by_cases h0 : v < 0
      · rw [if_pos h0]
      · rw [if_neg h0, if_neg (show ¬ v < (3 : Int32) from Int32.not_lt.mpr (hb.resolve_left h0))]
    · unfold f_X6_on
      rw [three_bad hb]; rfl
  · rw [on_in hq]
    unfold f_X6_on
    rw [three_good hq, ob_some, if_neg (show ¬ (1 : Int32) = 0 by decide), gd_b hq (by decide), ix_n (by omega)]
    rcases hK q hq with ⟨g1, g2⟩ | ⟨g0, F, g1, g2, g3, g4, g5⟩
    · obtain ⟨x1, y1, r1, r2, r3⟩ := refuse_ok hRel (f := 1) (by decide)
      refine ⟨-3, x1, y1, ?_, ?_, r3⟩
      · rw [if_pos g1, show f_X5_refuse x 1 = some (-3, x1) from r1]; rfl
      · rw [g2, if_neg (by decide), show f_X6_meets y 1 = some (-3, y1) from r2]; rfl
    · have hF40 := g1.1
      obtain ⟨ct, e1, h1⟩ := ctake_ok (w := ww_cart x) g2 hC g1
      obtain ⟨v, ev⟩ : ∃ v, v = md_keptMany y q := ⟨_, rfl⟩
      have ev2 : v = nI F.length := ev.trans g3
      obtain ⟨nw, L, e, b1, b2⟩ := on1_ok (Z := md_set_deedMany y v) (q := q) (n := F.length) ev2 hq hF40
      have b1 : ∀ j, j < 12 → nw j = md_kept y (492 * q + j) := b1
      have b2 : ∀ j, j < 12 * F.length → L j = md_kept y (492 * q + 12 + j) := b2
      refine ⟨nI F.length, ww_set_cart x ct, md_set_log (md_set_now (md_set_deedMany y v) nw) L, ?_, ?_, relO hT hR hX hC g1 h1 hM ev2 (RT_of g4 (fun j hj => by rw [Nat.zero_add]; exact b1 j hj)) (fun j hj => RT_of (g5 j hj) (fun i hi => ?_)) hK⟩
      · rw [if_neg (by rw [g2.2.1]; exact nI_ne_m1 (by omega)), e1, ob_some, h1.2.1]
      · rw [← ev, if_pos (show (0 : Int32) ≤ v by rw [ev2]; exact nI_pos' (by omega)), gd_b hq (by decide)]
        exact e
      · rw [b2 _ (by omega), show 492 * q + 12 + (12 * j + i) = 492 * q + 12 + 12 * j + i by omega]
