/-! PURE SIDE: gate -/
def mendS (d : Dyn) (s : Nat) : Nat → Dyn
  | 0 => d
  | k + 1 => if s.testBit k then mendN (mendS d s k) k else mendS d s k
theorem okD_mend {c : Cfg} {d : Dyn} (hC : okC c) (hD : okD c d) {i : Nat} (hi : i < cN c) : okD c (mendN d i) := by
  have hn := okC_n hC
  exact (okD_act hC hD (okC_3 hC (by omega)) (e := (4, i)) ⟨by show 4 ≤ 4; omega, by show i < 8; omega, fun _ => hi⟩).1
theorem okD_mendS {c : Cfg} {d : Dyn} (hC : okC c) (hD : okD c d) (s : Nat) {k : Nat} (hk : k ≤ cN c) : okD c (mendS d s k) ∧ dRut (mendS d s k) = dRut d := by
  induction k with
  | zero => exact ⟨hD, rfl⟩
  | succ k ih =>
    obtain ⟨i1, i2⟩ := ih (by omega)
    show okD c (if s.testBit k = true then mendN (mendS d s k) k else mendS d s k) ∧ dRut (if s.testBit k = true then mendN (mendS d s k) k else mendS d s k) = dRut d
    split
    · exact ⟨okD_mend hC i1 (by omega), i2⟩
    · exact ⟨i1, i2⟩
theorem cputall_ok {w : Wh} {c : Cfg} {d : Dyn} (hW : RW w c d) (hC : okC c) (hD : okD c d) {s : Nat} (hs : s < 256) : ∃ w1, f_X4_putInAll w (nI s) = some w1 ∧ RW w1 c (mendS d s (cN c)) := by
  have hn := okC_n hC
  unfold f_X4_putInAll
  refine lp_e (fun k st => ∃ w1, st = (nI k, w1) ∧ RW w1 c (mendS d s k)) _ (cN c) ⟨w, rfl, hW⟩ (by omega) ?_ ?_
  · rintro k st hk ⟨w1, rfl, hW1⟩
    obtain ⟨d1, d2⟩ := okD_mendS hC hD s (k := k) (by omega)
    show ∃ t, f_X4_putInAll_B2 (nI s) (nI k) w1 = _ ∧ ∃ w1, t = (nI (k + 1), w1) ∧ RW w1 c (if s.testBit k = true then mendN (mendS d s k) k else mendS d s k)
    unfold f_X4_putInAll_B2 f_X4_putInAll_J25
    rw [hW1.1, if_neg (nI_ge hk (by omega)), show jshr (nI s) (nI k) &&& (1 : Int32) = _ from tb_has0 s hs k (by omega), nI_1]
    by_cases e : s.testBit k = true
    · obtain ⟨w2, e2, h2⟩ := putIn_ok hW1 hC d1 hk
      rw [if_pos e, if_pos (show nI 1 = 1 by decide), e2, ob_some, if_pos e]
      exact ⟨_, rfl, w2, rfl, h2⟩
    · rw [if_neg e, if_neg (show ¬ nI 0 = 1 by decide), if_neg e]
      exact ⟨_, rfl, w1, rfl, hW1⟩
  · rintro st ⟨w1, rfl, hW1⟩
    refine ⟨w1, ?_, hW1⟩
    show f_X4_putInAll_B2 (nI s) (nI (cN c)) w1 = _
    unfold f_X4_putInAll_B2
    rw [hW1.1, if_pos (nI_le (Nat.le_refl _) (by omega))]; rfl
def reachN (c : Cfg) (d : Dyn) : Bool := decide (cGate c ≤ dRut (limN c false d 60).2)
theorem lim_mono (c : Cfg) (d : Dyn) (k j : Nat) : dRut (limN c false d k).2 ≤ dRut (limN c false d (k + j)).2 := by
  induction j with
  | zero => exact Nat.le_refl _
  | succ j ih =>
    show _ ≤ dRut (nxtN c false (limN c false d (k + j))).2
    refine Nat.le_trans ih ?_
    unfold nxtN
    split
    · exact Nat.le_refl _
    · show _ ≤ dRut (stepN c (limN c false d (k + j)).2).2
      rw [rut_step]; exact Nat.le_succ _
theorem creach_ok {w : Wh} {c : Cfg} {d : Dyn} (hW : RW w c d) (hC : okC c) (hD : okD c d) (h3 : 3 ≤ cN c) (hr : dRut d < 400) : ∃ w1, f_X4_reachesGate w = some (nI (if reachN c d then 1 else 0), w1) := by
  have hg := hC.2.1
  have hJ : ∀ (k : Nat) (w1 : Wh), k ≤ 60 → RW w1 c (limN c false d k).2 → (dRut (limN c false d k).2 = dRut (limN c false d 60).2 ∨ cGate c ≤ dRut (limN c false d k).2) → f_X4_reachesGate_J37 w1 = some (nI (if reachN c d then 1 else 0), w1) := by
    intro k w1 hk hW1 hor
    obtain ⟨o1, o2, o3⟩ := lim_ok false hD h3 k
    have hm := lim_mono c d k (60 - k)
    rw [show k + (60 - k) = 60 by omega] at hm
    unfold f_X4_reachesGate_J37 reachN
    rw [hW1.2.2.2.1, hW1.2.1]
    by_cases e : cGate c ≤ dRut (limN c false d 60).2
    · rw [if_neg (nI_nlt (by omega) (by omega)), if_pos (decide_eq_true e)]; rfl
    · rw [if_pos (nI_lt (by omega) (by omega)), if_neg (by simpa using e)]; rfl
  have key : ∃ o, f_X4_reachesGate w = some o ∧ ∃ w1, o = (nI (if reachN c d then 1 else 0), w1) := by
    unfold f_X4_reachesGate
    refine lp_i (fun k s => ∃ w1, s = (nI k, w1) ∧ RW w1 c (limN c false d k).2) _ 60 ⟨w, rfl, hW⟩ (by omega) ?_
    rintro k s hk ⟨w1, rfl, hW1⟩
    obtain ⟨o1, o2, o3⟩ := lim_ok false hD h3 k
    show (_ ∧ ∃ t, f_X4_reachesGate_B2 (nI k) w1 = _ ∧ _) ∨ ∃ o, f_X4_reachesGate_B2 (nI k) w1 = _ ∧ _
    unfold f_X4_reachesGate_B2
    by_cases hk60 : 60 ≤ k
    · right
      have e : k = 60 := by omega
      subst e
      rw [if_pos (show (60 : Int32) ≤ nI 60 by decide), hJ 60 w1 (by omega) hW1 (Or.inl rfl)]
      exact ⟨_, rfl, w1, rfl⟩
    · rw [if_neg (show ¬ (60 : Int32) ≤ nI k from nI_ge (b := 60) (by omega) (by decide)), hW1.2.1, hW1.2.2.2.1]
      by_cases hgk : cGate c ≤ dRut (limN c false d k).2
      · right
        rw [if_pos (nI_le hgk (by omega)), hJ k w1 hk hW1 (Or.inr hgk)]
        exact ⟨_, rfl, w1, rfl⟩
      · rw [if_neg (nI_ge (by omega) (by omega)), RW_over hW1 hC o1, ob_some]
        by_cases ho : overN (cN c) (dThere (limN c false d k).2) = true
        · right
          have e := lim_stay ho (60 - k)
          rw [show k + (60 - k) = 60 by omega] at e
          rw [if_pos ho, if_neg (show ¬ nI 1 = 0 by decide), hJ k w1 hk hW1 (Or.inl (by rw [e]))]
          exact ⟨_, rfl, w1, rfl⟩
        · left
          obtain ⟨w2, e2, hW2⟩ := roll_ok hW1 hC o1 h3 (by omega)
          rw [if_neg ho, if_pos (show nI 0 = 0 from nI_0), e2, ob_some, nI_1]
          refine ⟨by omega, _, rfl, w2, rfl, ?_⟩
          show RW w2 c (nxtN c false (limN c false d k)).2
          unfold nxtN
          rw [if_neg ho]; exact hW2
  obtain ⟨o, e, w1, rfl⟩ := key
  exact ⟨w1, e⟩
theorem mcomes_ok {y : Md} {c : Cfg} {d : Dyn} (hM : RM y c) {t0 : Ar} (hT : RT t0 0 d) (hC : okC c) (hD : okD c d) (h3 : 3 ≤ cN c) (hr : dRut d < 400) : ∃ t, f_X6_comes (md_set_tried y t0) = some (nI (if reachN c d then 1 else 0), md_set_tried y t) := by
  have hg := hC.2.1
  have hJ : ∀ (k : Nat) (t : Ar), k ≤ 60 → RT t 0 (limN c false d k).2 → (dRut (limN c false d k).2 = dRut (limN c false d 60).2 ∨ cGate c ≤ dRut (limN c false d k).2) → f_X6_comes_J34 (md_set_tried y t) = some (nI (if reachN c d then 1 else 0), md_set_tried y t) := by
    intro k t hk hW1 hor
    obtain ⟨o1, o2, o3⟩ := lim_ok false hD h3 k
    have hm := lim_mono c d k (60 - k)
    rw [show k + (60 - k) = 60 by omega] at hm
    unfold f_X6_comes_J34 reachN
    rw [show md_tried (md_set_tried y t) 0 = _ from hW1.1, show md_gateAt (md_set_tried y t) = _ from hM.2.1]
    by_cases e : cGate c ≤ dRut (limN c false d 60).2
    · rw [if_neg (nI_nlt (by omega) (by omega)), if_pos (decide_eq_true e)]; rfl
    · rw [if_pos (nI_lt (by omega) (by omega)), if_neg (by simpa using e)]; rfl
  have key : ∃ o, f_X6_comes (md_set_tried y t0) = some o ∧ ∃ t, o = (nI (if reachN c d then 1 else 0), md_set_tried y t) := by
    unfold f_X6_comes
    refine lp_i (fun k s => ∃ t, s = (nI k, md_set_tried y t) ∧ RT t 0 (limN c false d k).2) _ 60 ⟨t0, rfl, hT⟩ (by omega) ?_
    rintro k s hk ⟨t, rfl, hW1⟩
    obtain ⟨o1, o2, o3⟩ := lim_ok false hD h3 k
    show (_ ∧ ∃ t1, f_X6_comes_B2 (nI k) (md_set_tried y t) = _ ∧ _) ∨ ∃ o, f_X6_comes_B2 (nI k) (md_set_tried y t) = _ ∧ _
    unfold f_X6_comes_B2
    by_cases hk60 : 60 ≤ k
    · right
      have e : k = 60 := by omega
      subst e
      rw [if_pos (show (60 : Int32) ≤ nI 60 by decide), hJ 60 t (by omega) hW1 (Or.inl rfl)]
      exact ⟨_, rfl, t, rfl⟩
    · rw [if_neg (show ¬ (60 : Int32) ≤ nI k from nI_ge (b := 60) (by omega) (by decide)), show md_tried (md_set_tried y t) 0 = _ from hW1.1, show md_gateAt (md_set_tried y t) = _ from hM.2.1]
      by_cases hgk : cGate c ≤ dRut (limN c false d k).2
      · right
        rw [if_pos (nI_le hgk (by omega)), hJ k t hk hW1 (Or.inr hgk)]
        exact ⟨_, rfl, t, rfl⟩
      · left
        obtain ⟨t2, e2, hW2⟩ := mone_t hM hW1 hC o1 h3 (by omega)
        rw [if_neg (nI_ge (by omega) (by omega)), e2, ob_some, nI_1]
        refine ⟨by omega, _, rfl, t2, rfl, ?_⟩
        rw [lim_split]; exact hW2
  obtain ⟨o, e, t, rfl⟩ := key
  exact ⟨t, e⟩
def gateP (c : Cfg) (d : Dyn) (s : Nat) : Bool := reachN c (mendS d s (cN c))
theorem cgateP_ok {a : As} {w : Wh} {c : Cfg} {d : Dyn} (hW : RW w c d) (hC : okC c) (hD : okD c d) (h3 : 3 ≤ cN c) (hr : dRut d < 400) {s : Nat} (hs : s < 256) : ∃ w1, f_X0_reachesGateWith a w (nI s) = some (nI (if gateP c d s then 1 else 0), as_set_trial a w1) := by
  obtain ⟨q1, e1, h1⟩ := take_ok (w := as_trial a) hW hC hD
  obtain ⟨q2, e2, h2⟩ := cputall_ok h1 hC hD hs
  obtain ⟨d1, d2⟩ := okD_mendS hC hD s (k := cN c) (Nat.le_refl _)
  obtain ⟨q3, e3⟩ := creach_ok h2 hC d1 h3 (by omega)
  unfold f_X0_reachesGateWith
  rw [e1, ob_some, e2, ob_some, e3, ob_some]
  refine ⟨q3, ?_⟩
  show gd (isB (nI (if gateP c d s = true then 1 else 0))) _ = _
  rw [gd_t (by split <;> rfl)]
  rfl
theorem mgateP_ok {y : Md} {c : Cfg} {d : Dyn} (hM : RM y c) (hN : RT (md_now y) 0 d) (hC : okC c) (hD : okD c d) (h3 : 3 ≤ cN c) (hr : dRut d < 400) {s : Nat} (hs : s < 256) (x1 : Int32) (t0 : Ar) : ∃ t, f_X6_gate_J39 (md_set_tried y t0) x1 (nI s) = some (Sum.inl (if gateP c d s then nI s else x1, nI s + (-1 : Int32), md_set_tried y t)) := by
  have hn := okC_n hC
  have key : ∃ o, f_X6_gate_J39 (md_set_tried y t0) x1 (nI s) = some o ∧ ∃ t, o = Sum.inl (if gateP c d s then nI s else x1, nI s + (-1 : Int32), md_set_tried y t) := by
    obtain ⟨t1, e1, h1⟩ := copyNow_t hN t0
    unfold f_X6_gate_J39
    rw [e1, ob_some]
    refine lp_e (fun k st => ∃ t, st = (nI k, md_set_tried y t) ∧ RT t 0 (mendS d s k)) _ (cN c) ⟨t1, rfl, h1⟩ (by omega) ?_ ?_
    · rintro k st hk ⟨t, rfl, ht⟩
      obtain ⟨d1, d2⟩ := okD_mendS hC hD s (k := k) (by omega)
      show ∃ s1, f_X6_gate_B45 x1 (nI s) (nI k) (md_set_tried y t) = _ ∧ ∃ t, s1 = (nI (k + 1), md_set_tried y t) ∧ RT t 0 (if s.testBit k = true then mendN (mendS d s k) k else mendS d s k)
      unfold f_X6_gate_B45 f_X6_gate_J69
      rw [show md_n (md_set_tried y t) = nI (cN c) from hM.1, if_neg (nI_ge hk (by omega)), has_ok hs (by omega), ob_some, nI_1]
      by_cases e : s.testBit k = true
      · obtain ⟨g, e2, h2⟩ := mputs_ok ht hC d1 hk
        rw [if_pos e, if_pos e, if_neg (show ¬ nI 1 = 0 by decide), show f_X6_puts 12 (md_tried (md_set_tried y t)) (nI k) = _ from e2, ob_some]
        exact ⟨_, rfl, g, rfl, h2⟩
      · rw [if_neg e, if_neg e, if_pos (show nI 0 = 0 from nI_0)]
        exact ⟨_, rfl, t, rfl, ht⟩
    · rintro st ⟨t, rfl, ht⟩
      obtain ⟨d1, d2⟩ := okD_mendS hC hD s (k := cN c) (Nat.le_refl _)
      obtain ⟨t2, e2⟩ := mcomes_ok hM ht hC d1 h3 (by omega)
      show ∃ o, f_X6_gate_B45 x1 (nI s) (nI (cN c)) (md_set_tried y t) = _ ∧ _
      unfold f_X6_gate_B45 f_X6_gate_J75 f_X6_gate_J87 f_X6_gate_J88
      rw [show md_n (md_set_tried y t) = nI (cN c) from hM.1, if_pos (nI_le (Nat.le_refl _) (by omega)), e2, ob_some]
      show ∃ o, Option.map Sum.inr (if nI (if gateP c d s = true then 1 else 0) = 0 then _ else _) = _ ∧ _
      by_cases e : gateP c d s = true
      · rw [if_pos e, if_neg (show ¬ nI 1 = 0 by decide)]
        exact ⟨_, rfl, t2, by rw [if_pos e]⟩
      · rw [if_neg e, if_pos (show nI 0 = 0 from nI_0)]
        exact ⟨_, rfl, t2, by rw [if_neg e]⟩
  obtain ⟨o, e, t, rfl⟩ := key
  exact ⟨t, e⟩
theorem pop_le (s : Nat) : popN s ≤ 8 := by
  unfold popN
  exact Nat.le_trans List.countP_le_length (by simp)
def isBest (p : Nat → Bool) (lo hi s : Nat) : Prop := lo ≤ s ∧ s < hi ∧ p s = true ∧ ∀ t, lo ≤ t → t < hi → p t = true → popN s < popN t ∨ (popN s = popN t ∧ s ≤ t)
theorem best_uniq {p : Nat → Bool} {lo hi s t : Nat} (hs : isBest p lo hi s) (ht : isBest p lo hi t) : s = t := by
  obtain ⟨a1, a2, a3, a4⟩ := hs
  obtain ⟨b1, b2, b3, b4⟩ := ht
  have h1 := a4 t b1 b2 b3
  have h2 := b4 s a1 a2 a3
  omega
theorem pow_n' {n : Nat} (h : n ≤ 8) : 2 ^ n ≤ 256 ∧ 0 < 2 ^ n := ⟨pow_n h, Nat.two_pow_pos n⟩
theorem cgate_ok {a : As} {w : Wh} {c : Cfg} {d : Dyn} (hW : RW w c d) (hC : okC c) (hD : okD c d) (h3 : 3 ≤ cN c) (hr : dRut d < 400) : ∃ v a1, f_X0_fewestToGate a w = some (v, a1) ∧ ((v = -9 ∧ ∀ t, t < 2 ^ cN c → gateP c d t = false) ∨ ∃ s, isBest (gateP c d) 0 (2 ^ cN c) s ∧ v = nI (popN s) ∧ as_found a1 = nI s) := by
  have hn := okC_n hC
  obtain ⟨hp, hp0⟩ := pow_n' hn
  have key : ∃ o, f_X0_fewestToGate a w = some o ∧ ∃ v a1, o = (v, a1) ∧ ((v = -9 ∧ ∀ t, t < 2 ^ cN c → gateP c d t = false) ∨ ∃ s, isBest (gateP c d) 0 (2 ^ cN c) s ∧ v = nI (popN s) ∧ as_found a1 = nI s) := by
    unfold f_X0_fewestToGate
    refine lp_e (fun k st => ∃ v a1, st = (v, nI k, a1) ∧ ((v = -9 ∧ ∀ t, t < k → gateP c d t = false) ∨ ∃ s, isBest (gateP c d) 0 k s ∧ v = nI (popN s) ∧ as_found a1 = nI s)) _ (2 ^ cN c) ⟨_, a, rfl, Or.inl ⟨rfl, fun t ht => absurd ht (by omega)⟩⟩ (by omega) ?_ ?_
    · rintro k st hk ⟨v, a1, rfl, hI⟩
      obtain ⟨w1, e1⟩ := cgateP_ok (a := a1) hW hC hD h3 hr (s := k) (by omega)
      show ∃ t, f_X0_fewestToGate_B5 w v (nI k) a1 = _ ∧ _
      unfold f_X0_fewestToGate_B5 f_X0_fewestToGate_J34 f_X0_fewestToGate_J49
      rw [hW.1, show jshl (1 : Int32) (nI (cN c)) = _ from tb_shl (cN c) (by omega), if_neg (nI_ge hk (by omega)), tb_pop k (by omega), ob_some, e1, ob_some, nI_1]
      dsimp only
      rcases hI with ⟨rfl, hno⟩ | ⟨s, hB, rfl, hf⟩
      · rw [if_pos rfl]
        by_cases e : gateP c d k = true
        · rw [if_pos e, if_neg (show ¬ nI 1 = 0 by decide)]
          refine ⟨_, rfl, _, _, rfl, Or.inr ⟨k, ⟨Nat.zero_le _, by omega, e, fun t _ ht hpt => ?_⟩, rfl, rfl⟩⟩
          by_cases et : t = k
          · subst et; exact Or.inr ⟨rfl, Nat.le_refl _⟩
          · rw [hno t (by omega)] at hpt; cases hpt
        · rw [if_neg e, if_pos (show nI 0 = 0 from nI_0)]
          refine ⟨_, rfl, _, _, rfl, Or.inl ⟨rfl, fun t ht => ?_⟩⟩
          by_cases et : t = k
          · subst et; simpa using e
          · exact hno t (by omega)
      · obtain ⟨b1, b2, b3, b4⟩ := id hB
        have hps := pop_le s
        have hpk := pop_le k
        rw [if_neg (nI_ne_m9 (by omega))]
        by_cases hle : popN s ≤ popN k
        · rw [if_pos (nI_le hle (by omega))]
          refine ⟨_, rfl, _, _, rfl, Or.inr ⟨s, ⟨b1, by omega, b3, fun t ht0 ht hpt => ?_⟩, rfl, hf⟩⟩
          by_cases et : t = k
          · subst et; omega
          · exact b4 t ht0 (by omega) hpt
        · rw [if_neg (nI_ge (by omega) (by omega))]
          by_cases e : gateP c d k = true
          · rw [if_pos e, if_neg (show ¬ nI 1 = 0 by decide)]
            refine ⟨_, rfl, _, _, rfl, Or.inr ⟨k, ⟨Nat.zero_le _, by omega, e, fun t ht0 ht hpt => ?_⟩, rfl, rfl⟩⟩
            by_cases et : t = k
            · subst et; exact Or.inr ⟨rfl, Nat.le_refl _⟩
            · have := b4 t ht0 (by omega) hpt
              omega
          · rw [if_neg e, if_pos (show nI 0 = 0 from nI_0)]
            refine ⟨_, rfl, _, _, rfl, Or.inr ⟨s, ⟨b1, by omega, b3, fun t ht0 ht hpt => ?_⟩, rfl, hf⟩⟩
            by_cases et : t = k
            · subst et; exact absurd hpt e
            · exact b4 t ht0 (by omega) hpt
    · rintro st ⟨v, a1, rfl, hI⟩
      refine ⟨_, ?_, v, a1, rfl, hI⟩
      show f_X0_fewestToGate_B5 w v (nI (2 ^ cN c)) a1 = _
      unfold f_X0_fewestToGate_B5
      rw [hW.1, show jshl (1 : Int32) (nI (cN c)) = _ from tb_shl (cN c) (by omega), if_pos (nI_le (Nat.le_refl _) (by omega))]; rfl
  obtain ⟨o, e, v, a1, rfl, h⟩ := key
  exact ⟨v, a1, e, h⟩
theorem down_n {N k : Nat} (hk : k < N) : nI (N - k) + (-1 : Int32) = nI (N - (k + 1)) := by
  have := pk_m1 (N - (k + 1))
  rwa [show N - (k + 1) + 1 = N - k by omega] at this
theorem mgate_ok {y : Md} {c : Cfg} {d : Dyn} (hM : RM y c) (hN : RT (md_now y) 0 d) (hC : okC c) (hD : okD c d) (h3 : 3 ≤ cN c) (hr : dRut d < 400) : ∃ v t, lp f_X6_gate_L18 fuel ((-9 : Int32), nI (2 ^ cN c - 1), y) = f_X6_gate_J94 (md_set_tried y t) v ∧ ((v = -9 ∧ ∀ t, t < 2 ^ cN c → gateP c d t = false) ∨ ∃ s, isBest (gateP c d) 0 (2 ^ cN c) s ∧ v = nI s) := by
  have hn := okC_n hC
  obtain ⟨hp, hp0⟩ := pow_n' hn
  have key : ∃ o, lp f_X6_gate_L18 fuel ((-9 : Int32), nI (2 ^ cN c - 1), y) = some o ∧ ∃ v t, f_X6_gate_J94 (md_set_tried y t) v = some o ∧ ((v = -9 ∧ ∀ t, t < 2 ^ cN c → gateP c d t = false) ∨ ∃ s, isBest (gateP c d) 0 (2 ^ cN c) s ∧ v = nI s) := by
    refine lp_e (fun k st => ∃ v t, st = (v, nI (2 ^ cN c - k) + (-1 : Int32), md_set_tried y t) ∧ ((v = -9 ∧ ∀ t, 2 ^ cN c - k ≤ t → t < 2 ^ cN c → gateP c d t = false) ∨ ∃ s, isBest (gateP c d) (2 ^ cN c - k) (2 ^ cN c) s ∧ v = nI s)) _ (2 ^ cN c) ⟨_, md_tried y, ?_, Or.inl ⟨rfl, fun t h1 h2 => absurd h2 (by omega)⟩⟩ (by omega) ?_ ?_
    · rw [down_n hp0]; rfl
    · rintro k st hk ⟨v, t, rfl, hI⟩
      have hs : 2 ^ cN c - (k + 1) < 256 := by omega
      have hsk : 2 ^ cN c - k = 2 ^ cN c - (k + 1) + 1 := by omega
      rw [down_n hk]
      rw [hsk] at hI
      generalize hq : 2 ^ cN c - (k + 1) = q at hs hI ⊢
      obtain ⟨t2, e2⟩ := mgateP_ok hM hN hC hD h3 hr hs v t
      show ∃ s1, f_X6_gate_B18 v (nI q) (md_set_tried y t) = _ ∧ _
      unfold f_X6_gate_B18
      rw [if_neg (nI_pos (by omega)), e2]
      rcases hI with ⟨rfl, hno⟩ | ⟨s, hB, rfl⟩
      · rw [if_pos rfl]
        refine ⟨_, rfl, _, t2, rfl, ?_⟩
        by_cases e : gateP c d q = true
        · rw [if_pos e]
          refine Or.inr ⟨q, ⟨Nat.le_refl _, by omega, e, fun t h1 h2 hpt => ?_⟩, rfl⟩
          by_cases et : t = q
          · subst et; exact Or.inr ⟨rfl, Nat.le_refl _⟩
          · rw [hno t (by omega) h2] at hpt; cases hpt
        · rw [if_neg e]
          refine Or.inl ⟨rfl, fun t h1 h2 => ?_⟩
          by_cases et : t = q
          · subst et; simpa using e
          · exact hno t (by omega) h2
      · obtain ⟨b1, b2, b3, b4⟩ := id hB
        have hps := pop_le s
        have hpq := pop_le q
        rw [if_neg (nI_ne_m9 (by omega)), tb_bits q (by omega), ob_some, tb_bits s (by omega), ob_some]
        by_cases hlt : popN s < popN q
        · rw [if_pos (nI_lt hlt (by omega))]
          unfold f_X6_gate_J88
          refine ⟨_, rfl, _, t, rfl, Or.inr ⟨s, ⟨by omega, b2, b3, fun t h1 h2 hpt => ?_⟩, rfl⟩⟩
          by_cases et : t = q
          · subst et; exact Or.inl hlt
          · exact b4 t (by omega) h2 hpt
        · rw [if_neg (nI_nlt (by omega) (by omega))]
          refine ⟨_, rfl, _, t2, rfl, ?_⟩
          by_cases e : gateP c d q = true
          · rw [if_pos e]
            refine Or.inr ⟨q, ⟨Nat.le_refl _, by omega, e, fun t h1 h2 hpt => ?_⟩, rfl⟩
            by_cases et : t = q
            · subst et; exact Or.inr ⟨rfl, Nat.le_refl _⟩
            · have := b4 t (by omega) h2 hpt
              omega
          · rw [if_neg e]
            refine Or.inr ⟨s, ⟨by omega, b2, b3, fun t h1 h2 hpt => ?_⟩, rfl⟩
            by_cases et : t = q
            · subst et; exact absurd hpt e
            · exact b4 t (by omega) h2 hpt
    · rintro st ⟨v, t, rfl, hI⟩
      rw [Nat.sub_self] at hI ⊢
      have hJ : ∃ o, f_X6_gate_J94 (md_set_tried y t) v = some o := by
        unfold f_X6_gate_J94
        rcases hI with ⟨rfl, -⟩ | ⟨s, hB, rfl⟩
        · rw [if_pos rfl]; exact ⟨_, rfl⟩
        · have := hB.2.1
          rw [if_neg (nI_ne_m9 (by omega)), tb_bits s (by omega)]; exact ⟨_, rfl⟩
      obtain ⟨o, eJ⟩ := hJ
      refine ⟨o, ?_, v, t, eJ, ?_⟩
      · show f_X6_gate_B18 v (nI 0 + (-1 : Int32)) (md_set_tried y t) = _
        unfold f_X6_gate_B18
        rw [if_pos (show nI 0 + (-1 : Int32) < 0 by decide), eJ]; rfl
      · rcases hI with ⟨g1, g2⟩ | g
        · exact Or.inl ⟨g1, fun t ht => g2 t (Nat.zero_le _) ht⟩
        · exact Or.inr g
  obtain ⟨o, e, v, t, h1, h2⟩ := key
  exact ⟨v, t, e.trans h1.symm, h2⟩
theorem s_gate : S_gate Rel := by
  intro x y h
  have hRel := h
  obtain ⟨hT, hR, hX, c, E, hWE⟩ := h
  obtain ⟨hC, hE, hRC, hM, hd, hN, hL, hK⟩ := id hWE
  obtain ⟨o1, o2⟩ := okD_rep hC hE
  have h40 := hE.1
  have hn := okC_n hC
  unfold f_X5_gate f_X6_gate f_X6_all
  by_cases h0 : cN c = 0
  · rw [cEmpty0 hRC.1 h0, if_pos (mn0 hM h0)]
    exact ⟨-4, x, y, rfl, rfl, hRel⟩
  · have h3 := okC_3 hC h0
    obtain ⟨hp, hp0⟩ := pow_n' hn
    obtain ⟨v, a1, e1, g1⟩ := cgate_ok (a := ww_aside x) hRC.1 hC o1 h3 (by omega)
    obtain ⟨u, t, e2, g2⟩ := mgate_ok hM hN hC o1 h3 (by omega)
    rw [cEmpty1 hRC.1 hC h3, if_neg (mn1 hM hC h3), ob_some, if_pos (show (0 : Int32) = 0 from rfl), e1, ob_some, ob_some, hM.1, show jshl (1 : Int32) (nI (cN c)) - (1 : Int32) = _ from tb_all (cN c) (by omega), e2]
    unfold f_X5_tellBeside f_X6_gate_J94
    dsimp only
    rcases g1 with ⟨rfl, n1⟩ | ⟨s, b1, rfl, f1⟩
    · rcases g2 with ⟨rfl, n2⟩ | ⟨s2, b2, rfl⟩
      · rw [if_pos rfl, if_pos rfl]
        exact ⟨-9, ww_set_aside x a1, md_set_tried y t, rfl, rfl, relB hRel⟩
      · have := b2.2.2.1
        rw [n1 s2 b2.2.1] at this; cases this
    · rcases g2 with ⟨rfl, n2⟩ | ⟨s2, b2, rfl⟩
      · have := b1.2.2.1
        rw [n2 s b1.2.1] at this; cases this
      · have e := best_uniq b1 b2
        subst e
        have hs := b1.2.1
        have hps := pop_le s
        rw [if_neg (nI_ne_m9 (by omega)), if_neg (nI_ne_m9 (by omega)), tb_bits s (by omega)]
        exact ⟨nI (popN s), ww_set_askedLast (ww_set_aside x a1) (as_found a1), md_set_told (md_set_tried y t) (nI s), rfl, rfl, relA hRel f1⟩
