/-! PURE SIDE: duel: the worth of a game, and the class's search -/
def pick (par : Bool) (a b : Nat) : Nat := if par then (if a < b then b else a) else (if b < a then b else a)
def foldM (par : Bool) (g : Nat → Option Nat) (b : Nat) : Nat → Nat
  | 0 => b
  | i + 1 => match g i with
    | none => foldM par g b i
    | some v => pick par (foldM par g b i) v
theorem foldM_some {par : Bool} {g : Nat → Option Nat} {b i v : Nat} (h : g i = some v) : foldM par g b (i + 1) = pick par (foldM par g b i) v := by
  show (match g i with | none => foldM par g b i | some v => pick par (foldM par g b i) v) = _
  rw [h]
theorem foldM_none {par : Bool} {g : Nat → Option Nat} {b i : Nat} (h : g i = none) : foldM par g b (i + 1) = foldM par g b i := by
  show (match g i with | none => foldM par g b i | some v => pick par (foldM par g b i) v) = _
  rw [h]
theorem pick_t (a b : Nat) : pick true a b = if a < b then b else a := rfl
theorem pick_f (a b : Nat) : pick false a b = if b < a then b else a := rfl
theorem pick_le {par : Bool} {a b B : Nat} (ha : a ≤ B) (hb : b ≤ B) : pick par a b ≤ B := by
  cases par
  · rw [pick_f]; split <;> assumption
  · rw [pick_t]; split <;> assumption
theorem foldM_le {par : Bool} {g : Nat → Option Nat} {b B : Nat} (hb : b ≤ B) (hg : ∀ i v, g i = some v → v ≤ B) (i : Nat) : foldM par g b i ≤ B := by
  induction i with
  | zero => exact hb
  | succ i ih =>
    cases h : g i with
    | none => rw [foldM_none h]; exact ih
    | some v => rw [foldM_some h]; exact pick_le ih (hg i v h)
theorem foldM_up {g : Nat → Option Nat} {b : Nat} (i j : Nat) : foldM true g b i ≤ foldM true g b (i + j) := by
  induction j with
  | zero => exact Nat.le_refl _
  | succ j ih =>
    refine Nat.le_trans ih ?_
    show _ ≤ foldM true g b (i + j + 1)
    cases h : g (i + j) with
    | none => rw [foldM_none h]; exact Nat.le_refl _
    | some v => rw [foldM_some h, pick_t]; split <;> omega
theorem foldM_down {g : Nat → Option Nat} {b : Nat} (i j : Nat) : foldM false g b (i + j) ≤ foldM false g b i := by
  induction j with
  | zero => exact Nat.le_refl _
  | succ j ih =>
    refine Nat.le_trans ?_ ih
    show foldM false g b (i + j + 1) ≤ _
    cases h : g (i + j) with
    | none => rw [foldM_none h]; exact Nat.le_refl _
    | some v => rw [foldM_some h, pick_f]; split <;> omega
def mvS (par : Bool) (s : Nat × Nat) (i : Nat) : Nat × Nat := if par then (dfN s.1 (2 ^ i), s.2) else (s.1 ||| 2 ^ i, s.2 ||| 2 ^ i)
def valN (c : Cfg) (d : Dyn) : Nat → Bool → Nat × Nat → Nat
  | 0, _, s => limW c d s.1 s.2
  | k + 1, par, s => foldM par (fun i => if s.1.testBit i = par then some (valN c d k (!par) (mvS par s i)) else none) (valN c d k (!par) s) (cN c)
theorem val_le (c : Cfg) (d : Dyn) (k : Nat) : ∀ (par : Bool) (s : Nat × Nat), valN c d k par s ≤ 12 := by
  induction k with
  | zero => exact fun par s => lim_le _ _ _ _
  | succ k ih =>
    intro par s
    refine foldM_le (ih _ _) (fun i v h => ?_) _
    by_cases e : s.1.testBit i = par
    · rw [if_pos e] at h
      cases h
      exact ih _ _
    · rw [if_neg e] at h; cases h
theorem mvS_ok {n : Nat} {par : Bool} {s : Nat × Nat} {i : Nat} (h1 : s.1 < 2 ^ n) (h2 : s.2 < 2 ^ n) (hi : i < n) : (mvS par s i).1 < 2 ^ n ∧ (mvS par s i).2 < 2 ^ n := by
  have hp : 2 ^ i < 2 ^ n := Nat.pow_lt_pow_right (by decide) hi
  cases par
  · exact ⟨Nat.or_lt_two_pow h1 hp, Nat.or_lt_two_pow h2 hp⟩
  · exact ⟨Nat.lt_of_le_of_lt (df_le _ _) h1, h2⟩
set_option maxRecDepth 20000 in
theorem tb_andb : ∀ t, t < 256 → ∀ i, i < 8 → ((nI t &&& nI (2 ^ i) = 0) ↔ t.testBit i = false) := by decide +kernel
/-! fail-soft: what a search between two sure values tells -/
def AB (l h : Int) (V v : Nat) : Prop := ((v : Int) ≤ l ∧ V ≤ v) ∨ (l < v ∧ (v : Int) < h ∧ V = v) ∨ (h ≤ v ∧ v ≤ V)
theorem ab_refl {l h : Int} (V : Nat) : AB l h V V := by
  unfold AB
  omega
theorem ab_max {l h F : Int} {M V best v : Nat} (hl : l < h) (hF : l ≤ F ∧ (best : Int) ≤ F ∧ (F = l ∨ F = best)) (hFh : F < h) (h1 : AB l h M best) (h2 : AB F h V v) : AB l h (pick true M V) (pick true best v) := by
  rw [pick_t, pick_t]
  unfold AB at h1 h2 ⊢
  split <;> split <;> omega
theorem ab_min {l h F : Int} {M V best v : Nat} (hl : l < h) (hF : F ≤ h ∧ F ≤ (best : Int) ∧ (F = h ∨ F = best)) (hFh : l < F) (h1 : AB l h M best) (h2 : AB l F V v) : AB l h (pick false M V) (pick false best v) := by
  rw [pick_f, pick_f]
  unfold AB at h1 h2 ⊢
  split <;> split <;> omega
theorem jmax_toInt (x y : Int32) : (jmax x y).toInt = if x.toInt < y.toInt then y.toInt else x.toInt := by
  unfold jmax
  by_cases h : x < y
  · rw [if_pos h, if_pos (Int32.lt_iff_toInt_lt.mp h)]
  · rw [if_neg h, if_neg (fun z => h (Int32.lt_iff_toInt_lt.mpr z))]
theorem jmin_toInt (x y : Int32) : (jmin x y).toInt = if y.toInt < x.toInt then y.toInt else x.toInt := by
  unfold jmin
  by_cases h : y < x
  · rw [if_pos h, if_pos (Int32.lt_iff_toInt_lt.mp h)]
  · rw [if_neg h, if_neg (fun z => h (Int32.lt_iff_toInt_lt.mpr z))]
theorem jmax_n {a b : Nat} (ha : a ≤ 12) (hb : b ≤ 12) : jmax (nI a) (nI b) = nI (pick true a b) := by
  unfold jmax
  rw [pick_t]
  by_cases h : a < b
  · rw [if_pos (nI_lt h (by omega)), if_pos h]
  · rw [if_neg (nI_nlt (by omega) (by omega)), if_neg h]
theorem jmin_n {a b : Nat} (ha : a ≤ 12) (hb : b ≤ 12) : jmin (nI a) (nI b) = nI (pick false a b) := by
  unfold jmin
  rw [pick_f]
  by_cases h : b < a
  · rw [if_pos (nI_lt h (by omega)), if_pos h]
  · rw [if_neg (nI_nlt (by omega) (by omega)), if_neg h]
theorem ab_ok {w : Wh} {c : Cfg} {d : Dyn} (hW : RW w c d) (hC : okC c) (hD : okD c d) (h3 : 3 ≤ cN c) (hr : dRut d < 400) (k : Nat) : ∀ (par : Bool) (s : Nat × Nat) (low high : Int32) (a : As) (f : Nat), k < f → k ≤ 4 → s.1 < 2 ^ cN c → s.2 < 2 ^ cN c → low.toInt < high.toInt → ∃ v a1, f_X0_fight f a w (nI k) (nI (if par then 1 else 0)) (nI s.1) (nI s.2) low high = some (nI v, a1) ∧ v ≤ 12 ∧ AB low.toInt high.toInt (valN c d k par s) v := by
  have hn := okC_n hC
  obtain ⟨h256, hp0⟩ := pow_n' hn
  induction k with
  | zero =>
    intro par s low high a f hf _ hs1 hs2 hlh
    obtain ⟨f, rfl⟩ : ∃ g, f = g + 1 := ⟨f - 1, by omega⟩
    obtain ⟨a1, e1⟩ := climW_ok (a := a) hW hC hD h3 hr (t := s.1) (fr := s.2) hs1 (by omega)
    refine ⟨limW c d s.1 s.2, a1, ?_, lim_le _ _ _ _, ab_refl _⟩
    show f_X0_fight_F (f_X0_fight f) a w (nI 0) _ (nI s.1) (nI s.2) low high = _
    unfold f_X0_fight_F
    rw [if_neg (show ¬ (0 : Int32) < nI 0 by decide), e1]; rfl
  | succ k ih =>
    intro par s low high a f hf hk4 hs1 hs2 hlh
    obtain ⟨f, rfl⟩ : ∃ g, f = g + 1 := ⟨f - 1, by omega⟩
    cases par
    · show ∃ v a1, f_X0_fight_F (f_X0_fight f) a w (nI (k + 1)) (nI 0) (nI s.1) (nI s.2) low high = _ ∧ _
      obtain ⟨v0, a1, e0, l0, AB0⟩ := ih true s low high a f (by omega) (by omega) hs1 hs2 hlh
      unfold f_X0_fight_F f_X0_fight_J25
      rw [if_pos (show (0 : Int32) < nI (k + 1) from nI_lt (a := 0) (by omega) (by omega)), if_pos (show nI 0 = 0 from nI_0), nI_pred, show f_X0_fight f a w (nI k) (1 : Int32) (nI s.1) (nI s.2) low high = _ from e0, ob_some]
      dsimp only
      unfold f_X0_fight_J53 f_X0_fight_J71
      rw [if_pos (show nI 0 = 0 from nI_0), if_pos (show nI 0 = 0 from nI_0)]
      have key : ∃ o, lp (f_X0_fight_L76 (f_X0_fight f) w (nI (k + 1)) (nI 0) (nI s.1) (nI s.2)) fuel (nI v0, low, jmin high (nI v0), (0 : Int32), a1) = some o ∧ ∃ v a1, o = (nI v, a1) ∧ v ≤ 12 ∧ AB low.toInt high.toInt (valN c d (k + 1) false s) v := by
        refine lp_i (fun i st => ∃ (best : Nat) (ceil : Int32) (a2 : As), st = (nI best, low, ceil, nI i, a2) ∧ best ≤ 12 ∧ (ceil.toInt ≤ high.toInt ∧ ceil.toInt ≤ (best : Int) ∧ (ceil.toInt = high.toInt ∨ ceil.toInt = best)) ∧ AB low.toInt high.toInt (foldM false (fun i => if s.1.testBit i = false then some (valN c d k true (mvS false s i)) else none) (valN c d k true s) i) best) _ (cN c) ⟨v0, jmin high (nI v0), a1, rfl, l0, ?_, AB0⟩ (by omega) ?_
        · rw [jmin_toInt, nI_toInt (by omega)]
          split <;> omega
        · rintro i st hi ⟨best, ceil, a2, rfl, hb12, hF, hAB⟩
          show (_ ∧ ∃ s1, f_X0_fight_B76 (f_X0_fight f) w (nI (k + 1)) (nI 0) (nI s.1) (nI s.2) (nI best) low ceil (nI i) a2 = _ ∧ _) ∨ ∃ o, f_X0_fight_B76 (f_X0_fight f) w (nI (k + 1)) (nI 0) (nI s.1) (nI s.2) (nI best) low ceil (nI i) a2 = _ ∧ _
          unfold f_X0_fight_B76
          rw [hW.1]
          by_cases hin : cN c ≤ i
          · right
            have ei : i = cN c := by omega
            subst ei
            rw [if_pos (nI_le hin (by omega))]
            exact ⟨_, rfl, best, a2, rfl, hb12, hAB⟩
          · rw [if_neg (nI_ge (by omega) (by omega))]
            by_cases hhf : ceil ≤ low
            · right
              rw [if_pos hhf]
              refine ⟨_, rfl, best, a2, rfl, hb12, ?_⟩
              rw [Int32.le_iff_toInt_le] at hhf
              have hd := foldM_down (g := fun i => if s.1.testBit i = false then some (valN c d k true (mvS false s i)) else none) (b := valN c d k true s) i (cN c - i)
              rw [show i + (cN c - i) = cN c by omega] at hd
              show AB low.toInt high.toInt (foldM false (fun i => if s.1.testBit i = false then some (valN c d k true (mvS false s i)) else none) (valN c d k true s) (cN c)) best
              unfold AB at hAB ⊢
              omega
            · left
              have hlt : low.toInt < ceil.toInt := by
                rw [Int32.le_iff_toInt_le] at hhf
                omega
              rw [if_neg hhf, show jshl (1 : Int32) (nI i) = _ from tb_shl i (by omega)]
              by_cases hbit : s.1.testBit i = false
              · obtain ⟨m1, m2⟩ := mvS_ok (par := false) hs1 hs2 (show i < cN c by omega)
                obtain ⟨v, a3, e3, lv, ABv⟩ := ih true (mvS false s i) low ceil a2 f (by omega) (by omega) m1 m2 hlt
                rw [if_pos ((tb_andb _ (by omega) i (by omega)).mpr hbit)]
                unfold f_X0_fight_J113 f_X0_fight_J163 f_X0_fight_J209
                rw [if_pos (show nI 0 = 0 from nI_0), if_pos (show nI 0 = 0 from nI_0), if_pos (show (0 : Int32) = 0 from rfl), nI_pred, nI_or, nI_or, show f_X0_fight f a2 w (nI k) (1 : Int32) (nI (s.1 ||| 2 ^ i)) (nI (s.2 ||| 2 ^ i)) low ceil = _ from e3, ob_some, nm_eq, nI_1]
                dsimp only
                rw [jmin_n hb12 lv]
                refine ⟨by omega, _, rfl, pick false best v, _, a3, rfl, pick_le hb12 lv, ?_, ?_⟩
                · rw [jmin_toInt, nI_toInt (by have := pick_le (par := false) hb12 lv; omega), pick_f]
                  split <;> split <;> omega
                · rw [foldM_some (if_pos hbit)]
                  exact ab_min hlh hF hlt hAB ABv
              · rw [if_neg (fun z => hbit ((tb_andb _ (by omega) i (by omega)).mp z))]
                unfold f_X0_fight_J113 f_X0_fight_J163 f_X0_fight_J209
                rw [if_pos (show nI 0 = 0 from nI_0), if_pos (show nI 0 = 0 from nI_0), if_neg (show ¬ (1 : Int32) = 0 by decide), nI_1]
                refine ⟨by omega, _, rfl, best, ceil, a2, rfl, hb12, hF, ?_⟩
                rw [foldM_none (if_neg hbit)]; exact hAB
      obtain ⟨o, e, v, a2, rfl, h1, h2⟩ := key
      exact ⟨v, a2, e, h1, h2⟩
    · show ∃ v a1, f_X0_fight_F (f_X0_fight f) a w (nI (k + 1)) (nI 1) (nI s.1) (nI s.2) low high = _ ∧ _
      obtain ⟨v0, a1, e0, l0, AB0⟩ := ih false s low high a f (by omega) (by omega) hs1 hs2 hlh
      unfold f_X0_fight_F f_X0_fight_J25
      rw [if_pos (show (0 : Int32) < nI (k + 1) from nI_lt (a := 0) (by omega) (by omega)), if_neg (show ¬ nI 1 = 0 by decide), nI_pred, show f_X0_fight f a w (nI k) (0 : Int32) (nI s.1) (nI s.2) low high = _ from e0, ob_some]
      dsimp only
      unfold f_X0_fight_J53 f_X0_fight_J71
      rw [if_neg (show ¬ nI 1 = 0 by decide), if_neg (show ¬ nI 1 = 0 by decide)]
      have key : ∃ o, lp (f_X0_fight_L76 (f_X0_fight f) w (nI (k + 1)) (nI 1) (nI s.1) (nI s.2)) fuel (nI v0, jmax low (nI v0), high, (0 : Int32), a1) = some o ∧ ∃ v a1, o = (nI v, a1) ∧ v ≤ 12 ∧ AB low.toInt high.toInt (valN c d (k + 1) true s) v := by
        refine lp_i (fun i st => ∃ (best : Nat) (floor : Int32) (a2 : As), st = (nI best, floor, high, nI i, a2) ∧ best ≤ 12 ∧ (low.toInt ≤ floor.toInt ∧ (best : Int) ≤ floor.toInt ∧ (floor.toInt = low.toInt ∨ floor.toInt = best)) ∧ AB low.toInt high.toInt (foldM true (fun i => if s.1.testBit i = true then some (valN c d k false (mvS true s i)) else none) (valN c d k false s) i) best) _ (cN c) ⟨v0, jmax low (nI v0), a1, rfl, l0, ?_, AB0⟩ (by omega) ?_
        · rw [jmax_toInt, nI_toInt (by omega)]
          split <;> omega
        · rintro i st hi ⟨best, floor, a2, rfl, hb12, hF, hAB⟩
          show (_ ∧ ∃ s1, f_X0_fight_B76 (f_X0_fight f) w (nI (k + 1)) (nI 1) (nI s.1) (nI s.2) (nI best) floor high (nI i) a2 = _ ∧ _) ∨ ∃ o, f_X0_fight_B76 (f_X0_fight f) w (nI (k + 1)) (nI 1) (nI s.1) (nI s.2) (nI best) floor high (nI i) a2 = _ ∧ _
          unfold f_X0_fight_B76
          rw [hW.1]
          by_cases hin : cN c ≤ i
          · right
            have ei : i = cN c := by omega
            subst ei
            rw [if_pos (nI_le hin (by omega))]
            exact ⟨_, rfl, best, a2, rfl, hb12, hAB⟩
          · rw [if_neg (nI_ge (by omega) (by omega))]
            by_cases hhf : high ≤ floor
            · right
              rw [if_pos hhf]
              refine ⟨_, rfl, best, a2, rfl, hb12, ?_⟩
              rw [Int32.le_iff_toInt_le] at hhf
              have hd := foldM_up (g := fun i => if s.1.testBit i = true then some (valN c d k false (mvS true s i)) else none) (b := valN c d k false s) i (cN c - i)
              rw [show i + (cN c - i) = cN c by omega] at hd
              show AB low.toInt high.toInt (foldM true (fun i => if s.1.testBit i = true then some (valN c d k false (mvS true s i)) else none) (valN c d k false s) (cN c)) best
              unfold AB at hAB ⊢
              omega
            · left
              have hlt : floor.toInt < high.toInt := by
                rw [Int32.le_iff_toInt_le] at hhf
                omega
              rw [if_neg hhf, show jshl (1 : Int32) (nI i) = _ from tb_shl i (by omega)]
              by_cases hbit : s.1.testBit i = true
              · obtain ⟨m1, m2⟩ := mvS_ok (par := true) hs1 hs2 (show i < cN c by omega)
                obtain ⟨v, a3, e3, lv, ABv⟩ := ih false (mvS true s i) floor high a2 f (by omega) (by omega) m1 m2 hlt
                have hp8 : 2 ^ i < 256 := Nat.lt_of_lt_of_le (Nat.pow_lt_pow_right (by decide) (show i < cN c by omega)) h256
                rw [if_neg (fun z => by have := (tb_andb _ (by omega) i (by omega)).mp z; rw [hbit] at this; cases this)]
                unfold f_X0_fight_J113 f_X0_fight_J209
                rw [if_neg (show ¬ nI 1 = 0 by decide), if_neg (show ¬ (1 : Int32) = 0 by decide), nI_pred, df_i hp8, show f_X0_fight f a2 w (nI k) (0 : Int32) (nI (dfN s.1 (2 ^ i))) (nI s.2) floor high = _ from e3, ob_some, nm_eq, nI_1]
                dsimp only
                rw [jmax_n hb12 lv]
                refine ⟨by omega, _, rfl, pick true best v, _, a3, rfl, pick_le hb12 lv, ?_, ?_⟩
                · rw [jmax_toInt, nI_toInt (by have := pick_le (par := true) hb12 lv; omega), pick_t]
                  split <;> split <;> omega
                · rw [foldM_some (if_pos hbit)]
                  exact ab_max hlh hF hlt hAB ABv
              · have hbf : s.1.testBit i = false := by simpa using hbit
                rw [if_pos ((tb_andb _ (by omega) i (by omega)).mpr hbf)]
                unfold f_X0_fight_J113 f_X0_fight_J163 f_X0_fight_J209
                rw [if_neg (show ¬ nI 1 = 0 by decide), if_pos (show (0 : Int32) = 0 from rfl), if_neg (show ¬ nI 1 = 0 by decide), nI_1]
                refine ⟨by omega, _, rfl, best, floor, a2, rfl, hb12, hF, ?_⟩
                rw [foldM_none (if_neg hbit)]; exact hAB
      obtain ⟨o, e, v, a2, rfl, h1, h2⟩ := key
      exact ⟨v, a2, e, h1, h2⟩
theorem cduel_ok {a : As} {w : Wh} {c : Cfg} {d : Dyn} (hW : RW w c d) (hC : okC c) (hD : okD c d) (h3 : 3 ≤ cN c) (hr : dRut d < 400) {k : Nat} (hk : k ≤ 4) : ∃ a1, f_X0_fight 6 a w (nI k) (1 : Int32) (wh_there w) (0 : Int32) (-1 : Int32) (13 : Int32) = some (nI (valN c d k true (dThere d, 0)), a1) := by
  have hp0 := Nat.two_pow_pos (cN c)
  obtain ⟨v, a1, e, h1, h2⟩ := ab_ok hW hC hD h3 hr k true (dThere d, 0) (-1) 13 a 6 (by omega) hk hD.2.2.1 hp0 (by decide)
  rw [hW.2.2.2.2.1]
  refine ⟨a1, ?_⟩
  have hm : (-1 : Int32).toInt = -1 := by decide
  have h13 : (13 : Int32).toInt = 13 := by decide
  rw [hm, h13] at h2
  have ev : valN c d k true (dThere d, 0) = v := by
    unfold AB at h2
    omega
  rw [ev]
  exact e
