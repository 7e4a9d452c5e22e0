/-! PURE SIDE: odds, mid -/
theorem xor_m1 {s : Nat} (h : s < 256) : nI s ^^^ (-1 : Int32) = nI (4294967295 - s) := by
  have := (by decide +kernel : ∀ s, s < 256 → nI s ^^^ (-1 : Int32) = nI (4294967295 - s))
  exact this s h
def dfN (t s : Nat) : Nat := t &&& (4294967295 - s)
def subB (s t : Nat) : Bool := decide (dfN s t = 0)
theorem df_le (t s : Nat) : dfN t s ≤ t := Nat.and_le_left
theorem df_i {t s : Nat} (h : s < 256) : nI t &&& (nI s ^^^ (-1 : Int32)) = nI (dfN t s) := by
  rw [xor_m1 h, nI_and]; rfl
theorem df_bit {t s i : Nat} (hs : s < 256) (hi : i < 32) : (dfN t s).testBit i = (t.testBit i && !s.testBit i) := by
  unfold dfN
  rw [Nat.testBit_and, show 4294967295 - s = 2 ^ 32 - (s + 1) by omega, Nat.testBit_two_pow_sub_succ (by omega)]
  simp [hi]
theorem sub_bit {s t i : Nat} (h : subB s t = true) (ht : t < 256) (hi : i < 32) (hb : s.testBit i = true) : t.testBit i = true := by
  have h0 : dfN s t = 0 := of_decide_eq_true h
  have := df_bit (t := s) (s := t) ht hi
  rw [h0, Nat.zero_testBit, hb] at this
  simpa using this.symm
theorem sub_le {s t : Nat} (h : subB s t = true) (hs : s < 256) (ht : t < 256) : s ≤ t := by
  have e : s &&& t = s := by
    apply Nat.eq_of_testBit_eq
    intro i
    rw [Nat.testBit_and]
    by_cases hi : i < 32
    · cases hb : s.testBit i
      · rfl
      · rw [sub_bit h ht hi hb]; rfl
    · have : s.testBit i = false := Nat.testBit_lt_two_pow (Nat.lt_of_lt_of_le hs (show 2 ^ 8 ≤ 2 ^ i from Nat.pow_le_pow_right (by decide) (by omega)))
      rw [this]; rfl
  have h2 : s &&& t ≤ t := Nat.and_le_right
  omega
set_option maxRecDepth 20000 in
theorem tb_popk : ∀ n, n < 9 → ∀ s, s < 2 ^ n → cntN (fun i => s.testBit i) n = popN s := by decide +kernel
theorem cnt_mono {p q : Nat → Bool} {k : Nat} (h : ∀ i, i < k → p i = true → q i = true) : cntN p k ≤ cntN q k := by
  induction k with
  | zero => exact Nat.le_refl _
  | succ k ih =>
    have h1 := ih (fun i hi => h i (by omega))
    show cntN p k + (if p k = true then 1 else 0) ≤ cntN q k + (if q k = true then 1 else 0)
    by_cases e : p k = true
    · rw [if_pos e, if_pos (h k (by omega) e)]; omega
    · rw [if_neg e]; omega
theorem pop_mono {s t n : Nat} (h : subB s t = true) (hn : n < 9) (hs : s < 2 ^ n) (ht : t < 2 ^ n) : popN s ≤ popN t := by
  have hp := pow_n (n := n) (by omega)
  rw [← tb_popk n hn s hs, ← tb_popk n hn t ht]
  exact cnt_mono (fun i hi hb => sub_bit h (by omega) (by omega) hb)
def waysN (p s t : Nat) : Nat := p ^ popN s * (12 - p) ^ (popN t - popN s)
theorem power_ok (b e : Nat) (he : e < 1000) : f_X5_power (lN b) (nI e) = some (lN (b ^ e)) := by
  unfold f_X5_power
  refine lp_for0 (fun q => (lN (b ^ q), nI q)) e (fun q hq => ?_) ?_ rfl (by show e < 100000; omega)
  · show f_X5_power_B5 (lN b) (nI e) (lN (b ^ q)) (nI q) = some (Sum.inl (lN (b ^ (q + 1)), nI (q + 1)))
    unfold f_X5_power_B5
    rw [if_neg (nI_ge hq (by omega)), lN_mul, nI_1, Nat.pow_succ]
  · show f_X5_power_B5 (lN b) (nI e) (lN (b ^ e)) (nI e) = _
    unfold f_X5_power_B5
    rw [if_pos (nI_le (Nat.le_refl _) (by omega))]; rfl
theorem cways_ok {a : As} {w : Wh} {t n p s : Nat} (hw : wh_there w = nI t) (hn : n < 9) (ht : t < 2 ^ n) (hs : s < 2 ^ n) (hp : p ≤ 12) : f_X0_waysToLose a w (nI s) (nI p) = some (lN (if subB s t then waysN p s t else 0)) := by
  have h256 := pow_n (n := n) (by omega)
  have hp1 := pop_le s
  have hp2 := pop_le t
  have hdl := df_le s t
  unfold f_X0_waysToLose
  rw [hw, df_i (show t < 256 by omega)]
  by_cases e : subB s t = true
  · have e0 : dfN s t = 0 := of_decide_eq_true e
    rw [e0, if_pos (show nI 0 = 0 from nI_0), if_pos e, tb_pop s (by omega), ob_some, tb_pop t (by omega), ob_some, nI_l (by omega), power_ok _ _ (by omega), ob_some, show (12 : Int32) - nI p = nI (12 - p) from pk_sub hp, nI_l (by omega), pk_sub (pop_mono e hn hs ht), power_ok _ _ (by omega), ob_some, lN_mul]
    rfl
  · have e0 : ¬ dfN s t = 0 := fun z => e (decide_eq_true z)
    rw [if_neg (nI_ne0 (by omega) (by omega)), if_neg e]
    rfl
def prodN (p s t : Nat) : Nat → Nat
  | 0 => 1
  | k + 1 => prodN p s t k * (if t.testBit k then (if s.testBit k then p else 12 - p) else 1)
theorem prod_ok {p s t : Nat} (h : subB s t = true) (ht : t < 256) {k : Nat} (hk : k ≤ 8) : prodN p s t k = p ^ cntN (fun i => s.testBit i) k * (12 - p) ^ (cntN (fun i => t.testBit i) k - cntN (fun i => s.testBit i) k) := by
  induction k with
  | zero => rfl
  | succ k ih =>
    have hm : cntN (fun i => s.testBit i) k ≤ cntN (fun i => t.testBit i) k := cnt_mono (fun i hi hb => sub_bit h ht (by omega) hb)
    show prodN p s t k * (if t.testBit k = true then (if s.testBit k = true then p else 12 - p) else 1) = p ^ (cntN (fun i => s.testBit i) k + (if s.testBit k = true then 1 else 0)) * (12 - p) ^ (cntN (fun i => t.testBit i) k + (if t.testBit k = true then 1 else 0) - (cntN (fun i => s.testBit i) k + (if s.testBit k = true then 1 else 0)))
    rw [ih (by omega)]
    generalize cntN (fun i => s.testBit i) k = a at hm ⊢
    generalize cntN (fun i => t.testBit i) k = b at hm ⊢
    by_cases et : t.testBit k = true
    · by_cases es : s.testBit k = true
      · rw [if_pos et, if_pos es, if_pos es, if_pos et, show b + 1 - (a + 1) = b - a by omega, Nat.pow_succ, Nat.mul_right_comm]
      · rw [if_pos et, if_neg es, if_neg es, if_pos et, show b + 1 - (a + 0) = b - a + 1 by omega, Nat.pow_succ, Nat.add_zero, Nat.mul_assoc]
    · have es : ¬ s.testBit k = true := fun z => et (sub_bit h ht (by omega) z)
      rw [if_neg et, if_neg es, if_neg et, Nat.mul_one, Nat.add_zero, Nat.add_zero]
theorem prod_ways {p s t n : Nat} (h : subB s t = true) (hn : n < 9) (hs : s < 2 ^ n) (ht : t < 2 ^ n) : prodN p s t n = waysN p s t := by
  have h256 := pow_n (n := n) (by omega)
  rw [prod_ok h (by omega) (by omega), tb_popk n hn s hs, tb_popk n hn t ht]; rfl
def prodW (t : Nat) : Nat → Nat
  | 0 => 1
  | k + 1 => prodW t k * (if t.testBit k then 12 else 1)
theorem prodW_ok (t k : Nat) : prodW t k = 12 ^ cntN (fun i => t.testBit i) k := by
  induction k with
  | zero => rfl
  | succ k ih =>
    show prodW t k * (if t.testBit k = true then 12 else 1) = 12 ^ (cntN (fun i => t.testBit i) k + (if t.testBit k = true then 1 else 0))
    rw [ih]
    by_cases e : t.testBit k = true
    · rw [if_pos e, if_pos e, Nat.pow_succ]
    · rw [if_neg e, if_neg e, Nat.mul_one, Nat.add_zero]
theorem ways_le {p s t : Nat} (hp : p ≤ 12) (h : popN s ≤ popN t) : waysN p s t ≤ 12 ^ 8 := by
  have h8 := pop_le t
  unfold waysN
  calc p ^ popN s * (12 - p) ^ (popN t - popN s) ≤ 12 ^ popN s * 12 ^ (popN t - popN s) := Nat.mul_le_mul (Nat.pow_le_pow_left hp _) (Nat.pow_le_pow_left (by omega) _)
    _ = 12 ^ (popN s + (popN t - popN s)) := (Nat.pow_add 12 _ _).symm
    _ ≤ 12 ^ 8 := Nat.pow_le_pow_right (by decide) (by omega)
/-! how it limps with spokes there, some of them put in anew -/
def limW (c : Cfg) (d : Dyn) (t fr : Nat) : Nat := (limN c true (thereN (mendS d fr (cN c)) t) 12).1
theorem mendS_0 (d : Dyn) (k : Nat) : mendS d 0 k = d := by
  induction k with
  | zero => rfl
  | succ k ih =>
    show (if (0 : Nat).testBit k = true then mendN (mendS d 0 k) k else mendS d 0 k) = d
    rw [if_neg (by rw [Nat.zero_testBit]; decide), ih]
theorem climW_ok {a : As} {w : Wh} {c : Cfg} {d : Dyn} (hW : RW w c d) (hC : okC c) (hD : okD c d) (h3 : 3 ≤ cN c) (hr : dRut d < 400) {t fr : Nat} (ht : t < 2 ^ cN c) (hf : fr < 256) : ∃ a1, f_X0_limpsWith a w (nI t) (nI fr) = some (nI (limW c d t fr), a1) := by
  obtain ⟨q1, e1, h1⟩ := take_ok (w := as_trial a) hW hC hD
  obtain ⟨q2, e2, h2⟩ := cputall_ok h1 hC hD hf
  obtain ⟨d1, d2⟩ := okD_mendS hC hD fr (k := cN c) (Nat.le_refl _)
  obtain ⟨q3, e3, h4⟩ := climps_ok (RW_there h2 t) hC (okD_there d1 ht) h3 (show dRut (mendS d fr (cN c)) < 500 by omega) (n := 12) (by omega)
  unfold f_X0_limpsWith
  rw [e1, ob_some, e2, ob_some, show f_X4_limpsIn (wh_set_there q2 (nI t)) (12 : Int32) = _ from e3, ob_some]
  exact ⟨_, rfl⟩
/-- one set of spokes, weighed -/
def termN (c : Cfg) (d : Dyn) (g : Nat → Nat) (p s : Nat) : Nat := if subB s (dThere d) then g (limW c d (dfN (dThere d) s) 0) * waysN p s (dThere d) else 0
theorem sum_le {f : Nat → Nat} {B k : Nat} (h : ∀ i, i < k → f i ≤ B) : sumN f k ≤ k * B := by
  induction k with
  | zero => exact Nat.zero_le _
  | succ k ih =>
    show sumN f k + f k ≤ (k + 1) * B
    have h1 := ih (fun i hi => h i (by omega))
    have h2 := h k (by omega)
    rw [Nat.succ_mul]; omega
theorem term_le {c : Cfg} {d : Dyn} {g : Nat → Nat} {p n s : Nat} (hg : ∀ j, g j ≤ j + 1) (hp : p ≤ 12) (hn : n < 9) (hs : s < 2 ^ n) (ht : dThere d < 2 ^ n) : termN c d g p s ≤ 13 * 12 ^ 8 := by
  unfold termN
  by_cases e : subB s (dThere d) = true
  · rw [if_pos e]
    refine Nat.mul_le_mul ?_ (ways_le hp (pop_mono e hn hs ht))
    have h1 := hg (limW c d (dfN (dThere d) s) 0)
    have h2 : limW c d (dfN (dThere d) s) 0 ≤ 12 := lim_le _ _ _ _
    omega
  · rw [if_neg e]; exact Nat.zero_le _
theorem lN_zadd (a b : Nat) (h : lN b = 0) : lN (a + b) = lN a := by
  rw [← lN_add, h, Int64.add_zero]
theorem cup_ok {a : As} {w : Wh} {c : Cfg} {d : Dyn} (hW : RW w c d) (hC : okC c) (hD : okD c d) (h3 : 3 ≤ cN c) (hr : dRut d < 400) {v p : Nat} (hv : v ≤ 20) (hp : p ≤ 12) : ∃ a1, f_X0_waysUpTo a w (nI v) (nI p) = some (lN (sumN (termN c d (fun j => if j ≤ v then 1 else 0) p) (2 ^ cN c)), a1) := by
  have hn := okC_n hC
  obtain ⟨h256, hp0⟩ := pow_n' hn
  have ht := hD.2.2.1
  have key : ∃ o, f_X0_waysUpTo a w (nI v) (nI p) = some o ∧ ∃ a1, o = (lN (sumN (termN c d (fun j => if j ≤ v then 1 else 0) p) (2 ^ cN c)), a1) := by
    unfold f_X0_waysUpTo
    refine lp_e (fun k s => ∃ a1, s = (lN (sumN (termN c d (fun j => if j ≤ v then 1 else 0) p) k), nI k, a1)) _ (2 ^ cN c) ⟨a, rfl⟩ (by omega) ?_ ?_
    · rintro k s hk ⟨a1, rfl⟩
      have hdl := df_le (dThere d) k
      obtain ⟨a2, e2⟩ := climW_ok (a := a1) hW hC hD h3 hr (t := dfN (dThere d) k) (fr := 0) (by omega) (by decide)
      have hl : limW c d (dfN (dThere d) k) 0 ≤ 12 := lim_le _ _ _ _
      show ∃ t, f_X0_waysUpTo_B5 w (nI v) (nI p) (lN _) (nI k) a1 = _ ∧ ∃ a1, t = (lN (sumN (termN c d (fun j => if j ≤ v then 1 else 0) p) k + termN c d (fun j => if j ≤ v then 1 else 0) p k), nI (k + 1), a1)
      unfold f_X0_waysUpTo_B5 f_X0_waysUpTo_J61
      rw [hW.1, show jshl (1 : Int32) (nI (cN c)) = _ from tb_shl (cN c) (by omega), if_neg (nI_ge hk (by omega)), cways_ok hW.2.2.2.2.1 (by omega) ht hk hp, ob_some, hW.2.2.2.2.1, df_i (show k < 256 by omega), show f_X0_limpsWith a1 w (nI (dfN (dThere d) k)) (0 : Int32) = _ from e2, ob_some, nI_1]
      dsimp only
      by_cases es : subB k (dThere d) = true
      · have ht1 : termN c d (fun j => if j ≤ v then 1 else 0) p k = (if limW c d (dfN (dThere d) k) 0 ≤ v then 1 else 0) * waysN p k (dThere d) := by unfold termN; rw [if_pos es]
        rw [if_pos es, ht1]
        by_cases e0 : lN (waysN p k (dThere d)) = 0
        · rw [if_pos ((lg_cmp_eq _ _).mpr e0), lN_zadd _ _ (by rw [← lN_mul, e0, Int64.mul_zero])]
          exact ⟨_, rfl, _, rfl⟩
        · rw [if_neg (fun z => e0 ((lg_cmp_eq _ _).mp z))]
          by_cases ev : limW c d (dfN (dThere d) k) 0 ≤ v
          · rw [if_neg (nI_nlt ev (by omega)), if_pos ev, Nat.one_mul, lN_add]
            exact ⟨_, rfl, _, rfl⟩
          · rw [if_pos (nI_lt (by omega) (by omega)), if_neg ev, Nat.zero_mul, Nat.add_zero]
            exact ⟨_, rfl, _, rfl⟩
      · have ht1 : termN c d (fun j => if j ≤ v then 1 else 0) p k = 0 := by unfold termN; rw [if_neg es]
        rw [if_neg es, ht1, if_pos (show lg_cmp (lN 0) (0 : Int64) = 0 from (lg_cmp_eq _ _).mpr rfl), Nat.add_zero]
        exact ⟨_, rfl, _, rfl⟩
    · rintro s ⟨a1, rfl⟩
      refine ⟨_, ?_, a1, rfl⟩
      show f_X0_waysUpTo_B5 w (nI v) (nI p) (lN _) (nI (2 ^ cN c)) a1 = _
      unfold f_X0_waysUpTo_B5
      rw [hW.1, show jshl (1 : Int32) (nI (cN c)) = _ from tb_shl (cN c) (by omega), if_pos (nI_le (Nat.le_refl _) (by omega))]; rfl
  obtain ⟨o, e, a1, rfl⟩ := key
  exact ⟨a1, e⟩
theorem cmid_ok {a : As} {w : Wh} {c : Cfg} {d : Dyn} (hW : RW w c d) (hC : okC c) (hD : okD c d) (h3 : 3 ≤ cN c) (hr : dRut d < 400) {p : Nat} (hp : p ≤ 12) : ∃ a1, f_X0_limpsOverWays a w (nI p) = some (lN (sumN (termN c d (fun j => j) p) (2 ^ cN c)), a1) := by
  have hn := okC_n hC
  obtain ⟨h256, hp0⟩ := pow_n' hn
  have ht := hD.2.2.1
  have key : ∃ o, f_X0_limpsOverWays a w (nI p) = some o ∧ ∃ a1, o = (lN (sumN (termN c d (fun j => j) p) (2 ^ cN c)), a1) := by
    unfold f_X0_limpsOverWays
    refine lp_e (fun k s => ∃ a1, s = (lN (sumN (termN c d (fun j => j) p) k), nI k, a1)) _ (2 ^ cN c) ⟨a, rfl⟩ (by omega) ?_ ?_
    · rintro k s hk ⟨a1, rfl⟩
      have hdl := df_le (dThere d) k
      obtain ⟨a2, e2⟩ := climW_ok (a := a1) hW hC hD h3 hr (t := dfN (dThere d) k) (fr := 0) (by omega) (by decide)
      have hl : limW c d (dfN (dThere d) k) 0 ≤ 12 := lim_le _ _ _ _
      show ∃ t, f_X0_limpsOverWays_B5 w (nI p) (lN _) (nI k) a1 = _ ∧ ∃ a1, t = (lN (sumN (termN c d (fun j => j) p) k + termN c d (fun j => j) p k), nI (k + 1), a1)
      unfold f_X0_limpsOverWays_B5 f_X0_limpsOverWays_J59
      rw [hW.1, show jshl (1 : Int32) (nI (cN c)) = _ from tb_shl (cN c) (by omega), if_neg (nI_ge hk (by omega)), cways_ok hW.2.2.2.2.1 (by omega) ht hk hp, ob_some, hW.2.2.2.2.1, df_i (show k < 256 by omega), show f_X0_limpsWith a1 w (nI (dfN (dThere d) k)) (0 : Int32) = _ from e2, ob_some, nI_1]
      dsimp only
      by_cases es : subB k (dThere d) = true
      · have ht1 : termN c d (fun j => j) p k = limW c d (dfN (dThere d) k) 0 * waysN p k (dThere d) := by unfold termN; rw [if_pos es]
        rw [if_pos es, ht1]
        by_cases e0 : lN (waysN p k (dThere d)) = 0
        · rw [if_pos ((lg_cmp_eq _ _).mpr e0), lN_zadd _ _ (by rw [← lN_mul, e0, Int64.mul_zero])]
          exact ⟨_, rfl, _, rfl⟩
        · rw [if_neg (fun z => e0 ((lg_cmp_eq _ _).mp z)), nm_eq, nI_l (by omega), lN_mul, lN_add, Nat.mul_comm (waysN p k (dThere d))]
          exact ⟨_, rfl, _, rfl⟩
      · have ht1 : termN c d (fun j => j) p k = 0 := by unfold termN; rw [if_neg es]
        rw [if_neg es, ht1, if_pos (show lg_cmp (lN 0) (0 : Int64) = 0 from (lg_cmp_eq _ _).mpr rfl), Nat.add_zero]
        exact ⟨_, rfl, _, rfl⟩
    · rintro s ⟨a1, rfl⟩
      refine ⟨_, ?_, a1, rfl⟩
      show f_X0_limpsOverWays_B5 w (nI p) (lN _) (nI (2 ^ cN c)) a1 = _
      unfold f_X0_limpsOverWays_B5
      rw [hW.1, show jshl (1 : Int32) (nI (cN c)) = _ from tb_shl (cN c) (by omega), if_pos (nI_le (Nat.le_refl _) (by omega))]; rfl
  obtain ⟨o, e, a1, rfl⟩ := key
  exact ⟨a1, e⟩
/-! the reference's parts -/
def partsN (c : Cfg) (d : Dyn) (p : Nat) (j : Nat) : Nat → Nat
  | 0 => 0
  | k + 1 => partsN c d p j k + (if subB k (dThere d) = true ∧ limW c d (dfN (dThere d) k) 0 = j then waysN p k (dThere d) else 0)
theorem sum_add (f g : Nat → Nat) (k : Nat) : sumN (fun j => f j + g j) k = sumN f k + sumN g k := by
  induction k with
  | zero => rfl
  | succ k ih =>
    show sumN (fun j => f j + g j) k + (f k + g k) = sumN f k + f k + (sumN g k + g k)
    rw [ih]; omega
theorem sum_delta (g : Nat → Nat) (A : Prop) [Decidable A] (a w k : Nat) : sumN (fun j => g j * (if A ∧ a = j then w else 0)) k = if A ∧ a < k then g a * w else 0 := by
  induction k with
  | zero => rw [if_neg (by omega)]; rfl
  | succ k ih =>
    show sumN (fun j => g j * (if A ∧ a = j then w else 0)) k + g k * (if A ∧ a = k then w else 0) = _
    rw [ih]
    by_cases hA : A
    · by_cases h1 : a < k
      · rw [if_pos ⟨hA, h1⟩, if_neg (by omega), if_pos ⟨hA, by omega⟩, Nat.mul_zero, Nat.add_zero]
      · by_cases h2 : a = k
        · subst h2
          rw [if_neg (by omega), if_pos ⟨hA, rfl⟩, if_pos ⟨hA, by omega⟩, Nat.zero_add]
        · rw [if_neg (by omega), if_neg (by omega), if_neg (by omega), Nat.mul_zero]
    · rw [if_neg (fun z => hA z.1), if_neg (fun z => hA z.1), if_neg (fun z => hA z.1), Nat.mul_zero]
theorem sum_congr {f g : Nat → Nat} {k : Nat} (h : ∀ i, i < k → f i = g i) : sumN f k = sumN g k := by
  induction k with
  | zero => rfl
  | succ k ih =>
    show sumN f k + f k = sumN g k + g k
    rw [ih (fun i hi => h i (by omega)), h k (by omega)]
theorem sum_zero (k : Nat) : sumN (fun _ => 0) k = 0 := by
  induction k with
  | zero => rfl
  | succ k ih => show sumN (fun _ => 0) k + 0 = 0; rw [ih]
theorem swap_ok (c : Cfg) (d : Dyn) (g : Nat → Nat) (p K : Nat) : sumN (fun j => g j * partsN c d p j K) 13 = sumN (termN c d g p) K := by
  induction K with
  | zero =>
    show sumN (fun j => g j * 0) 13 = 0
    rw [sum_congr (g := fun _ => 0) (fun i _ => Nat.mul_zero _), sum_zero]
  | succ K ih =>
    show sumN (fun j => g j * (partsN c d p j K + (if subB K (dThere d) = true ∧ limW c d (dfN (dThere d) K) 0 = j then waysN p K (dThere d) else 0))) 13 = sumN (termN c d g p) K + termN c d g p K
    rw [sum_congr (g := fun j => g j * partsN c d p j K + g j * (if subB K (dThere d) = true ∧ limW c d (dfN (dThere d) K) 0 = j then waysN p K (dThere d) else 0)) (fun i _ => Nat.mul_add _ _ _), sum_add, ih, sum_delta]
    have hl : limW c d (dfN (dThere d) K) 0 ≤ 12 := lim_le _ _ _ _
    unfold termN
    by_cases e : subB K (dThere d) = true
    · rw [if_pos ⟨e, by omega⟩, if_pos e]
    · rw [if_neg (fun z => e z.1), if_neg e]
theorem term_tail {c : Cfg} {d : Dyn} (g : Nat → Nat) (p : Nat) {n : Nat} (hn : n < 9) (ht : dThere d < 2 ^ n) : sumN (termN c d g p) (2 ^ n) = sumN (termN c d g p) (dThere d + 1) := by
  have h256 := pow_n (n := n) (by omega)
  have := sum_tail (f := termN c d g p) (n := dThere d + 1) (j := 2 ^ n - (dThere d + 1)) (fun i h1 h2 => by
    unfold termN
    rw [if_neg]
    intro e
    have := sub_le e (by omega) (by omega)
    omega)
  rwa [show dThere d + 1 + (2 ^ n - (dThere d + 1)) = 2 ^ n by omega] at this
theorem updL_s {f : ArL} {k : Nat} {v : Int64} : vp_updL f k v k = v := if_pos rfl
theorem updL_n {f : ArL} {k j : Nat} {v : Int64} (h : j ≠ k) : vp_updL f k v j = f j := if_neg h
theorem pY_wh {y : Md} {wh : Int64} : md_set_whole y wh = pY y wh (md_tried y) (md_parts y) := rfl
/-- one set of spokes, weighed by the reference -/
theorem mone_set {y : Md} {c : Cfg} {d : Dyn} (hM : RM y c) (hN : RT (md_now y) 0 d) (hC : okC c) (hD : okD c d) (h3 : 3 ≤ cN c) (hr : dRut d < 400) {p k : Nat} (hp : p ≤ 12) (hk : k < 2 ^ cN c) (es : subB k (dThere d) = true) (wh : Int64) (t0 : Ar) (P : ArL) : ∃ t, lp (f_X6_layParts_L101 (pY y wh t0 P) (nI p) (nI k)) fuel ((1 : Int64), (0 : Int32)) = some (Sum.inl (nI (k + 1), pY y wh t (vp_updL P (limW c d (dfN (dThere d) k) 0) (P (limW c d (dfN (dThere d) k) 0) + lN (waysN p k (dThere d)))))) := by
  have hn := okC_n hC
  obtain ⟨h256, hp0⟩ := pow_n' hn
  have ht := hD.2.2.1
  have hdl := df_le (dThere d) k
  have hl : limW c d (dfN (dThere d) k) 0 ≤ 12 := lim_le _ _ _ _
  obtain ⟨t1, e1, h1⟩ := copy_pY hN wh t0 P
  obtain ⟨t2, e2, -⟩ := limps_pY (RM_pY hM wh (upd t1 3 (nI (dfN (dThere d) k))) P) (RT_there h1 (dfN (dThere d) k)) hC (okD_there hD (by omega)) h3 (show dRut d < 500 by omega) (n := 12) (by omega) true
  have elw : (limN c true (thereN d (dfN (dThere d) k)) 12).1 = limW c d (dfN (dThere d) k) 0 := by unfold limW; rw [mendS_0]
  rw [elw] at e2
  refine ⟨t2, ?_⟩
  refine lp_for0 (fun q => (lN (prodN p k (dThere d) q), nI q)) (cN c) (fun q hq => ?_) ?_ rfl (by show cN c < 100000; omega)
  · show f_X6_layParts_B101 (pY y wh t0 P) (nI p) (nI k) (lN (prodN p k (dThere d) q)) (nI q) = some (Sum.inl (lN (prodN p k (dThere d) q * (if (dThere d).testBit q = true then (if k.testBit q = true then p else 12 - p) else 1)), nI (q + 1)))
    unfold f_X6_layParts_B101 f_X6_layParts_J148
    rw [(RM_pY hM wh t0 P).1, if_neg (nI_ge hq (by omega)), show md_now (pY y wh t0 P) 3 = nI (dThere d) from (NW_pY hN wh t0 P).2.2.2.1, has_ok (by omega) (by omega), has_ok (show k < 256 by omega) (by omega), ob_some, ob_some, nI_1]
    by_cases et : (dThere d).testBit q = true
    · rw [if_pos et, if_pos et, if_neg (show ¬ nI 1 = 0 by decide)]
      by_cases ek : k.testBit q = true
      · rw [if_pos ek, if_pos ek, if_neg (show ¬ nI 1 = 0 by decide), nI_l (by omega), lN_mul]
      · rw [if_neg ek, if_neg ek, if_pos (show nI 0 = 0 from nI_0), show (12 : Int32) - nI p = nI (12 - p) from pk_sub hp, nI_l (by omega), lN_mul]
    · rw [if_neg et, if_neg et, if_pos (show nI 0 = 0 from nI_0), show (1 : Int64) = lN 1 from rfl, lN_mul]
  · show f_X6_layParts_B101 (pY y wh t0 P) (nI p) (nI k) (lN (prodN p k (dThere d) (cN c))) (nI (cN c)) = _
    unfold f_X6_layParts_B101 f_X6_layParts_J156 f_X6_layParts_J188
    rw [(RM_pY hM wh t0 P).1, if_pos (nI_le (Nat.le_refl _) (by omega)), prod_ways es (by omega) hk ht, e1, ob_some]
    rw [pY_f_tried, show t1 3 = nI (dThere d) from h1.2.2.2.1, df_i (show k < 256 by omega), pY_s_tried, show f_X6_limpsIn (pY y wh (upd t1 3 (nI (dfN (dThere d) k))) P) (12 : Int32) (1 : Int32) = _ from e2, ob_some]
    dsimp only
    rw [gd_b (show limW c d (dfN (dThere d) k) 0 < 13 by omega) (by decide), gd_b (show limW c d (dfN (dThere d) k) 0 < 13 by omega) (by decide), ix_n (by omega), nI_1, pY_s_parts, pY_f_parts]
    rfl
theorem mlay_ok {y : Md} {c : Cfg} {d : Dyn} (hM : RM y c) (hN : RT (md_now y) 0 d) (hC : okC c) (hD : okD c d) (h3 : 3 ≤ cN c) (hr : dRut d < 400) {p : Nat} (hp : p ≤ 12) : ∃ t P, f_X6_layParts y (nI p) = some (pY y (lN (12 ^ popN (dThere d))) t P) ∧ ∀ j, j < 13 → P j = lN (partsN c d p j (dThere d + 1)) := by
  have hn := okC_n hC
  obtain ⟨h256, hp0⟩ := pow_n' hn
  have ht := hD.2.2.1
  have key3 : ∀ (wh : Int64) (P0 : ArL), (∀ j, j < 13 → P0 j = 0) → ∃ o, f_X6_layParts_J71 (pY y wh (md_tried y) P0) (nI p) = some o ∧ ∃ t P, o = pY y wh t P ∧ ∀ j, j < 13 → P j = lN (partsN c d p j (dThere d + 1)) := by
    intro wh P0 hP0
    unfold f_X6_layParts_J71
    refine lp_e (fun k s => ∃ t P, s = (nI k, pY y wh t P) ∧ ∀ j, j < 13 → P j = lN (partsN c d p j k)) _ (dThere d + 1) ⟨_, P0, rfl, fun j hj => hP0 j hj⟩ (by omega) ?_ ?_
    · rintro k s hk ⟨t, P, rfl, hP⟩
      have hl : limW c d (dfN (dThere d) k) 0 ≤ 12 := lim_le _ _ _ _
      have hdl := df_le k (dThere d)
      show ∃ s1, f_X6_layParts_B73 (nI p) (nI k) (pY y wh t P) = _ ∧ ∃ t P, s1 = (nI (k + 1), pY y wh t P) ∧ ∀ j, j < 13 → P j = lN (partsN c d p j k + (if subB k (dThere d) = true ∧ limW c d (dfN (dThere d) k) 0 = j then waysN p k (dThere d) else 0))
      unfold f_X6_layParts_B73 f_X6_layParts_J188
      rw [show md_now (pY y wh t P) 3 = nI (dThere d) from (NW_pY hN wh t P).2.2.2.1, if_neg (nI_nlt (by omega) (by omega)), df_i (show dThere d < 256 by omega), nI_1]
      by_cases es : subB k (dThere d) = true
      · have e0 : dfN k (dThere d) = 0 := of_decide_eq_true es
        obtain ⟨t2, e2⟩ := mone_set hM hN hC hD h3 hr hp (show k < 2 ^ cN c by omega) es wh t P
        rw [e0, if_pos (show nI 0 = 0 from nI_0), e2]
        refine ⟨_, rfl, t2, _, rfl, fun j hj => ?_⟩
        by_cases ej : limW c d (dfN (dThere d) k) 0 = j
        · subst ej
          rw [updL_s, if_pos ⟨es, rfl⟩, hP _ hj, lN_add]
        · rw [updL_n (fun z => ej z.symm), if_neg (fun z => ej z.2), Nat.add_zero, hP j hj]
      · have e0 : ¬ dfN k (dThere d) = 0 := fun z => es (decide_eq_true z)
        rw [if_neg (nI_ne0 (by omega) (by omega))]
        refine ⟨_, rfl, t, P, rfl, fun j hj => ?_⟩
        rw [if_neg (fun z => es z.1), Nat.add_zero, hP j hj]
    · rintro s ⟨t, P, rfl, hP⟩
      refine ⟨_, ?_, t, P, rfl, hP⟩
      show f_X6_layParts_B73 (nI p) (nI (dThere d + 1)) (pY y wh t P) = _
      unfold f_X6_layParts_B73
      rw [show md_now (pY y wh t P) 3 = nI (dThere d) from (NW_pY hN wh t P).2.2.2.1, if_pos (nI_lt (by omega) (by omega))]; rfl
  have key2 : ∀ wh : Int64, ∃ o, f_X6_layParts_J50 (md_set_whole y wh) (nI p) = some o ∧ ∃ t P, o = pY y wh t P ∧ ∀ j, j < 13 → P j = lN (partsN c d p j (dThere d + 1)) := by
    intro wh
    unfold f_X6_layParts_J50
    refine lp_e (fun k s => ∃ P, s = (nI k, pY y wh (md_tried y) P) ∧ ∀ j, j < k → P j = 0) _ 13 ⟨md_parts y, rfl, fun j hj => absurd hj (by omega)⟩ (by omega) ?_ ?_
    · rintro k s hk ⟨P, rfl, hP⟩
      refine ⟨(nI (k + 1), pY y wh (md_tried y) (vp_updL P k 0)), ?_, _, rfl, fun j hj => ?_⟩
      · show f_X6_layParts_B52 (nI p) (nI k) (pY y wh (md_tried y) P) = _
        unfold f_X6_layParts_B52
        rw [if_neg (show ¬ (12 : Int32) < nI k from nI_nlt (a := 12) (by omega) (by decide)), gd_b hk (by decide), ix_n (by omega), nI_1, pY_s_parts, pY_f_parts]
      · by_cases e : j = k
        · subst e; rw [updL_s]
        · rw [updL_n e]; exact hP j (by omega)
    · rintro s ⟨P, rfl, hP⟩
      obtain ⟨o, e, h⟩ := key3 wh P hP
      refine ⟨o, ?_, h⟩
      show f_X6_layParts_B52 (nI p) (nI 13) (pY y wh (md_tried y) P) = _
      unfold f_X6_layParts_B52
      rw [if_pos (show (12 : Int32) < nI 13 by decide), e]; rfl
  have key : ∃ o, f_X6_layParts y (nI p) = some o ∧ ∃ t P, o = pY y (lN (12 ^ popN (dThere d))) t P ∧ ∀ j, j < 13 → P j = lN (partsN c d p j (dThere d + 1)) := by
    unfold f_X6_layParts
    refine lp_e (fun k s => ∃ v, v = lN (prodW (dThere d) k) ∧ s = (nI k, md_set_whole y v)) _ (cN c) ⟨_, rfl, rfl⟩ (by omega) ?_ ?_
    · rintro k s hk ⟨v, hv, rfl⟩
      show ∃ s1, f_X6_layParts_B7 (nI p) (nI k) (md_set_whole y v) = _ ∧ ∃ v, v = lN (prodW (dThere d) k * (if (dThere d).testBit k = true then 12 else 1)) ∧ s1 = (nI (k + 1), md_set_whole y v)
      unfold f_X6_layParts_B7 f_X6_layParts_J40
      rw [show md_n (md_set_whole y v) = nI (cN c) from hM.1, if_neg (nI_ge hk (by omega)), show md_now (md_set_whole y v) 3 = nI (dThere d) from hN.2.2.2.1, has_ok (by omega) (by omega), ob_some, show md_whole (md_set_whole y v) = v from rfl, nI_1]
      by_cases e : (dThere d).testBit k = true
      · rw [if_pos e, if_pos e, if_neg (show ¬ nI 1 = 0 by decide)]
        refine ⟨_, rfl, v * (12 : Int64), ?_, rfl⟩
        rw [hv, show (12 : Int64) = lN 12 from rfl, lN_mul]
      · rw [if_neg e, if_neg e, if_pos (show nI 0 = 0 from nI_0)]
        refine ⟨_, rfl, v * (1 : Int64), ?_, rfl⟩
        rw [hv, show (1 : Int64) = lN 1 from rfl, lN_mul]
    · rintro s ⟨v, hv, rfl⟩
      obtain ⟨o, e, t, P, rfl, hP⟩ := key2 v
      refine ⟨pY y v t P, ?_, t, P, ?_, hP⟩
      · show f_X6_layParts_B7 (nI p) (nI (cN c)) (md_set_whole y v) = _
        unfold f_X6_layParts_B7
        rw [show md_n (md_set_whole y v) = nI (cN c) from hM.1, if_pos (nI_le (Nat.le_refl _) (by omega)), e]; rfl
      · rw [hv, prodW_ok, tb_popk (cN c) (by omega) _ ht]
  obtain ⟨o, e, t, P, rfl, h⟩ := key
  exact ⟨t, P, e, h⟩
/-! the lowest terms -/
theorem gcd_step (x y : Nat) : Nat.gcd y (x % y) = Nat.gcd x y := by
  rw [Nat.gcd_comm y, ← Nat.gcd_rec, Nat.gcd_comm]
theorem half_step {x y k b : Nat} (h : y < x) (hk : x * y * 2 ^ k ≤ b) : y * (x % y) * 2 ^ (k + 1) ≤ b := by
  refine Nat.le_trans ?_ hk
  by_cases h0 : y = 0
  · subst h0; simp
  · have hr : x % y < y := Nat.mod_lt _ (by omega)
    have hd : y * (x / y) + x % y = x := Nat.div_add_mod x y
    have hq : 1 ≤ x / y := Nat.div_pos (by omega) (by omega)
    have hy : y * 1 ≤ y * (x / y) := Nat.mul_le_mul_left y hq
    have h2 : x % y * 2 ≤ x := by omega
    calc y * (x % y) * 2 ^ (k + 1) = y * (x % y * 2) * 2 ^ k := by rw [Nat.pow_succ, Nat.mul_comm (2 ^ k) 2, ← Nat.mul_assoc, Nat.mul_assoc y]
      _ ≤ y * x * 2 ^ k := Nat.mul_le_mul_right _ (Nat.mul_le_mul_left _ h2)
      _ = x * y * 2 ^ k := by rw [Nat.mul_comm y x]
/-- where the division of a by b, b by the rest .. stands behind k steps -/
def gcdI (a b k x y : Nat) : Prop := x < 2 ^ 63 ∧ y < 2 ^ 30 ∧ Nat.gcd x y = Nat.gcd a b ∧ 0 < x + y ∧ ((k = 0 ∧ x = a ∧ y = b) ∨ (1 ≤ k ∧ y < x ∧ x * y * 2 ^ (k - 1) ≤ b * b))
theorem gcdI_go {a b k x y : Nat} (hb : b < 2 ^ 30) (h : gcdI a b k x y) (h0 : 0 < y) : gcdI a b (k + 1) y (x % y) := by
  obtain ⟨h1, h2, h3, h4, h5⟩ := h
  have hr : x % y < y := Nat.mod_lt _ h0
  refine ⟨by omega, by omega, (gcd_step x y).trans h3, by omega, Or.inr ⟨by omega, hr, ?_⟩⟩
  show y * (x % y) * 2 ^ (k + 1 - 1) ≤ b * b
  rcases h5 with ⟨rfl, rfl, rfl⟩ | ⟨h6, h7, h8⟩
  · show y * (x % y) * 1 ≤ y * y
    rw [Nat.mul_one]
    exact Nat.mul_le_mul_left _ (by omega)
  · have := half_step h7 h8
    rwa [show k - 1 + 1 = k + 1 - 1 by omega] at this
theorem gcdI_end {a b k x y : Nat} (hb : b < 2 ^ 30) (h : gcdI a b k x y) (hk : 70 ≤ k) : y = 0 := by
  obtain ⟨h1, h2, h3, h4, h5⟩ := h
  rcases h5 with ⟨h6, -⟩ | ⟨h6, h7, h8⟩
  · omega
  · apply Nat.eq_zero_of_not_pos
    intro hy
    have h9 : 1 * 1 * 2 ^ 69 ≤ x * y * 2 ^ (k - 1) := Nat.mul_le_mul (Nat.mul_le_mul (by omega) hy) (Nat.pow_le_pow_right (by decide) (by omega))
    have h10 : b * b ≤ 2 ^ 30 * 2 ^ 30 := Nat.mul_le_mul (by omega) (by omega)
    have h11 : (1 * 1 * 2 ^ 69 : Nat) = 590295810358705651712 := by decide
    have h12 : (2 ^ 30 * 2 ^ 30 : Nat) = 1152921504606846976 := by decide
    omega
theorem cgcd_ok {a b : Nat} (ha : a < 2 ^ 63) (hb0 : 0 < b) (hb : b < 2 ^ 30) : f_X5_commonDivisor (lN a) (lN b) = some (lN (Nat.gcd a b)) := by
  have key : ∃ o, f_X5_commonDivisor (lN a) (lN b) = some o ∧ o = lN (Nat.gcd a b) := by
    unfold f_X5_commonDivisor
    refine lp_i (fun k s => ∃ x y, s = (lN x, lN y, nI k) ∧ gcdI a b k x y) _ 70 ⟨a, b, rfl, ha, hb, rfl, by omega, Or.inl ⟨rfl, rfl, rfl⟩⟩ (by omega) ?_
    rintro k s hk ⟨x, y, rfl, hI⟩
    obtain ⟨h1, h2, h3, h4, h5⟩ := id hI
    show (_ ∧ ∃ s1, f_X5_commonDivisor_B9 (lN x) (lN y) (nI k) = _ ∧ _) ∨ ∃ o, f_X5_commonDivisor_B9 (lN x) (lN y) (nI k) = _ ∧ _
    unfold f_X5_commonDivisor_B9
    rw [if_neg (show ¬ (100 : Int32) ≤ nI k from nI_ge (b := 100) (by omega) (by decide))]
    by_cases e : y = 0
    · right
      subst e
      rw [if_pos (show lg_cmp (lN 0) (0 : Int64) = 0 from (lg_cmp_eq _ _).mpr rfl)]
      exact ⟨_, rfl, by rw [← h3, Nat.gcd_zero_right]⟩
    · left
      have hk70 : k < 70 := Nat.lt_of_not_le (fun z => e (gcdI_end hb hI z))
      rw [if_neg (show ¬ lg_cmp (lN y) (0 : Int64) = 0 from fun z => e ((pk_lEQ (b := 0) (by omega) (by decide)).mp ((lg_cmp_eq _ _).mp z))), gd_t (gdL (by omega) (by omega)), show jremL (lN x) (lN y) = lN (x % y) from pk_lRem (by omega) (by omega) (by omega), nI_1]
      exact ⟨hk70, _, rfl, y, x % y, rfl, gcdI_go hb hI (by omega)⟩
  obtain ⟨o, e, rfl⟩ := key
  exact e
theorem mgcd_ok {w : Md} {a b : Nat} (ha : a < 2 ^ 63) (hb0 : 0 < b) (hb : b < 2 ^ 30) : f_X6_lowest w (lN a) (lN b) = some (1, md_set_below (md_set_above w (lN a / lN (Nat.gcd a b))) (lN b / lN (Nat.gcd a b))) := by
  have hg : 0 < Nat.gcd a b := Nat.gcd_pos_of_pos_right a hb0
  have hgb : Nat.gcd a b ≤ b := Nat.gcd_le_right a hb0
  have key : ∃ o, f_X6_lowest w (lN a) (lN b) = some o ∧ o = (1, md_set_below (md_set_above w (lN a / lN (Nat.gcd a b))) (lN b / lN (Nat.gcd a b))) := by
    unfold f_X6_lowest
    refine lp_i (fun k s => ∃ x y, s = (lN x, lN y) ∧ gcdI a b k x y) _ 70 ⟨a, b, rfl, ha, hb, rfl, by omega, Or.inl ⟨rfl, rfl, rfl⟩⟩ (by omega) ?_
    rintro k s hk ⟨x, y, rfl, hI⟩
    obtain ⟨h1, h2, h3, h4, h5⟩ := id hI
    show (_ ∧ ∃ s1, f_X6_lowest_B6 w (lN a) (lN b) (lN x) (lN y) = _ ∧ _) ∨ ∃ o, f_X6_lowest_B6 w (lN a) (lN b) (lN x) (lN y) = _ ∧ _
    unfold f_X6_lowest_B6 f_X6_lowest_J31
    by_cases e : y = 0
    · right
      subst e
      have hx : x = Nat.gcd a b := by rw [← h3, Nat.gcd_zero_right]
      rw [if_pos (show lg_cmp (lN 0) (0 : Int64) = 0 from (lg_cmp_eq _ _).mpr rfl), hx, gd_t (gdL hg (by omega)), gd_t (gdL hg (by omega))]
      exact ⟨_, rfl, rfl⟩
    · left
      have hk70 : k < 70 := Nat.lt_of_not_le (fun z => e (gcdI_end hb hI z))
      rw [if_neg (show ¬ lg_cmp (lN y) (0 : Int64) = 0 from fun z => e ((pk_lEQ (b := 0) (by omega) (by decide)).mp ((lg_cmp_eq _ _).mp z))), gd_t (gdL (by omega) (by omega)), show jremL (lN x) (lN y) = lN (x % y) from pk_lRem (by omega) (by omega) (by omega)]
      exact ⟨hk70, _, rfl, y, x % y, rfl, gcdI_go hb hI (by omega)⟩
  obtain ⟨o, e, rfl⟩ := key
  exact e
theorem pow12 {k : Nat} (h : k ≤ 8) : 0 < 12 ^ k ∧ 12 ^ k < 2 ^ 30 := ⟨Nat.pow_pos (by decide), Nat.lt_of_le_of_lt (Nat.pow_le_pow_right (by decide) h) (by decide)⟩
theorem ctell_ok {x : Ww} {t a : Nat} (ht : wh_there (ct_wheel (ww_cart x)) = nI t) (h : t < 256) (ha : a < 2 ^ 63) : f_X5_tellShare x (lN a) = some (1, ww_set_lowerLast (ww_set_upperLast x (lN a / lN (Nat.gcd a (12 ^ popN t)))) (lN (12 ^ popN t) / lN (Nat.gcd a (12 ^ popN t)))) := by
  have hp := pop_le t
  obtain ⟨p1, p2⟩ := pow12 hp
  have hg : 0 < Nat.gcd a (12 ^ popN t) := Nat.gcd_pos_of_pos_right a p1
  have hgb : Nat.gcd a (12 ^ popN t) ≤ 12 ^ popN t := Nat.gcd_le_right a p1
  unfold f_X5_tellShare
  rw [ht, tb_pop t h, ob_some, show f_X5_power (12 : Int64) (nI (popN t)) = _ from power_ok 12 (popN t) (by omega), ob_some, cgcd_ok ha p1 p2, ob_some, if_neg (fun z => by have := (pk_lLE (b := 0) (by omega) (by decide)).mp ((lg_cmp_le _ _).mp z); omega), gd_t (gdL hg (by omega)), gd_t (gdL hg (by omega))]
theorem tot_lt {c : Cfg} {d : Dyn} {g : Nat → Nat} {p : Nat} (hg : ∀ j, g j ≤ j + 1) (hp : p ≤ 12) (hn : cN c ≤ 8) (ht : dThere d < 2 ^ cN c) : sumN (termN c d g p) (2 ^ cN c) < 2 ^ 63 := by
  have h256 := pow_n hn
  have h1 := sum_le (f := termN c d g p) (B := 13 * 12 ^ 8) (k := 2 ^ cN c) (fun i hi => term_le hg hp (by omega) hi ht)
  have h2 : 2 ^ cN c * (13 * 12 ^ 8) ≤ 256 * (13 * 12 ^ 8) := Nat.mul_le_mul_right _ h256
  have h3 : 256 * (13 * 12 ^ 8) < 2 ^ 63 := by decide
  omega
theorem s_odds : S_odds Rel := by
  intro x y h u w
  have hRel := h
  obtain ⟨hT, hR, hX, c, E, hWE⟩ := h
  obtain ⟨hC, hE, hRC, hM, hd, hN, hL, hK⟩ := id hWE
  obtain ⟨o1, o2⟩ := okD_rep hC hE
  have h40 := hE.1
  have hn := okC_n hC
  unfold f_X5_odds f_X6_odds
  rcases num_cases u 21 (by decide) with hb | ⟨v, hv, rfl⟩
  · refine ⟨-1, x, y, ?_, ?_, hRel⟩
    · by_cases h0 : u < 0
      · rw [if_pos h0]
      · rw [if_neg h0, if_pos (show (20 : Int32) < u from lt_of_nle (n := 20) (by decide) (hb.resolve_left h0))]
    · rw [show f_X6_in u 0 20 = some 0 from in_bad (k := 21) (by decide) hb]; rfl
  · rw [if_neg (nI_pos (by omega)), if_neg (show ¬ (20 : Int32) < nI v from nI_nlt (a := 20) (by omega) (by decide)), show f_X6_in (nI v) 0 20 = some 1 from in_good (k := 21) (by decide) hv, ob_some, if_neg (show ¬ (1 : Int32) = 0 by decide)]
    rcases num_cases w 13 (by decide) with hb | ⟨p, hp, rfl⟩
    · refine ⟨-1, x, y, ?_, ?_, hRel⟩
      · by_cases h0 : w < 0
        · rw [if_pos h0]
        · rw [if_neg h0, if_neg (show ¬ w ≤ (12 : Int32) from fun z => absurd (lt_of_nle (n := 12) (by decide) (hb.resolve_left h0)) (Int32.not_lt.mpr z))]
      · rw [show f_X6_in w 0 12 = some 0 from in_bad (k := 13) (by decide) hb]; rfl
    · rw [if_neg (nI_pos (by omega)), if_pos (show nI p ≤ (12 : Int32) from nI_le (b := 12) (by omega) (by decide)), show f_X6_in (nI p) 0 12 = some 1 from in_good (k := 13) (by decide) hp, ob_some, if_neg (show ¬ (1 : Int32) = 0 by decide)]
      by_cases h0 : cN c = 0
      · rw [cEmpty0 hRC.1 h0, if_pos (mn0 hM h0)]
        exact ⟨-4, x, y, rfl, rfl, hRel⟩
      · have h3 := okC_3 hC h0
        have htt := o1.2.2.1
        have h256 := pow_n hn
        have hpp := pow12 (pop_le (dThere (repN c E)))
        obtain ⟨a1, e1⟩ := cup_ok (a := ww_aside x) hRC.1 hC o1 h3 (by omega) (v := v) (p := p) (by omega) (by omega)
        obtain ⟨t, P, e2, hP⟩ := mlay_ok hM hN hC o1 h3 (by omega) (p := p) (by omega)
        have hlt := tot_lt (c := c) (d := repN c E) (g := fun j => if j ≤ v then 1 else 0) (p := p) (fun j => by split <;> omega) (by omega) hn htt
        have hsw := (term_tail (c := c) (fun j => if j ≤ v then 1 else 0) p (by omega) htt).trans (swap_ok c (repN c E) (fun j => if j ≤ v then 1 else 0) p (dThere (repN c E) + 1)).symm
        generalize sumN (termN c (repN c E) (fun j => if j ≤ v then 1 else 0) p) (2 ^ cN c) = A at e1 hlt hsw
        rw [cEmpty1 hRC.1 hC h3, if_neg (mn1 hM hC h3), ob_some, if_pos (show (0 : Int32) = 0 from rfl), e1, e2, ob_some, ob_some]
        dsimp only
        rw [ctell_ok (x := ww_set_aside x a1) (t := dThere (repN c E)) hRC.1.2.2.2.2.1 (by omega) hlt]
        have key : lp (f_X6_odds_L42 (pY y (lN (12 ^ popN (dThere (repN c E)))) t P) (nI v)) fuel ((0 : Int64), (0 : Int32)) = some (1, md_set_below (md_set_above (pY y (lN (12 ^ popN (dThere (repN c E)))) t P) (lN A / lN (Nat.gcd A (12 ^ popN (dThere (repN c E)))))) (lN (12 ^ popN (dThere (repN c E))) / lN (Nat.gcd A (12 ^ popN (dThere (repN c E)))))) := by
          have hbody : ∀ k, k ≤ v → k ≤ 12 → f_X6_odds_L42 (pY y (lN (12 ^ popN (dThere (repN c E)))) t P) (nI v) (lN (sumN (fun j => (if j ≤ v then 1 else 0) * partsN c (repN c E) p j (dThere (repN c E) + 1)) k), nI k) = some (.inl (lN (sumN (fun j => (if j ≤ v then 1 else 0) * partsN c (repN c E) p j (dThere (repN c E) + 1)) (k + 1)), nI (k + 1))) := by
            intro k hk1 hk2
            show f_X6_odds_B42 (pY y (lN (12 ^ popN (dThere (repN c E)))) t P) (nI v) (lN _) (nI k) = some (Sum.inl (lN (sumN (fun j => (if j ≤ v then 1 else 0) * partsN c (repN c E) p j (dThere (repN c E) + 1)) k + (if k ≤ v then 1 else 0) * partsN c (repN c E) p k (dThere (repN c E) + 1)), nI (k + 1)))
            unfold f_X6_odds_B42
            rw [if_neg (nI_nlt hk1 (by omega)), if_neg (show ¬ (12 : Int32) < nI k from nI_nlt (a := 12) hk2 (by decide)), gd_b (show k < 13 by omega) (by decide), ix_n (by omega), pY_f_parts, hP k (by omega), nm_eq, nI_1, if_pos hk1, Nat.one_mul, lN_add]
          have hend : ∀ k, k ≤ 21 → (v < k ∨ 12 < k) → sumN (fun j => (if j ≤ v then 1 else 0) * partsN c (repN c E) p j (dThere (repN c E) + 1)) k = A → f_X6_odds_L42 (pY y (lN (12 ^ popN (dThere (repN c E)))) t P) (nI v) (lN (sumN (fun j => (if j ≤ v then 1 else 0) * partsN c (repN c E) p j (dThere (repN c E) + 1)) k), nI k) = some (.inr (1, md_set_below (md_set_above (pY y (lN (12 ^ popN (dThere (repN c E)))) t P) (lN A / lN (Nat.gcd A (12 ^ popN (dThere (repN c E)))))) (lN (12 ^ popN (dThere (repN c E))) / lN (Nat.gcd A (12 ^ popN (dThere (repN c E))))))) := by
            intro k hk21 hk hA
            rw [hA]
            show f_X6_odds_B42 (pY y (lN (12 ^ popN (dThere (repN c E)))) t P) (nI v) (lN A) (nI k) = _
            unfold f_X6_odds_B42 f_X6_odds_J71
            rw [pY_f_whole, mgcd_ok hlt hpp.1 hpp.2]
            by_cases h1 : v < k
            · rw [if_pos (nI_lt h1 (by omega))]; rfl
            · rw [if_neg (nI_nlt (by omega) (by omega)), if_pos (show (12 : Int32) < nI k from nI_lt (a := 12) (by omega) (by omega))]; rfl
          by_cases hv12 : v ≤ 12
          · refine lp_for0 (fun k => (lN (sumN (fun j => (if j ≤ v then 1 else 0) * partsN c (repN c E) p j (dThere (repN c E) + 1)) k), nI k)) (v + 1) (fun k hk => hbody k (by omega) (by omega)) (hend (v + 1) (by omega) (by omega) ?_) rfl (by show v + 1 < 100000; omega)
            rw [hsw]
            have := sum_tail (f := fun j => (if j ≤ v then 1 else 0) * partsN c (repN c E) p j (dThere (repN c E) + 1)) (n := v + 1) (j := 13 - (v + 1)) (fun i h1 h2 => by rw [if_neg (by omega), Nat.zero_mul])
            rw [show v + 1 + (13 - (v + 1)) = 13 by omega] at this
            exact this.symm
          · exact lp_for0 (fun k => (lN (sumN (fun j => (if j ≤ v then 1 else 0) * partsN c (repN c E) p j (dThere (repN c E) + 1)) k), nI k)) 13 (fun k hk => hbody k (by omega) (by omega)) (hend 13 (by omega) (by omega) hsw.symm) rfl (by decide)
        rw [key]
        exact ⟨1, _, _, rfl, rfl, relQ (Rel_pY (Relw_aside hRel a1) _ t P)⟩
theorem s_mid : S_mid Rel := by
  intro x y h w
  have hRel := h
  obtain ⟨hT, hR, hX, c, E, hWE⟩ := h
  obtain ⟨hC, hE, hRC, hM, hd, hN, hL, hK⟩ := id hWE
  obtain ⟨o1, o2⟩ := okD_rep hC hE
  have h40 := hE.1
  have hn := okC_n hC
  unfold f_X5_mid f_X6_mid
  rcases num_cases w 13 (by decide) with hb | ⟨p, hp, rfl⟩
  · refine ⟨-1, x, y, ?_, ?_, hRel⟩
    · by_cases h0 : w < 0
      · rw [if_pos h0]
      · rw [if_neg h0, if_neg (show ¬ w ≤ (12 : Int32) from fun z => absurd (lt_of_nle (n := 12) (by decide) (hb.resolve_left h0)) (Int32.not_lt.mpr z))]
    · rw [show f_X6_in w 0 12 = some 0 from in_bad (k := 13) (by decide) hb]; rfl
  · rw [if_neg (nI_pos (by omega)), if_pos (show nI p ≤ (12 : Int32) from nI_le (b := 12) (by omega) (by decide)), show f_X6_in (nI p) 0 12 = some 1 from in_good (k := 13) (by decide) hp, ob_some, if_neg (show ¬ (1 : Int32) = 0 by decide)]
    by_cases h0 : cN c = 0
    · rw [cEmpty0 hRC.1 h0, if_pos (mn0 hM h0)]
      exact ⟨-4, x, y, rfl, rfl, hRel⟩
    · have h3 := okC_3 hC h0
      have htt := o1.2.2.1
      have h256 := pow_n hn
      have hpp := pow12 (pop_le (dThere (repN c E)))
      obtain ⟨a1, e1⟩ := cmid_ok (a := ww_aside x) hRC.1 hC o1 h3 (by omega) (p := p) (by omega)
      obtain ⟨t, P, e2, hP⟩ := mlay_ok hM hN hC o1 h3 (by omega) (p := p) (by omega)
      have hlt := tot_lt (c := c) (d := repN c E) (g := fun j => j) (p := p) (fun j => Nat.le_succ j) (by omega) hn htt
      have hsw := (term_tail (c := c) (fun j => j) p (by omega) htt).trans (swap_ok c (repN c E) (fun j => j) p (dThere (repN c E) + 1)).symm
      generalize sumN (termN c (repN c E) (fun j => j) p) (2 ^ cN c) = A at e1 hlt hsw
      rw [cEmpty1 hRC.1 hC h3, if_neg (mn1 hM hC h3), ob_some, if_pos (show (0 : Int32) = 0 from rfl), e1, e2, ob_some, ob_some]
      dsimp only
      rw [ctell_ok (x := ww_set_aside x a1) (t := dThere (repN c E)) hRC.1.2.2.2.2.1 (by omega) hlt]
      have key : lp (f_X6_mid_L32 (pY y (lN (12 ^ popN (dThere (repN c E)))) t P)) fuel ((0 : Int64), (1 : Int32)) = some (1, md_set_below (md_set_above (pY y (lN (12 ^ popN (dThere (repN c E)))) t P) (lN A / lN (Nat.gcd A (12 ^ popN (dThere (repN c E)))))) (lN (12 ^ popN (dThere (repN c E))) / lN (Nat.gcd A (12 ^ popN (dThere (repN c E)))))) := by
        have h1 : ((0 : Int64), (1 : Int32)) = (lN (sumN (fun j => j * partsN c (repN c E) p j (dThere (repN c E) + 1)) 1), nI 1) := by
          show _ = (lN (0 + 0 * partsN c (repN c E) p 0 (dThere (repN c E) + 1)), nI 1)
          rw [Nat.zero_mul]; rfl
        rw [h1]
        refine lp_for (fun k => (lN (sumN (fun j => j * partsN c (repN c E) p j (dThere (repN c E) + 1)) k), nI k)) 13 (fun k hk => ?_) ?_ 1 fuel (by omega) (by show 13 < 100000 + 1; omega)
        · show f_X6_mid_B32 (pY y (lN (12 ^ popN (dThere (repN c E)))) t P) (lN _) (nI k) = some (Sum.inl (lN (sumN (fun j => j * partsN c (repN c E) p j (dThere (repN c E) + 1)) k + k * partsN c (repN c E) p k (dThere (repN c E) + 1)), nI (k + 1)))
          unfold f_X6_mid_B32
          rw [if_neg (show ¬ (12 : Int32) < nI k from nI_nlt (a := 12) (by omega) (by decide)), gd_b (show k < 13 by omega) (by decide), ix_n (by omega), pY_f_parts, hP k (by omega), nm_eq, nI_1, nI_l (by omega), lN_mul, lN_add]
        · show f_X6_mid_B32 (pY y (lN (12 ^ popN (dThere (repN c E)))) t P) (lN (sumN (fun j => j * partsN c (repN c E) p j (dThere (repN c E) + 1)) 13)) (nI 13) = _
          rw [← hsw]
          unfold f_X6_mid_B32 f_X6_mid_J59
          rw [pY_f_whole, mgcd_ok hlt hpp.1 hpp.2, if_pos (show (12 : Int32) < nI 13 by decide)]; rfl
      rw [key]
      exact ⟨1, _, _, rfl, rfl, relQ (Rel_pY (Relw_aside hRel a1) _ t P)⟩
