/-! PURE SIDE: duel: the reference's table -/
theorem pick_comm (par : Bool) (a b : Nat) : pick par a b = pick par b a := by
  cases par
  · rw [pick_f, pick_f]; split <;> split <;> omega
  · rw [pick_t, pick_t]; split <;> split <;> omega
theorem pick_rot (par : Bool) (a b v : Nat) : pick par (pick par a b) v = pick par (pick par a v) b := by
  cases par
  · rw [pick_f, pick_f, pick_f, pick_f]
    repeat' split
    all_goals omega
  · rw [pick_t, pick_t, pick_t, pick_t]
    repeat' split
    all_goals omega
def mv (n : Nat) (par : Bool) (s : Nat × Nat) (i : Nat) : Option (Nat × Nat) := if i = 8 then some s else if i < n ∧ s.1.testBit i = par then some (mvS par s i) else none
def parN (k : Nat) : Bool := k % 2 == 0
def stN (n : Nat) (s0 : Nat × Nat) : Nat → Nat → Option (Nat × Nat)
  | 0, _ => some s0
  | k + 1, q => match stN n s0 k (q / 9) with
    | none => none
    | some s => mv n (parN k) s (q % 9)
theorem st_none {n : Nat} {s0 : Nat × Nat} {k q : Nat} (h : stN n s0 k (q / 9) = none) : stN n s0 (k + 1) q = none := by
  show (match stN n s0 k (q / 9) with | none => none | some s => mv n (parN k) s (q % 9)) = none
  rw [h]
theorem st_some {n : Nat} {s0 s : Nat × Nat} {k q : Nat} (h : stN n s0 k (q / 9) = some s) : stN n s0 (k + 1) q = mv n (parN k) s (q % 9) := by
  show (match stN n s0 k (q / 9) with | none => none | some s => mv n (parN k) s (q % 9)) = _
  rw [h]
theorem mv_ok {n : Nat} {par : Bool} {s s' : Nat × Nat} {i : Nat} (h1 : s.1 < 2 ^ n) (h2 : s.2 < 2 ^ n) (h : mv n par s i = some s') : s'.1 < 2 ^ n ∧ s'.2 < 2 ^ n := by
  unfold mv at h
  split at h
  · cases h; exact ⟨h1, h2⟩
  · split at h
    · rename_i hc
      cases h
      exact mvS_ok h1 h2 hc.1
    · cases h
theorem st_ok {n : Nat} {s0 : Nat × Nat} (h1 : s0.1 < 2 ^ n) (h2 : s0.2 < 2 ^ n) (k : Nat) : ∀ (q : Nat) (s : Nat × Nat), stN n s0 k q = some s → s.1 < 2 ^ n ∧ s.2 < 2 ^ n := by
  induction k with
  | zero =>
    intro q s h
    have h : some s0 = some s := h
    cases h
    exact ⟨h1, h2⟩
  | succ k ih =>
    intro q s h
    cases e : stN n s0 k (q / 9) with
    | none => rw [st_none e] at h; cases h
    | some u =>
      rw [st_some e] at h
      obtain ⟨u1, u2⟩ := ih _ _ e
      exact mv_ok u1 u2 h
/-! how the wheel stands then -/
def frD (d : Dyn) (s : Nat × Nat) : Dyn := (dRut d, dStand d, dDry d, s.1, fun i => if s.2.testBit i = true then 0 else dWear d i)
theorem frD_0 (d : Dyn) : frD d (dThere d, 0) = d := by
  have : (fun i => if (0 : Nat).testBit i = true then 0 else dWear d i) = dWear d := by
    funext i
    rw [if_neg (by rw [Nat.zero_testBit]; decide)]
  show (dRut d, dStand d, dDry d, dThere d, fun i => if (0 : Nat).testBit i = true then 0 else dWear d i) = d
  rw [this]
theorem mendS_eq (d : Dyn) (s k : Nat) : dRut (mendS d s k) = dRut d ∧ dStand (mendS d s k) = dStand d ∧ dDry (mendS d s k) = dDry d ∧ ∀ i, dWear (mendS d s k) i = if i < k ∧ s.testBit i = true then 0 else dWear d i := by
  induction k with
  | zero => exact ⟨rfl, rfl, rfl, fun i => by rw [if_neg (by omega)]; rfl⟩
  | succ k ih =>
    obtain ⟨i1, i2, i3, i4⟩ := ih
    show dRut (if s.testBit k = true then mendN (mendS d s k) k else mendS d s k) = dRut d ∧ dStand (if s.testBit k = true then mendN (mendS d s k) k else mendS d s k) = dStand d ∧ dDry (if s.testBit k = true then mendN (mendS d s k) k else mendS d s k) = dDry d ∧ ∀ i, dWear (if s.testBit k = true then mendN (mendS d s k) k else mendS d s k) i = _
    by_cases e : s.testBit k = true
    · rw [if_pos e]
      refine ⟨i1, i2, i3, fun i => ?_⟩
      show updN (dWear (mendS d s k)) k 0 i = _
      unfold updN
      by_cases ei : i = k
      · subst ei; rw [if_pos rfl, if_pos ⟨by omega, e⟩]
      · rw [if_neg ei, i4 i]
        by_cases hb : i < k ∧ s.testBit i = true
        · rw [if_pos hb, if_pos ⟨by omega, hb.2⟩]
        · rw [if_neg hb, if_neg (fun z => hb ⟨by omega, z.2⟩)]
    · rw [if_neg e]
      refine ⟨i1, i2, i3, fun i => ?_⟩
      rw [i4 i]
      by_cases hb : i < k ∧ s.testBit i = true
      · rw [if_pos hb, if_pos ⟨by omega, hb.2⟩]
      · rw [if_neg hb, if_neg]
        intro z
        by_cases ei : i = k
        · subst ei; exact e z.2
        · exact hb ⟨by omega, z.2⟩
theorem limW_fr {c : Cfg} {d : Dyn} {s : Nat × Nat} (h : s.2 < 2 ^ cN c) : limW c d s.1 s.2 = (limN c true (frD d s) 12).1 := by
  obtain ⟨i1, i2, i3, i4⟩ := mendS_eq d s.2 (cN c)
  have e : thereN (mendS d s.2 (cN c)) s.1 = frD d s := by
    unfold thereN frD
    rw [i1, i2, i3]
    have : dWear (mendS d s.2 (cN c)) = fun i => if s.2.testBit i = true then 0 else dWear d i := by
      funext i
      rw [i4 i]
      by_cases hb : s.2.testBit i = true
      · have hi : i < cN c := by
          apply Nat.lt_of_not_le
          intro hle
          have := Nat.testBit_lt_two_pow (Nat.lt_of_lt_of_le h (Nat.pow_le_pow_right (by decide : 2 > 0) hle))
          rw [this] at hb; cases hb
        rw [if_pos ⟨hi, hb⟩, if_pos hb]
      · rw [if_neg (fun z => hb z.2), if_neg hb]
    rw [this]
  unfold limW
  rw [e]
theorem okD_fr {c : Cfg} {d : Dyn} (hD : okD c d) {s : Nat × Nat} (h : s.1 < 2 ^ cN c) : okD c (frD d s) := by
  refine ⟨hD.1, hD.2.1, h, fun i hi => ?_⟩
  show (if s.2.testBit i = true then 0 else dWear d i) ≤ 30 ∧ (cN c ≤ i → (if s.2.testBit i = true then 0 else dWear d i) = 0)
  have := hD.2.2.2 i hi
  split
  · exact ⟨Nat.zero_le _, fun _ => rfl⟩
  · exact this
theorem RT_kn {f : Ar} {d : Dyn} {s : Nat × Nat} {i : Nat} (h : RT f 0 (frD d s)) (hi : i < 8) : RT (upd f 3 (f 3 &&& (jshl (1 : Int32) (nI i) ^^^ (-1 : Int32)))) 0 (frD d (mvS true s i)) := by
  obtain ⟨h0, h1, h2, h3, h4⟩ := h
  have h8 : 2 ^ i < 256 := Nat.lt_of_lt_of_le (Nat.pow_lt_pow_right (by decide) hi) (by decide : 2 ^ 8 ≤ 256)
  refine ⟨(upd_n (by decide)).trans h0, (upd_n (by decide)).trans h1, (upd_n (by decide)).trans h2, ?_, fun j hj => (upd_n (by omega)).trans (h4 j hj)⟩
  refine upd_s.trans ?_
  rw [show f 3 = nI s.1 from h3, show jshl (1 : Int32) (nI i) = _ from tb_shl i (by omega), df_i h8]
  rfl
theorem RT_put {f : Ar} {d : Dyn} {s : Nat × Nat} {i : Nat} (h : RT f 0 (frD d s)) (hi : i < 8) : ∃ g, f_X6_puts 12 f (nI i) = some g ∧ RT g 0 (frD d (mvS false s i)) := by
  obtain ⟨h0, h1, h2, h3, h4⟩ := h
  unfold f_X6_puts
  rw [gd_t (show inb (3 : Int32) 12 = true by decide), gd_t (show inb (3 : Int32) 12 = true by decide), gd4 hi, ix4 hi, show ix (3 : Int32) = 3 by decide]
  refine ⟨_, rfl, ?_, ?_, ?_, ?_, fun j hj => ?_⟩
  · rw [upd_n (by omega), upd_n (by decide)]; exact h0
  · rw [upd_n (by omega), upd_n (by decide)]; exact h1
  · rw [upd_n (by omega), upd_n (by decide)]; exact h2
  · rw [upd_n (by omega), upd_s, show f 3 = nI s.1 from h3, show jshl (1 : Int32) (nI i) = _ from tb_shl i (by omega), nI_or]
    rfl
  · rw [Nat.zero_add]
    show _ = nI (if (s.2 ||| 2 ^ i).testBit j = true then 0 else dWear d j)
    by_cases e : j = i
    · subst e
      rw [upd_s, if_pos (by rw [Nat.testBit_or, Nat.testBit_two_pow_self, Bool.or_true])]
      rfl
    · rw [upd_n (by omega), upd_n (by omega)]
      have h5 := h4 j hj
      rw [Nat.zero_add] at h5
      rw [Nat.testBit_or, Nat.testBit_two_pow_of_ne (fun z => e z.symm), Bool.or_false]
      exact h5
/-! one turn of the reference -/
theorem j119 {w : Md} {x1 x2 x3 x5 x6 : Int32} : f_X6_isMoved_J119 w x1 x2 x3 x5 x6 = some (Sum.inl (x3, 0, x5 + 1, w)) := by
  unfold f_X6_isMoved_J119 f_X6_isMoved_J120 f_X6_isMoved_J161 f_X6_isMoved_J184
  rw [if_pos (show (0 : Int32) = 0 from rfl), if_pos (show (0 : Int32) = 0 from rfl)]
theorem j115_skip {w : Md} {x1 x2 x3 x5 x6 : Int32} (h : md_n w ≤ x6) : f_X6_isMoved_J115 w x1 x2 x3 x5 x6 = some (Sum.inl (x3, 1, x5 + 1, w)) := by
  unfold f_X6_isMoved_J115 f_X6_isMoved_J120 f_X6_isMoved_J161 f_X6_isMoved_J184
  rw [if_neg (show ¬ (1 : Int32) = 0 by decide), if_pos h, if_neg (show ¬ (1 : Int32) = 0 by decide), if_pos h]
theorem j115_kn {w : Md} {x1 x2 x3 x5 x6 : Int32} (h : ¬ md_n w ≤ x6) (hp : jrem x5 (2 : Int32) = 0) : f_X6_isMoved_J115 w x1 x2 x3 x5 x6 = some (Sum.inl (x3, 1, x5 + 1, md_set_tried w (upd (md_tried w) 3 ((md_tried w 3) &&& ((jshl (1 : Int32) x6) ^^^ (-1 : Int32)))))) := by
  unfold f_X6_isMoved_J115 f_X6_isMoved_J120 f_X6_isMoved_J184
  rw [if_neg (show ¬ (1 : Int32) = 0 by decide), if_neg h, if_pos hp]
theorem j115_put {w : Md} {x1 x2 x3 x5 x6 : Int32} {g : Ar} (h : ¬ md_n w ≤ x6) (hp : ¬ jrem x5 (2 : Int32) = 0) (e : f_X6_puts 12 (md_tried w) x6 = some g) : f_X6_isMoved_J115 w x1 x2 x3 x5 x6 = some (Sum.inl (x3, 1, x5 + 1, md_set_tried w g)) := by
  unfold f_X6_isMoved_J115 f_X6_isMoved_J120 f_X6_isMoved_J161 f_X6_isMoved_J184
  rw [if_neg (show ¬ (1 : Int32) = 0 by decide), if_neg h, if_neg hp, if_neg (show ¬ (1 : Int32) = 0 by decide), if_neg h, e]
  rfl
theorem j75_0 {w : Md} {x1 x2 x3 x5 x6 t0 : Int32} : f_X6_isMoved_J75 w x1 x2 x3 (nI 0) x5 x6 t0 = some (Sum.inl (x3, 0, x5 + 1, w)) := by
  unfold f_X6_isMoved_J75
  rw [if_pos (show nI 0 = 0 from nI_0), j119]
theorem has_any (x k : Int32) : ∃ b, f_X6_has x k = some b := by
  unfold f_X6_has
  split
  · exact ⟨_, rfl⟩
  · exact ⟨_, rfl⟩
theorem par_j {j : Nat} (hj : j < 100) : (jrem (nI j) (2 : Int32) = 0) ↔ parN j = true := by
  have h2 : jrem (nI j) (2 : Int32) = nI (j % 2) := pk_rem (by omega) (d := 2) (by decide) (by decide)
  rw [h2]
  unfold parN
  rcases (by omega : j % 2 = 0 ∨ j % 2 = 1) with e | e <;> rw [e] <;> decide
/-- one digit: a move that may be, or none -/
theorem digit_ok {y : Md} {c : Cfg} {d : Dyn} (hM : RM y c) (hn : cN c ≤ 8) {t O : Ar} {s : Nat × Nat} (hs : s.1 < 2 ^ cN c) (hT : RT t 0 (frD d s)) {i j : Nat} (hi : i < 9) (hj : j < 100) (x1 x2 x3 : Int32) : ∃ t', (if md_n (oY y t O) ≤ nI i then f_X6_isMoved_J74 (oY y t O) x1 x2 x3 (nI 1) (nI j) (nI i) else Option.bind (f_X6_has (md_tried (oY y t O) 3) (nI i)) (fun q64 => if q64 = 0 then f_X6_isMoved_J74 (oY y t O) x1 x2 x3 (nI 1) (nI j) (nI i) else f_X6_isMoved_J75 (oY y t O) x1 x2 x3 (nI 1) (nI j) (nI i) (1 : Int32))) = some (Sum.inl (x3, nI (if (mv (cN c) (parN j) s i).isSome then 1 else 0), nI (j + 1), oY y t' O)) ∧ ∀ s', mv (cN c) (parN j) s i = some s' → RT t' 0 (frD d s') := by
  have h256 := pow_n hn
  have hmn : ∀ t : Ar, md_n (oY y t O) = nI (cN c) := fun _ => hM.1
  have h3 : t 3 = nI s.1 := hT.2.2.2.1
  rw [hmn, oY_f_tried, h3]
  by_cases h8 : i = 8
  · subst h8
    have hle : nI (cN c) ≤ nI 8 := nI_le hn (by decide)
    rw [if_pos hle]
    unfold f_X6_isMoved_J74 f_X6_isMoved_J75
    rw [if_neg (show ¬ nI 1 = 0 by decide), if_pos (show nI 8 = 8 by decide), j115_skip (by rw [hmn]; exact hle), nI_1]
    refine ⟨t, rfl, fun s' h => ?_⟩
    have h : some s = some s' := h
    cases h
    exact hT
  · by_cases hin : i < cN c
    · have hnle : ¬ nI (cN c) ≤ nI i := nI_ge hin (by omega)
      have h8' : ¬ nI i = (8 : Int32) := fun z => h8 ((nI_eq (b := 8) (by omega) (by decide)).mp z)
      have hJ : ∀ b : Bool, s.1.testBit i = b → ∃ t', f_X6_isMoved_J75 (oY y t O) x1 x2 x3 (nI 1) (nI j) (nI i) (if b then 1 else 0) = some (Sum.inl (x3, nI (if (mv (cN c) (parN j) s i).isSome then 1 else 0), nI (j + 1), oY y t' O)) ∧ ∀ s', mv (cN c) (parN j) s i = some s' → RT t' 0 (frD d s') := by
        intro b hb
        have hmv : mv (cN c) (parN j) s i = if b = parN j then some (mvS (parN j) s i) else none := by
          unfold mv
          rw [if_neg h8, hb]
          by_cases e : b = parN j
          · rw [if_pos ⟨hin, e⟩, if_pos e]
          · rw [if_neg (fun z => e z.2), if_neg e]
        rw [hmv]
        unfold f_X6_isMoved_J75 f_X6_isMoved_J112
        rw [if_neg (show ¬ nI 1 = 0 by decide), if_neg h8', hmn, if_neg hnle]
        by_cases hp : parN j = true
        · rw [if_pos ((par_j hj).mpr hp), hp]
          cases b
          · rw [if_neg (by decide), j119, nI_1]
            exact ⟨t, rfl, fun s' h => by cases h⟩
          · rw [if_pos (by decide), j115_kn (by rw [hmn]; exact hnle) ((par_j hj).mpr hp), nI_1, oY_f_tried, oY_s_tried]
            refine ⟨_, rfl, fun s' h => ?_⟩
            have h : some (mvS true s i) = some s' := h
            cases h
            exact RT_kn hT (by omega)
        · have hp' : parN j = false := by simpa using hp
          rw [if_neg (fun z => hp ((par_j hj).mp z)), hp']
          cases b
          · obtain ⟨g, e1, e2⟩ := RT_put hT (show i < 8 by omega)
            rw [if_pos (by decide), j115_put (by rw [hmn]; exact hnle) (fun z => hp ((par_j hj).mp z)) (by rw [oY_f_tried]; exact e1), nI_1, oY_s_tried]
            refine ⟨_, rfl, fun s' h => ?_⟩
            have h : some (mvS false s i) = some s' := h
            cases h
            exact e2
          · rw [if_neg (by decide), j119, nI_1]
            exact ⟨t, rfl, fun s' h => by cases h⟩
      rw [if_neg hnle, has_ok (by omega) (show i < 8 by omega), ob_some]
      unfold f_X6_isMoved_J74
      by_cases hbit : s.1.testBit i = true
      · rw [if_pos hbit, if_neg (show ¬ nI 1 = 0 by decide)]
        exact hJ true hbit
      · rw [if_neg hbit, if_pos (show nI 0 = 0 from nI_0)]
        exact hJ false (by simpa using hbit)
    · have hle : nI (cN c) ≤ nI i := nI_le (by omega) (by omega)
      have hmv : mv (cN c) (parN j) s i = none := by
        unfold mv
        rw [if_neg h8, if_neg (fun z => hin z.1)]
      rw [hmv, if_pos hle]
      unfold f_X6_isMoved_J74 f_X6_isMoved_J75
      rw [if_neg (show ¬ nI 1 = 0 by decide), if_neg (show ¬ nI i = (8 : Int32) from fun z => h8 ((nI_eq (b := 8) (by omega) (by decide)).mp z)), hmn, if_pos hle, j119, nI_1]
      exact ⟨t, rfl, fun s' h => by cases h⟩
theorem p9 {T : Nat} (h : T ≤ 4) : 9 ^ T ≤ 6561 ∧ 0 < 9 ^ T := ⟨Nat.le_trans (Nat.pow_le_pow_right (by decide) h) (by decide), Nat.pow_pos (by decide)⟩
theorem moved_ok {y : Md} {c : Cfg} {d : Dyn} (hM : RM y c) (hn : cN c ≤ 8) {s0 : Nat × Nat} (h1 : s0.1 < 2 ^ cN c) (h2 : s0.2 < 2 ^ cN c) {t0 O : Ar} (hT : RT t0 0 (frD d s0)) {T A : Nat} (hT4 : T ≤ 4) (hA : A < 9 ^ T) : ∃ t, f_X6_isMoved (oY y t0 O) (nI A) (nI T) = some (nI (if (stN (cN c) s0 T A).isSome then 1 else 0), oY y t O) ∧ ∀ s, stN (cN c) s0 T A = some s → RT t 0 (frD d s) := by
  have h9 := p9 hT4
  have key : ∃ o, f_X6_isMoved_J22 (oY y t0 O) (nI A) (nI T) (nI (9 ^ (T - 1))) = some o ∧ ∃ t, o = (nI (if (stN (cN c) s0 T A).isSome then 1 else 0), oY y t O) ∧ ∀ s, stN (cN c) s0 T A = some s → RT t 0 (frD d s) := by
    unfold f_X6_isMoved_J22
    refine lp_e (fun j st => ∃ t b, st = (b, nI (if (stN (cN c) s0 j (A / 9 ^ (T - j))).isSome then 1 else 0), nI j, oY y t O) ∧ (j < T → b = nI (9 ^ (T - j - 1))) ∧ ∀ s, stN (cN c) s0 j (A / 9 ^ (T - j)) = some s → RT t 0 (frD d s)) _ T ⟨t0, _, rfl, fun _ => rfl, fun s h => ?_⟩ (by omega) ?_ ?_
    · have h : some s0 = some s := h
      cases h
      exact hT
    · rintro j st hj ⟨t, b, rfl, hb, hst⟩
      obtain rfl := hb hj
      have hq := p9 (T := T - j - 1) (by omega)
      have hQ : A / 9 ^ (T - j - 1) / 9 = A / 9 ^ (T - j) := by
        rw [Nat.div_div_eq_div_mul, ← Nat.pow_succ, show (T - j - 1).succ = T - j by omega]
      have hAb : A < 2 ^ 31 := by omega
      have hd1 : nI A / nI (9 ^ (T - j - 1)) = nI (A / 9 ^ (T - j - 1)) := pk_div hAb hq.2 (by omega)
      have hd2 : A / 9 ^ (T - j - 1) < 2 ^ 31 := Nat.lt_of_le_of_lt (Nat.div_le_self _ _) hAb
      have hd3 : jrem (nI (A / 9 ^ (T - j - 1))) (9 : Int32) = nI (A / 9 ^ (T - j - 1) % 9) := pk_rem hd2 (d := 9) (by decide) (by decide)
      have hd4 : nI (9 ^ (T - j - 1)) / (9 : Int32) = nI (9 ^ (T - j - 1) / 9) := pk_div (d := 9) (by omega) (by decide) (by decide)
      have hb2 : j + 1 < T → nI (9 ^ (T - j - 1) / 9) = nI (9 ^ (T - (j + 1) - 1)) := by
        intro h
        rw [show T - j - 1 = T - (j + 1) - 1 + 1 by omega, Nat.pow_succ, Nat.mul_div_cancel _ (by decide)]
      have hdg : A / 9 ^ (T - j - 1) % 9 < 9 := Nat.mod_lt _ (by decide)
      show ∃ s1, f_X6_isMoved_B28 (nI A) (nI T) (nI (9 ^ (T - j - 1))) (nI _) (nI j) (oY y t O) = _ ∧ ∃ t b, s1 = (b, nI (if (stN (cN c) s0 (j + 1) (A / 9 ^ (T - (j + 1)))).isSome then 1 else 0), nI (j + 1), oY y t O) ∧ (j + 1 < T → b = nI (9 ^ (T - (j + 1) - 1))) ∧ ∀ s, stN (cN c) s0 (j + 1) (A / 9 ^ (T - (j + 1))) = some s → RT t 0 (frD d s)
      rw [show T - (j + 1) = T - j - 1 by omega]
      unfold f_X6_isMoved_B28
      rw [if_neg (nI_ge hj (by omega)), gd_t (show decide (¬ nI (9 ^ (T - j - 1)) = 0) = true from decide_eq_true (nI_ne0 hq.2 (by omega))), hd1, hd3, hd4, nm_eq]
      rw [← hQ] at hst ⊢
      cases e : stN (cN c) s0 j (A / 9 ^ (T - j - 1) / 9) with
      | none =>
        rw [st_none e]
        refine ⟨(nI (9 ^ (T - j - 1) / 9), 0, nI (j + 1), oY y t O), ?_, t, _, rfl, hb2, fun s h => by cases h⟩
        show (if md_n (oY y t O) ≤ nI (A / 9 ^ (T - j - 1) % 9) then f_X6_isMoved_J74 (oY y t O) (nI A) (nI T) (nI (9 ^ (T - j - 1) / 9)) (nI 0) (nI j) (nI (A / 9 ^ (T - j - 1) % 9)) else Option.bind (f_X6_has (md_tried (oY y t O) 3) (nI (A / 9 ^ (T - j - 1) % 9))) (fun q64 => if q64 = 0 then f_X6_isMoved_J74 (oY y t O) (nI A) (nI T) (nI (9 ^ (T - j - 1) / 9)) (nI 0) (nI j) (nI (A / 9 ^ (T - j - 1) % 9)) else f_X6_isMoved_J75 (oY y t O) (nI A) (nI T) (nI (9 ^ (T - j - 1) / 9)) (nI 0) (nI j) (nI (A / 9 ^ (T - j - 1) % 9)) (1 : Int32))) = _
        obtain ⟨b0, eb⟩ := has_any (md_tried (oY y t O) 3) (nI (A / 9 ^ (T - j - 1) % 9))
        unfold f_X6_isMoved_J74
        rw [eb, ob_some, j75_0, j75_0, nI_1]
        split
        · rfl
        · split <;> rfl
      | some s =>
        rw [st_some e]
        obtain ⟨u1, u2⟩ := st_ok h1 h2 j _ s e
        obtain ⟨t', g1, g2⟩ := digit_ok hM hn u1 (hst s e) hdg (show j < 100 by omega) (nI A) (nI T) (nI (9 ^ (T - j - 1) / 9))
        exact ⟨_, g1, t', _, rfl, hb2, g2⟩
    · rintro st ⟨t, b, rfl, hb, hst⟩
      rw [Nat.sub_self, Nat.pow_zero, Nat.div_one] at hst ⊢
      refine ⟨_, ?_, t, rfl, hst⟩
      show f_X6_isMoved_B28 (nI A) (nI T) b (nI _) (nI T) (oY y t O) = _
      unfold f_X6_isMoved_B28
      rw [if_pos (nI_le (Nat.le_refl _) (by omega)), gd_t (show isB (nI (if (stN (cN c) s0 T A).isSome = true then 1 else 0)) = true by split <;> rfl)]
      rfl
  obtain ⟨o, e, t, rfl, h⟩ := key
  refine ⟨t, ?_, h⟩
  unfold f_X6_isMoved
  refine lp_for0 (fun k => (nI (9 ^ k), nI (k + 1))) (T - 1) (fun k hk => ?_) ?_ rfl (by show T - 1 < 100000; omega)
  · show f_X6_isMoved_B5 (oY y t0 O) (nI A) (nI T) (nI (9 ^ k)) (nI (k + 1)) = some (Sum.inl (nI (9 ^ (k + 1)), nI (k + 1 + 1)))
    unfold f_X6_isMoved_B5
    rw [if_neg (nI_ge (by omega) (by omega)), nI_1, show nI (9 ^ k) * (9 : Int32) = nI (9 ^ k * 9) from pk_mul _ 9, Nat.pow_succ]
  · show f_X6_isMoved_B5 (oY y t0 O) (nI A) (nI T) (nI (9 ^ (T - 1))) (nI (T - 1 + 1)) = _
    unfold f_X6_isMoved_B5
    rw [if_pos (nI_le (by omega) (by omega)), e]; rfl
/-! the table, level by level -/
def valT (c : Cfg) (d : Dyn) (T j q : Nat) : Nat := match stN (cN c) (dThere d, 0) j q with
  | none => 1000000
  | some s => valN c d (T - j) (parN j) s
theorem valT_n {c : Cfg} {d : Dyn} {T j q : Nat} (h : stN (cN c) (dThere d, 0) j q = none) : valT c d T j q = 1000000 := by
  unfold valT
  rw [h]
theorem valT_s {c : Cfg} {d : Dyn} {T j q : Nat} {s : Nat × Nat} (h : stN (cN c) (dThere d, 0) j q = some s) : valT c d T j q = valN c d (T - j) (parN j) s := by
  unfold valT
  rw [h]
theorem valT_le (c : Cfg) (d : Dyn) (T j q : Nat) : valT c d T j q ≤ 1000000 := by
  cases h : stN (cN c) (dThere d, 0) j q with
  | none => rw [valT_n h]; exact Nat.le_refl _
  | some s => rw [valT_s h]; have := val_le c d (T - j) (parN j) s; omega
def bestN (par : Bool) (g : Nat → Nat) : Nat → Nat
  | 0 => 1000000
  | k + 1 => if g k = 1000000 then bestN par g k else if bestN par g k = 1000000 then g k else pick par (bestN par g k) (g k)
theorem best_succ (par : Bool) (g : Nat → Nat) (k : Nat) : bestN par g (k + 1) = if g k = 1000000 then bestN par g k else if bestN par g k = 1000000 then g k else pick par (bestN par g k) (g k) := rfl
theorem best_le {par : Bool} {g : Nat → Nat} (h : ∀ k, g k ≤ 1000000) (k : Nat) : bestN par g k ≤ 1000000 := by
  induction k with
  | zero => exact Nat.le_refl _
  | succ k ih =>
    rw [best_succ]
    split
    · exact ih
    · split
      · exact h k
      · exact pick_le ih (h k)
theorem best_none {par : Bool} {g : Nat → Nat} {a : Nat} (j : Nat) (h : ∀ k, a ≤ k → k < a + j → g k = 1000000) : bestN par g (a + j) = bestN par g a := by
  induction j with
  | zero => rfl
  | succ j ih =>
    show bestN par g (a + j + 1) = _
    rw [best_succ, if_pos (h (a + j) (by omega) (by omega)), ih (fun k h1 h2 => h k h1 (by omega))]
theorem best_fold {par : Bool} {g : Nat → Nat} {o : Nat → Option Nat} {V n : Nat} (hv : ∀ k v, o k = some v → v ≤ 12) (hs : ∀ k v, k < n → o k = some v → g k = v) (hn : ∀ k, k < n → o k = none → g k = 1000000) (k : Nat) (hk : k ≤ n) : (bestN par g k = 1000000 ∧ foldM par o V k = V) ∨ (bestN par g k ≤ 12 ∧ foldM par o V k = pick par (bestN par g k) V) := by
  induction k with
  | zero => exact Or.inl ⟨rfl, rfl⟩
  | succ k ih =>
    have ih := ih (by omega)
    rw [best_succ]
    cases e : o k with
    | none =>
      rw [if_pos (hn k (by omega) e), foldM_none e]
      exact ih
    | some v =>
      have e1 := hs k v (by omega) e
      have e2 := hv k v e
      rw [foldM_some e, e1, if_neg (by omega)]
      rcases ih with ⟨i1, i2⟩ | ⟨i1, i2⟩
      · rw [if_pos i1, i2]
        exact Or.inr ⟨e2, pick_comm par V v⟩
      · rw [if_neg (by omega), i2]
        exact Or.inr ⟨pick_le i1 e2, pick_rot par _ V v⟩
theorem level_ok {c : Cfg} {d : Dyn} (hn8 : cN c ≤ 8) {T j : Nat} (hj : j < T) (q : Nat) : bestN (parN j) (fun k => valT c d T (j + 1) (9 * q + k)) 9 = valT c d T j q := by
  have hdv : ∀ k, k < 9 → (9 * q + k) / 9 = q ∧ (9 * q + k) % 9 = k := fun k hk => by omega
  cases e : stN (cN c) (dThere d, 0) j q with
  | none =>
    rw [valT_n e]
    have := best_none (par := parN j) (g := fun k => valT c d T (j + 1) (9 * q + k)) (a := 0) 9 (fun k _ hk => by
      refine valT_n (st_none ?_)
      rw [(hdv k (by omega)).1]; exact e)
    rw [Nat.zero_add] at this
    exact this
  | some s =>
    rw [valT_s e, show T - j = T - (j + 1) + 1 by omega]
    have hpar : parN (j + 1) = !parN j := by
      unfold parN
      rcases (by omega : j % 2 = 0 ∨ j % 2 = 1) with h | h
      · rw [h, show (j + 1) % 2 = 1 by omega]; rfl
      · rw [h, show (j + 1) % 2 = 0 by omega]; rfl
    have hst : ∀ k, k < 9 → stN (cN c) (dThere d, 0) (j + 1) (9 * q + k) = mv (cN c) (parN j) s k := by
      intro k hk
      rw [st_some (s := s) (by rw [(hdv k hk).1]; exact e), (hdv k hk).2]
    have hg : ∀ k s', k < 9 → mv (cN c) (parN j) s k = some s' → valT c d T (j + 1) (9 * q + k) = valN c d (T - (j + 1)) (!parN j) s' := by
      intro k s' hk h
      rw [valT_s ((hst k hk).trans h), hpar]
    have hg0 : ∀ k, k < 9 → mv (cN c) (parN j) s k = none → valT c d T (j + 1) (9 * q + k) = 1000000 := fun k hk h => valT_n ((hst k hk).trans h)
    have h1 := best_fold (par := parN j) (g := fun k => valT c d T (j + 1) (9 * q + k)) (o := fun i => if s.1.testBit i = parN j then some (valN c d (T - (j + 1)) (!parN j) (mvS (parN j) s i)) else none) (V := valN c d (T - (j + 1)) (!parN j) s) (n := cN c)
      (fun k v h => by
        by_cases hb : s.1.testBit k = parN j
        · rw [if_pos hb] at h; cases h; exact val_le _ _ _ _ _
        · rw [if_neg hb] at h; cases h)
      (fun k v hk h => by
        by_cases hb : s.1.testBit k = parN j
        · rw [if_pos hb] at h
          cases h
          refine hg k _ (by omega) ?_
          unfold mv
          rw [if_neg (by omega), if_pos ⟨hk, hb⟩]
        · rw [if_neg hb] at h; cases h)
      (fun k hk h => by
        by_cases hb : s.1.testBit k = parN j
        · rw [if_pos hb] at h; cases h
        · refine hg0 k (by omega) ?_
          unfold mv
          rw [if_neg (by omega), if_neg (fun z => hb z.2)])
      (cN c) (Nat.le_refl _)
    have h2 := best_none (par := parN j) (g := fun k => valT c d T (j + 1) (9 * q + k)) (a := cN c) (8 - cN c) (fun k ha hb => by
      refine hg0 k (by omega) ?_
      unfold mv
      rw [if_neg (by omega), if_neg (fun z => by omega)])
    rw [show cN c + (8 - cN c) = 8 by omega] at h2
    have h8 : valT c d T (j + 1) (9 * q + 8) = valN c d (T - (j + 1)) (!parN j) s := hg 8 s (by omega) rfl
    have hv := val_le c d (T - (j + 1)) (!parN j) s
    show bestN (parN j) (fun k => valT c d T (j + 1) (9 * q + k)) (8 + 1) = foldM (parN j) (fun i => if s.1.testBit i = parN j then some (valN c d (T - (j + 1)) (!parN j) (mvS (parN j) s i)) else none) (valN c d (T - (j + 1)) (!parN j) s) (cN c)
    rw [best_succ, h2, h8, if_neg (by omega)]
    rcases h1 with ⟨i1, i2⟩ | ⟨i1, i2⟩
    · rw [if_pos i1, i2]
    · rw [if_neg (by omega), i2]
