/-! PURE SIDE: loops by an invariant; literals; tables of bits -/
theorem lp_inv {σ ρ : Type} {body : σ → Option (σ ⊕ ρ)} (I : Nat → σ → Prop) (Q : ρ → Prop) (N : Nat) (step : ∀ k s, k ≤ N → I k s → (k < N ∧ ∃ t, body s = some (.inl t) ∧ I (k + 1) t) ∨ ∃ o, body s = some (.inr o) ∧ Q o) : ∀ (n k : Nat) (s : σ), k ≤ N → N < n + k → I k s → ∃ o, lp body n s = some o ∧ Q o := by
  intro n
  induction n with
  | zero => intro k s h1 h2; omega
  | succ n ih =>
    intro k s h1 h2 hI
    rcases step k s h1 hI with ⟨hk, t, e, hI'⟩ | ⟨o, e, hQ⟩
    · obtain ⟨o, e2, hQ⟩ := ih (k + 1) t (by omega) (by omega) hI'
      exact ⟨o, (lp_go e).trans e2, hQ⟩
    · exact ⟨o, lp_stop e, hQ⟩
theorem lp_i {σ ρ : Type} {body : σ → Option (σ ⊕ ρ)} (I : Nat → σ → Prop) (Q : ρ → Prop) (N : Nat) {s : σ} (h0 : I 0 s) (hN : N < 100000) (step : ∀ k s, k ≤ N → I k s → (k < N ∧ ∃ t, body s = some (.inl t) ∧ I (k + 1) t) ∨ ∃ o, body s = some (.inr o) ∧ Q o) : ∃ o, lp body fuel s = some o ∧ Q o := lp_inv I Q N step fuel 0 s (Nat.zero_le N) hN h0
/-- a loop that goes on to N, its end -/
theorem lp_e {σ ρ : Type} {body : σ → Option (σ ⊕ ρ)} (I : Nat → σ → Prop) (Q : ρ → Prop) (N : Nat) {s : σ} (h0 : I 0 s) (hN : N < 100000) (step : ∀ k s, k < N → I k s → ∃ t, body s = some (.inl t) ∧ I (k + 1) t) (stop : ∀ s, I N s → ∃ o, body s = some (.inr o) ∧ Q o) : ∃ o, lp body fuel s = some o ∧ Q o := by
  refine lp_i I Q N h0 hN (fun k s hk hI => ?_)
  by_cases e : k = N
  · subst e; exact Or.inr (stop s hI)
  · exact Or.inl ⟨by omega, step k s (by omega) hI⟩
theorem li0 : (0 : Int32) = nI 0 := rfl
theorem li1 : (1 : Int32) = nI 1 := rfl
theorem li2 : (2 : Int32) = nI 2 := rfl
theorem li3 : (3 : Int32) = nI 3 := rfl
theorem li4 : (4 : Int32) = nI 4 := rfl
theorem li5 : (5 : Int32) = nI 5 := rfl
theorem li6 : (6 : Int32) = nI 6 := rfl
theorem li7 : (7 : Int32) = nI 7 := rfl
theorem li8 : (8 : Int32) = nI 8 := rfl
theorem li9 : (9 : Int32) = nI 9 := rfl
theorem li10 : (10 : Int32) = nI 10 := rfl
theorem li12 : (12 : Int32) = nI 12 := rfl
theorem li13 : (13 : Int32) = nI 13 := rfl
theorem li20 : (20 : Int32) = nI 20 := rfl
theorem li21 : (21 : Int32) = nI 21 := rfl
theorem li30 : (30 : Int32) = nI 30 := rfl
theorem li32 : (32 : Int32) = nI 32 := rfl
theorem li40 : (40 : Int32) = nI 40 := rfl
theorem li48 : (48 : Int32) = nI 48 := rfl
theorem li60 : (60 : Int32) = nI 60 := rfl
theorem li63 : (63 : Int32) = nI 63 := rfl
theorem li100 : (100 : Int32) = nI 100 := rfl
theorem li114 : (114 : Int32) = nI 114 := rfl
theorem li492 : (492 : Int32) = nI 492 := rfl
theorem li1000 : (1000 : Int32) = nI 1000 := rfl
theorem ofn {k : Nat} : Int32.ofNat k = nI k := rfl
theorem nm_eq {α β : Type} (e : α) (f : α → β) : nm e f = f e := rfl
theorem ob_some {α β : Type} (a : α) (f : α → Option β) : Option.bind (some a) f = f a := rfl
theorem om_some {α β : Type} (a : α) (f : α → β) : Option.map f (some a) = some (f a) := rfl
theorem gd_b {α : Type} {j n : Nat} {k : Option α} (h : j < n) (hn : n < 2 ^ 31) : gd (inb (nI j) n) k = k := gd_t (inb_n h hn)
theorem gd_B0 {α : Type} {k : Option α} : gd (isB (nI 0)) k = k := rfl
theorem gd_B1 {α : Type} {k : Option α} : gd (isB (nI 1)) k = k := rfl
theorem nI_mm {k j : Nat} (hk : k < 2 ^ 31) (h0 : 0 < j) (hj : j < 2 ^ 31) : (nI k = -nI j) = False := by
  apply eq_false
  intro e
  have h1 : nI k + nI j = nI 0 := by
    rw [e]
    exact Int32.add_left_neg (nI j)
  rw [nI_add] at h1
  have h2 : (nI (k + j)).toBitVec.toNat = (nI 0).toBitVec.toNat := by rw [h1]
  rw [pk_tn (by omega), pk_tn (by omega)] at h2
  omega
/-- bits -/
theorem nI_and (a b : Nat) : nI a &&& nI b = nI (a &&& b) := by
  show Int32.ofNat a &&& Int32.ofNat b = Int32.ofNat (a &&& b)
  apply Int32.toBitVec_inj.mp
  show BitVec.ofNat 32 a &&& BitVec.ofNat 32 b = BitVec.ofNat 32 (a &&& b)
  rw [BitVec.ofNat_and]
theorem nI_or (a b : Nat) : nI a ||| nI b = nI (a ||| b) := by
  apply Int32.toBitVec_inj.mp
  show BitVec.ofNat 32 a ||| BitVec.ofNat 32 b = BitVec.ofNat 32 (a ||| b)
  rw [BitVec.ofNat_or]
theorem and7 {r : Nat} (h : r < 2 ^ 32) : nI r &&& nI 7 = nI (r % 8) := pk_andN h 3 (by decide)
theorem and1 {r : Nat} (h : r < 2 ^ 32) : nI r &&& nI 1 = nI (r % 2) := pk_andN h 1 (by decide)
set_option maxRecDepth 20000 in
theorem tb_has0 : ∀ t, t < 256 → ∀ i, i < 8 → jshr (nI t) (nI i) &&& nI 1 = nI (if t.testBit i then 1 else 0) := by decide +kernel
set_option maxRecDepth 20000 in
theorem tb_knock : ∀ t, t < 256 → ∀ i, i < 8 → nI t &&& (jshl (nI 1) (nI i) ^^^ -nI 1) = nI (if t.testBit i then t - 2 ^ i else t) := by decide +kernel
set_option maxRecDepth 20000 in
theorem tb_mend : ∀ t, t < 256 → ∀ i, i < 8 → nI t ||| jshl (nI 1) (nI i) = nI (if t.testBit i then t else t + 2 ^ i) := by decide +kernel
theorem tb_shl : ∀ n, n < 31 → jshl (nI 1) (nI n) = nI (2 ^ n) := by decide +kernel
theorem tb_all : ∀ n, n < 31 → jshl (nI 1) (nI n) - nI 1 = nI (2 ^ n - 1) := by decide +kernel
set_option maxRecDepth 20000 in
theorem tb_gone : ∀ n, n < 9 → ∀ t, t < 2 ^ n → nI (2 ^ n - 1) &&& (nI t ^^^ -nI 1) = nI (2 ^ n - 1 - t) := by decide +kernel
set_option maxRecDepth 20000 in
theorem tb_over : ∀ n, n < 9 → ∀ g, g < 2 ^ n → (if nI g = nI 0 then some (nI 0) else if nI g &&& (jshl (nI g) (nI 1) ||| jshr (nI g) (nI n - nI 1)) = nI 0 then some (nI 0) else some (nI 1)) = some (nI (if overN n (2 ^ n - 1 - g) then 1 else 0)) := by decide +kernel
set_option maxRecDepth 20000 in
theorem tb_jmax : ∀ s, s < 10 → ∀ w, w < 31 → jmax (nI 0) (nI (2 * s) - nI w) = nI (2 * s - w) := by decide +kernel
set_option maxRecDepth 20000 in
theorem tb_above : ∀ s, s < 10 → ∀ w, w < 31 → f_X6_above0 (nI (2 * s) - nI w) = some (nI (2 * s - w)) := by decide +kernel
set_option maxRecDepth 20000 in
theorem tb_down : ∀ n, n < 9 → ∀ t, t < 2 ^ n → ∀ i, i < n → (if t.testBit i then t - 2 ^ i else t) < 2 ^ n ∧ (if t.testBit i then t else t + 2 ^ i) < 2 ^ n := by decide +kernel
def popN (s : Nat) : Nat := (List.range 8).countP (fun i => s.testBit i)
set_option maxRecDepth 20000 in
theorem tb_pop : ∀ s, s < 256 → f_J6_bitCount_0f7a4 (nI s) = some (nI (popN s)) := by decide +kernel
set_option maxRecDepth 20000 in
theorem tb_bits : ∀ s, s < 256 → f_X6_bits (nI s) = some (nI (popN s)) := by decide +kernel
