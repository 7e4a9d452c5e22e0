/-! PURE SIDE: loops -/
theorem lp_stop {σ ρ : Type} {body : σ → Option (σ ⊕ ρ)} {n : Nat} {s : σ} {o : ρ} (h : body s = some (.inr o)) : lp body (n + 1) s = some o := by
  show (match body s with | none => none | some (.inl st') => lp body n st' | some (.inr o) => some o) = some o
  rw [h]
theorem lp_go {σ ρ : Type} {body : σ → Option (σ ⊕ ρ)} {n : Nat} {s t : σ} (h : body s = some (.inl t)) : lp body (n + 1) s = lp body n t := by
  show (match body s with | none => none | some (.inl st') => lp body n st' | some (.inr o) => some o) = lp body n t
  rw [h]
/-- a loop whose states are f 0, f 1, .. f N, and that ends at f N -/
theorem lp_for {σ ρ : Type} {body : σ → Option (σ ⊕ ρ)} {o : ρ} (f : Nat → σ) (N : Nat) (step : ∀ k, k < N → body (f k) = some (.inl (f (k + 1)))) (stop : body (f N) = some (.inr o)) : ∀ (j n : Nat), j ≤ N → N < n + j → lp body n (f j) = some o := by
  intro j n
  induction n generalizing j with
  | zero => intro h1 h2; omega
  | succ n ih =>
    intro h1 h2
    by_cases hj : j = N
    · subst hj
      exact lp_stop stop
    · rw [lp_go (step j (by omega))]
      exact ih (j + 1) (by omega) (by omega)
theorem lp_for0 {σ ρ : Type} {body : σ → Option (σ ⊕ ρ)} {o : ρ} (f : Nat → σ) (N : Nat) (step : ∀ k, k < N → body (f k) = some (.inl (f (k + 1)))) (stop : body (f N) = some (.inr o)) {s : σ} (hs : s = f 0) (hN : N < fuel) : lp body fuel s = some o := by
  rw [hs]
  exact lp_for f N step stop 0 fuel (Nat.zero_le N) hN
theorem map_inr {σ ρ : Type} {a : Option ρ} {o : ρ} (h : a = some o) : (Option.map Sum.inr a : Option (σ ⊕ ρ)) = some (.inr o) := by rw [h]; rfl
theorem gd_t {α : Type} {b : Bool} {k : Option α} (h : b = true) : gd b k = k := by rw [h]; rfl
theorem inb_t {i : Int32} {n : Nat} (h0 : ¬ i < 0) (h : ix i < n) : inb i n = true := by simp [inb, h0, h]
theorem inb_n {j n : Nat} (h : j < n) (hn : n < 2 ^ 31) : inb (nI j) n = true := inb_t (nI_pos (by omega)) (by show (nI j).toNatClampNeg < n; rw [nI_clamp (by omega)]; exact h)
theorem ix_n {j : Nat} (h : j < 2 ^ 31) : ix (nI j) = j := nI_clamp h
theorem upd_s {f : Ar} {k : Nat} {v : Int32} : upd f k v k = v := pk_us
theorem upd_n {f : Ar} {k j : Nat} {v : Int32} (h : j ≠ k) : upd f k v j = f j := pk_un h
/-- Arrays.fill -/
theorem fill_ok {n : Nat} (hn : n < 100000) (f : Ar) (v : Int32) : ∃ g : Ar, f_J7_fill_53178 n f v = some g ∧ (∀ j, j < n → g j = v) ∧ ∀ j, n ≤ j → g j = f j := by
  refine ⟨fun j => if j < n then v else f j, ?_, fun j h => if_pos h, fun j h => if_neg (by omega)⟩
  unfold f_J7_fill_53178
  refine lp_for0 (fun k => (nI k, fun j => if j < k then v else f j)) n (fun k hk => ?_) ?_ ?_ hn
  · show f_J7_fill_53178_B5 n v (Int32.ofNat n) (nI k) (fun j => if j < k then v else f j) = _
    unfold f_J7_fill_53178_B5
    rw [if_neg (show ¬ Int32.ofNat n ≤ nI k from nI_ge hk (by omega)), gd_t (inb_n hk (by omega)), ix_n (by omega), nI_1]
    congr 3
    funext j
    by_cases hj : j = k
    · subst hj; rw [upd_s, if_pos (by omega)]
    · rw [upd_n hj]
      by_cases h2 : j < k
      · rw [if_pos h2, if_pos (by omega)]
      · rw [if_neg h2, if_neg (by omega)]
  · show f_J7_fill_53178_B5 n v (Int32.ofNat n) (nI n) (fun j => if j < n then v else f j) = _
    unfold f_J7_fill_53178_B5
    rw [if_pos (show Int32.ofNat n ≤ nI n from nI_le (Nat.le_refl n) (by omega))]
    rfl
  · rw [nI_0]
    congr 1
