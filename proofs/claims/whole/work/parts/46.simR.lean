/-! PURE SIDE: the readers -/
theorem lp2i_inv {σ ρ σ' ρ' : Type} {b1 : σ → Option (σ ⊕ ρ)} {b2 : σ' → Option (σ' ⊕ ρ')} (I : Nat → σ → σ' → Prop) (Q : ρ → ρ' → Prop) (N : Nat) (step : ∀ k s t, k ≤ N → I k s t → (k < N ∧ ∃ s1 t1, b1 s = some (.inl s1) ∧ b2 t = some (.inl t1) ∧ I (k + 1) s1 t1) ∨ ∃ o p, b1 s = some (.inr o) ∧ b2 t = some (.inr p) ∧ Q o p) : ∀ (n k : Nat) (s : σ) (t : σ'), k ≤ N → N < n + k → I k s t → ∃ o p, lp b1 n s = some o ∧ lp b2 n t = some p ∧ Q o p := by
  intro n
  induction n with
  | zero => intro k s t h1 h2; omega
  | succ n ih =>
    intro k s t h1 h2 hI
    rcases step k s t h1 hI with ⟨hk, s1, t1, e1, e2, hI'⟩ | ⟨o, p, e1, e2, hQ⟩
    · obtain ⟨o, p, e3, e4, hQ⟩ := ih (k + 1) s1 t1 (by omega) (by omega) hI'
      exact ⟨o, p, (lp_go e1).trans e3, (lp_go e2).trans e4, hQ⟩
    · exact ⟨o, p, lp_stop e1, lp_stop e2, hQ⟩
theorem lp2i {σ ρ σ' ρ' : Type} {b1 : σ → Option (σ ⊕ ρ)} {b2 : σ' → Option (σ' ⊕ ρ')} (I : Nat → σ → σ' → Prop) (Q : ρ → ρ' → Prop) (N : Nat) {s : σ} {t : σ'} (h0 : I 0 s t) (hN : N < 100000) (step : ∀ k s t, k ≤ N → I k s t → (k < N ∧ ∃ s1 t1, b1 s = some (.inl s1) ∧ b2 t = some (.inl t1) ∧ I (k + 1) s1 t1) ∨ ∃ o p, b1 s = some (.inr o) ∧ b2 t = some (.inr p) ∧ Q o p) : ∃ o p, lp b1 fuel s = some o ∧ lp b2 fuel t = some p ∧ Q o p := lp2i_inv I Q N step fuel 0 s t (Nat.zero_le N) hN h0
def Go {σ ρ : Type} (body : σ → Option (σ ⊕ ρ)) (s : σ) (j : Nat) (s' : σ) : Prop := ∀ n, lp body (n + j) s = lp body n s'
theorem go_0 {σ ρ : Type} {body : σ → Option (σ ⊕ ρ)} {s : σ} : Go body s 0 s := fun _ => rfl
theorem go_1 {σ ρ : Type} {body : σ → Option (σ ⊕ ρ)} {s s' : σ} (h : body s = some (.inl s')) : Go body s 1 s' := fun _ => lp_go h
theorem go_t {σ ρ : Type} {body : σ → Option (σ ⊕ ρ)} {s s' s'' : σ} {i j : Nat} (h1 : Go body s i s') (h2 : Go body s' j s'') : Go body s (i + j) s'' := fun n => by
  rw [show n + (i + j) = (n + j) + i by omega, h1, h2]
theorem go_end {σ ρ : Type} {body : σ → Option (σ ⊕ ρ)} {s s' : σ} {j : Nat} {o : ρ} (h : Go body s j s') (hj : j < 100000) (e : body s' = some (.inr o)) : lp body fuel s = some o := by
  have h1 := h (100000 - j - 1 + 1)
  rw [lp_stop e, show 100000 - j - 1 + 1 + j = fuel by show _ = 100000; omega] at h1
  exact h1
/-! states of both readers -/
def CR (w : Rd) (G : Ar) (k p m : Nat) : Prop := (∀ j, j < 60 → rd_signs w j = G j) ∧ rd_size w = nI k ∧ rd_place w = nI p ∧ wh_spokes (rd_draft w) = nI m
def MR (y : Md) (G : Ar) (t k p m : Nat) : Prop := (∀ j, j < 60 → md_bytes y (60 * t + j) = G j) ∧ md_textSizes y t = nI k ∧ md_readAt y = nI p ∧ md_readMany y = nI m
def CD (c : Cfg) (w : Rd) : Prop := wh_gateRut (rd_draft w) = nI (cGate c) ∧ (∀ k, k < 8 → wh_depths (rd_draft w) k = nI (cRut c k)) ∧ ∀ i, i < cN c → wh_kind (rd_draft w) i = nI (cKind c i) ∧ wh_length (rd_draft w) i = nI (cLong c i) ∧ wh_strong (rd_draft w) i = nI (cStrong c i)
def MD (c : Cfg) (y : Md) : Prop := md_readGate y = nI (cGate c) ∧ (∀ k, k < 8 → md_readRut y k = nI (cRut c k)) ∧ ∀ i, i < cN c → md_readKind y i = nI (cKind c i) ∧ md_readLong y i = nI (cLong c i) ∧ md_readStrong y i = nI (cStrong c i)
def okB (c : Cfg) : Prop := cN c ≤ 8 ∧ cGate c ≤ 60 ∧ (∀ k, k < 8 → cRut c k ≤ 9) ∧ ∀ i, i < cN c → cKind c i ≤ 5 ∧ cLong c i ≤ 9 ∧ cStrong c i ≤ 9
def FR (y y1 : Md) : Prop := ∀ x, (Rel x y → Rel x y1) ∧ (RX x y → RX x y1)
theorem fr_0 (y : Md) : FR y y := fun _ => ⟨id, id⟩
theorem fr_t {y y1 y2 : Md} (h1 : FR y y1) (h2 : FR y1 y2) : FR y y2 := fun x => ⟨fun h => (h2 x).1 ((h1 x).1 h), fun h => (h2 x).2 ((h1 x).2 h)⟩
theorem fr_at (y : Md) (v : Int32) : FR y (md_set_readAt y v) := fun _ => ⟨fun h => Rel_readAt h v, fun h => RX_readAt h v⟩
theorem fr_many (y : Md) (v : Int32) : FR y (md_set_readMany y v) := fun _ => ⟨fun h => Rel_readMany h v, fun h => RX_readMany h v⟩
theorem fr_rgate (y : Md) (v : Int32) : FR y (md_set_readGate y v) := fun _ => ⟨fun h => Rel_readGate h v, fun h => RX_readGate h v⟩
theorem fr_begun (y : Md) (v : Int32) : FR y (md_set_isBegun y v) := fun _ => ⟨fun h => Rel_isBegun h v, fun h => RX_isBegun h v⟩
theorem fr_rut (y : Md) (v : Ar) : FR y (md_set_readRut y v) := fun _ => ⟨fun h => Rel_readRut h v, fun h => RX_readRut h v⟩
theorem fr_kind (y : Md) (v : Ar) : FR y (md_set_readKind y v) := fun _ => ⟨fun h => Rel_readKind h v, fun h => RX_readKind h v⟩
theorem fr_long (y : Md) (v : Ar) : FR y (md_set_readLong y v) := fun _ => ⟨fun h => Rel_readLong h v, fun h => RX_readLong h v⟩
theorem fr_strong (y : Md) (v : Ar) : FR y (md_set_readStrong y v) := fun _ => ⟨fun h => Rel_readStrong h v, fun h => RX_readStrong h v⟩
theorem fr_gate (y : Md) (a g b : Int32) : FR y (md_set_isBegun (md_set_readAt (md_set_readGate y g) a) b) := fr_t (fr_t (fr_rgate y g) (fr_at _ a)) (fr_begun _ b)
theorem fr_spoke (y : Md) (m : Int32) (K L S : Ar) : FR y (md_set_readStrong (md_set_readLong (md_set_readKind (md_set_readMany y m) K) L) S) := fr_t (fr_t (fr_t (fr_many y m) (fr_kind _ K)) (fr_long _ L)) (fr_strong _ S)
theorem setp_id {w : Rd} {v : Int32} (h : rd_place w = v) : rd_set_place w v = w := by subst h; rfl
theorem seta_id {y : Md} {v : Int32} (h : md_readAt y = v) : md_set_readAt y v = y := by subst h; rfl
theorem cr_at {w : Rd} {G : Ar} {k p m : Nat} (h : CR w G k p m) (q : Nat) : CR (rd_set_place w (nI q)) G k q m := ⟨h.1, h.2.1, rfl, h.2.2.2⟩
theorem mr_at {y : Md} {G : Ar} {t k p m : Nat} (h : MR y G t k p m) (q : Nat) : MR (md_set_readAt y (nI q)) G t k q m := ⟨h.1, h.2.1, rfl, h.2.2.2⟩
theorem aa {y : Md} {a b : Int32} : md_set_readAt (md_set_readAt y a) b = md_set_readAt y b := rfl
theorem pp {w : Rd} {a b : Int32} : rd_set_place (rd_set_place w a) b = rd_set_place w b := rfl
theorem mr_gate {y : Md} {G : Ar} {t k p m : Nat} (h : MR y G t k p m) (v : Int32) : MR (md_set_readGate y v) G t k p m := ⟨h.1, h.2.1, h.2.2.1, h.2.2.2⟩
theorem mr_begun {y : Md} {G : Ar} {t k p m : Nat} (h : MR y G t k p m) (v : Int32) : MR (md_set_isBegun y v) G t k p m := ⟨h.1, h.2.1, h.2.2.1, h.2.2.2⟩
theorem mr_rut {y : Md} {G : Ar} {t k p m : Nat} (h : MR y G t k p m) (v : Ar) : MR (md_set_readRut y v) G t k p m := ⟨h.1, h.2.1, h.2.2.1, h.2.2.2⟩
theorem mr_kind {y : Md} {G : Ar} {t k p m : Nat} (h : MR y G t k p m) (v : Ar) : MR (md_set_readKind y v) G t k p m := ⟨h.1, h.2.1, h.2.2.1, h.2.2.2⟩
theorem mr_long {y : Md} {G : Ar} {t k p m : Nat} (h : MR y G t k p m) (v : Ar) : MR (md_set_readLong y v) G t k p m := ⟨h.1, h.2.1, h.2.2.1, h.2.2.2⟩
theorem mr_strong {y : Md} {G : Ar} {t k p m : Nat} (h : MR y G t k p m) (v : Ar) : MR (md_set_readStrong y v) G t k p m := ⟨h.1, h.2.1, h.2.2.1, h.2.2.2⟩
theorem mr_many {y : Md} {G : Ar} {t k p m q : Nat} (h : MR y G t k p m) {v : Int32} (e : v = nI q) : MR (md_set_readMany y v) G t k p q := ⟨h.1, h.2.1, h.2.2.1, e⟩
theorem md_at' {c : Cfg} {y : Md} (h : MD c y) (v : Int32) : MD c (md_set_readAt y v) := ⟨h.1, h.2.1, h.2.2⟩
theorem md_many' {c : Cfg} {y : Md} (h : MD c y) (v : Int32) : MD c (md_set_readMany y v) := ⟨h.1, h.2.1, h.2.2⟩
theorem md_kls {c c1 : Cfg} {y : Md} (h : MD c y) {K L S : Ar} (e1 : cGate c1 = cGate c) (e2 : cRut c1 = cRut c) (h3 : ∀ i, i < cN c1 → K i = nI (cKind c1 i) ∧ L i = nI (cLong c1 i) ∧ S i = nI (cStrong c1 i)) : MD c1 (md_set_readStrong (md_set_readLong (md_set_readKind y K) L) S) := by
  refine ⟨?_, fun k hk => ?_, h3⟩
  · rw [e1]; exact h.1
  · rw [e2]; exact h.2.1 k hk
theorem letter_ok {y : Md} {G : Ar} {t k p m : Nat} (h : MR y G t k p m) (ht : t < 4) (hk : k ≤ 60) {q : Nat} (hq : q ≤ 60) : f_X6_letterAt y (nI t) (nI q) = some (if q < k then G q else 0) := by
  unfold f_X6_letterAt
  rw [gd_b ht (by decide), ix_n (j := t) (by omega), h.2.1]
  by_cases e : q < k
  · obtain ⟨j1, j2⟩ := idx_n (m := 60) (r := t) (i := q) (N := 480) (by omega) (by decide)
    rw [if_neg (nI_ge e (by omega)), gd_t (show inb ((60 : Int32) * nI t + nI q) 480 = true from j1), show ix ((60 : Int32) * nI t + nI q) = 60 * t + q from j2, h.1 q (by omega), if_pos e]
  · rw [if_pos (nI_le (by omega) (by omega)), if_neg e]
theorem fig_ok {w : Rd} {y : Md} {G : Ar} {t k p m m2 l : Nat} (hw : CR w G k p m) (hy : MR y G t k p m2) (ht : t < 4) (hk : k ≤ 60) (hp : p ≤ k) (hl : l ≤ 9) : (f_X2_readFigure w (nI l) = some (-1, w) ∧ f_X6_reads y (nI t) (nI l) = some (-9, y)) ∨ ∃ a, a ≤ 9 ∧ l ≤ a ∧ p < k ∧ f_X2_readFigure w (nI l) = some (nI a, rd_set_place w (nI (p + 1))) ∧ f_X6_reads y (nI t) (nI l) = some (nI a, md_set_readAt y (nI (p + 1))) := by
  unfold f_X2_readFigure f_X6_reads
  rw [hw.2.2.1, hw.2.1, hy.2.2.1, letter_ok hy ht hk (by omega), ob_some, in_ok, ob_some]
  by_cases h : p < k
  · rw [if_pos (nI_lt h (by omega)), gd_b (show p < 60 by omega) (by decide), ix_n (by omega), hw.1 p (by omega), if_pos h, nm_eq]
    rcases num_cases (G p - 48) 10 (by decide) with hb | ⟨a, ha, e⟩
    · left
      have hx : G p - 48 < nI l ∨ (9 : Int32) < G p - 48 := by
        rcases hb with h | h
        · left
          rw [Int32.lt_iff_toInt_lt] at h ⊢
          rw [nI_toInt (by omega)]
          have : (0 : Int32).toInt = 0 := by decide
          omega
        · right; exact lt_of_nle (n := 9) (by decide) h
      by_cases h1 : G p - 48 < nI l
      · rw [if_pos h1, if_pos h1]; exact ⟨rfl, rfl⟩
      · have h2 := hx.resolve_left h1
        rw [if_neg h1, if_neg h1, if_neg (Int32.not_le.mpr h2), if_pos h2]; exact ⟨rfl, rfl⟩
    · rw [e]
      by_cases hla : a < l
      · left
        rw [if_pos (nI_lt hla (by omega)), if_pos (nI_lt hla (by omega))]; exact ⟨rfl, rfl⟩
      · right
        refine ⟨a, by omega, by omega, h, ?_, ?_⟩
        · rw [if_neg (nI_nlt (by omega) (by omega)), if_pos (show nI a ≤ (9 : Int32) from nI_le (b := 9) (by omega) (by decide)), nI_1]
        · rw [if_neg (nI_nlt (by omega) (by omega)), if_neg (show ¬ (9 : Int32) < nI a from nI_nlt (a := 9) (by omega) (by decide)), if_neg (show ¬ (1 : Int32) = 0 by decide), nI_1]
  · left
    have h48 : (0 : Int32) - 48 < nI l := by
      rw [Int32.lt_iff_toInt_lt, nI_toInt (by omega)]
      have : ((0 : Int32) - 48).toInt = -48 := by decide
      omega
    rw [if_neg (nI_nlt (by omega) (by omega)), if_neg h, if_pos h48]
    exact ⟨rfl, rfl⟩
theorem cskip_ok {w : Rd} {G : Ar} {k p m : Nat} (hw : CR w G k p m) (hk : k ≤ 60) (hp : p ≤ k) : ∃ p1, p ≤ p1 ∧ p1 ≤ k ∧ (p1 = k ∨ ¬ G p1 = 32) ∧ (∀ j, p ≤ j → j < p1 → G j = 32) ∧ f_X2_skipBlanks w = some (rd_set_place w (nI p1)) := by
  have key : ∃ o, f_X2_skipBlanks w = some o ∧ ∃ p1, o = rd_set_place w (nI p1) ∧ p ≤ p1 ∧ p1 ≤ k ∧ (p1 = k ∨ ¬ G p1 = 32) ∧ (∀ j, p ≤ j → j < p1 → G j = 32) := by
    unfold f_X2_skipBlanks
    refine lp_i (fun q s => s = rd_set_place w (nI (p + q)) ∧ p + q ≤ k ∧ ∀ j, p ≤ j → j < p + q → G j = 32) _ (k - p) ⟨(setp_id hw.2.2.1).symm, hp, fun j h1 h2 => absurd h2 (by omega)⟩ (by omega) ?_
    rintro q s hq ⟨rfl, h1, h2⟩
    show (_ ∧ ∃ t, f_X2_skipBlanks_B0 (rd_set_place w (nI (p + q))) = _ ∧ _) ∨ ∃ o, f_X2_skipBlanks_B0 (rd_set_place w (nI (p + q))) = _ ∧ _
    unfold f_X2_skipBlanks_B0
    rw [show rd_size (rd_set_place w (nI (p + q))) = nI k from hw.2.1, show rd_place (rd_set_place w (nI (p + q))) = nI (p + q) from rfl]
    by_cases e : k ≤ p + q
    · right
      rw [if_pos (nI_le e (by omega))]
      exact ⟨_, rfl, p + q, rfl, by omega, h1, Or.inl (by omega), h2⟩
    · rw [if_neg (nI_ge (by omega) (by omega)), gd_b (show p + q < 60 by omega) (by decide), ix_n (by omega), show rd_signs (rd_set_place w (nI (p + q))) (p + q) = G (p + q) from hw.1 _ (by omega)]
      by_cases e2 : G (p + q) = 32
      · left
        rw [if_pos e2, nI_1]
        refine ⟨by omega, _, rfl, rfl, by omega, fun j h3 h4 => ?_⟩
        by_cases e3 : j = p + q
        · rw [e3]; exact e2
        · exact h2 j h3 (by omega)
      · right
        rw [if_neg e2]
        exact ⟨_, rfl, p + q, rfl, by omega, h1, Or.inr e2, h2⟩
  obtain ⟨o, e, p1, rfl, h1, h2, h3, h4⟩ := key
  exact ⟨p1, h1, h2, h3, h4, e⟩
theorem mskip_ok {y : Md} {G : Ar} {t k p m : Nat} (hy : MR y G t k p m) (ht : t < 4) (hk : k ≤ 60) {p1 : Nat} (h0 : p ≤ p1) (h1 : p1 ≤ k) (hb : ∀ j, p ≤ j → j < p1 → G j = 32) : Go (f_X6_faultOf_L15 (nI t)) y (p1 - p) (md_set_readAt y (nI p1)) := by
  obtain ⟨q, rfl⟩ : ∃ q, p1 = p + q := ⟨p1 - p, by omega⟩
  rw [Nat.add_sub_cancel_left]
  clear h0
  induction q with
  | zero =>
    rw [Nat.add_zero, seta_id hy.2.2.1]
    exact go_0
  | succ q ih =>
    refine go_t (ih (by omega) (fun j a b => hb j a (by omega))) (go_1 ?_)
    show f_X6_faultOf_B15 (nI t) (md_set_readAt y (nI (p + q))) = _
    unfold f_X6_faultOf_B15
    rw [gd_b ht (by decide), ix_n (by omega), show md_textSizes (md_set_readAt y (nI (p + q))) t = nI k from hy.2.1, show md_readAt (md_set_readAt y (nI (p + q))) = nI (p + q) from rfl, if_neg (nI_ge (by omega) (by omega)), letter_ok (mr_at hy (p + q)) ht hk (by omega), ob_some, if_pos (show p + q < k by omega), if_pos (hb (p + q) (by omega) (by omega)), nI_1]
    rfl
/-! the road -/
theorem rut_1 {Z : Md} {b : Int32} : md_readRut (md_set_isBegun Z b) = md_readRut Z := rfl
theorem rut_2 {Z : Md} {b : Int32} : md_readRut (md_set_readAt Z b) = md_readRut Z := rfl
theorem rut_3 {Z : Md} {b : Int32} : md_readRut (md_set_readGate Z b) = md_readRut Z := rfl
theorem rut_g {y : Md} {a g b v : Int32} : md_readRut (md_set_isBegun (md_set_readAt (md_set_readGate (md_set_readAt y v) g) a) b) = md_readRut y := by rw [rut_1, rut_2, rut_3, rut_2]
theorem at_g {Z : Md} {a b : Int32} : md_readAt (md_set_isBegun (md_set_readAt Z a) b) = a := rfl
theorem gate_g {Z : Md} {a b g : Int32} : md_readGate (md_set_isBegun (md_set_readAt (md_set_readGate Z g) a) b) = g := rfl
theorem beg_g {Z : Md} {b : Int32} : md_isBegun (md_set_isBegun Z b) = b := rfl
theorem rat_g {Z : Md} {v g : Int32} : md_readAt (md_set_readGate (md_set_readAt Z v) g) = v := rfl
theorem dep_g {w : Rd} {P v : Int32} : wh_depths (rd_draft (rd_set_draft (rd_set_place w P) (wh_set_gateRut (rd_draft w) v))) = wh_depths (rd_draft w) := rfl
theorem dry_g {w : Rd} {P v : Int32} : wh_dry (rd_draft (rd_set_draft (rd_set_place w P) (wh_set_gateRut (rd_draft w) v))) = wh_dry (rd_draft w) := rfl
theorem dry_g2 {w : Rd} {P Q v : Int32} : wh_dry (rd_draft (rd_set_place (rd_set_draft (rd_set_place w P) (wh_set_gateRut (rd_draft w) v)) Q)) = wh_dry (rd_draft w) := rfl
theorem pl_g {w : Rd} {P v : Int32} : rd_place (rd_set_draft (rd_set_place w P) (wh_set_gateRut (rd_draft w) v)) = P := rfl
theorem gr_g {w : Rd} {P v : Int32} : wh_gateRut (rd_draft (rd_set_draft (rd_set_place w P) (wh_set_gateRut (rd_draft w) v))) = v := rfl
theorem cr_g {w : Rd} {G : Ar} {k p m q : Nat} (h : CR w G k p m) {P v : Int32} (e : P = nI q) : CR (rd_set_draft (rd_set_place w P) (wh_set_gateRut (rd_draft w) v)) G k q m := ⟨h.1, h.2.1, e, h.2.2.2⟩
theorem rgate_ok {w : Rd} {y : Md} {G : Ar} {t k p m m2 : Nat} (hw : CR w G k p m) (hy : MR y G t k p m2) (ht : t < 4) (hk : k ≤ 60) (hp : p ≤ k) : ∃ b w1 y1 p1, f_X2_readGate w = some (nI b, w1) ∧ f_X6_readsRoad_J65 y (nI t) = some (nI b, y1) ∧ FR y y1 ∧ rd_place w1 = nI p1 ∧ wh_dry (rd_draft w1) = wh_dry (rd_draft w) ∧ md_readAt y1 = nI p1 ∧ p1 ≤ k ∧ (b = 0 ∨ (b = 1 ∧ p < p1 ∧ CR w1 G k p1 m ∧ MR y1 G t k p1 m2 ∧ md_isBegun y1 = 1 ∧ ∃ gt, gt ≤ 60 ∧ wh_gateRut (rd_draft w1) = nI gt ∧ md_readGate y1 = nI gt ∧ wh_depths (rd_draft w1) = wh_depths (rd_draft w) ∧ md_readRut y1 = md_readRut y)) := by
  unfold f_X2_readGate f_X6_readsRoad_J65
  rw [hw.2.2.1, hy.2.2.1]
  rcases fig_ok (l := 0) hw hy ht hk hp (by omega) with ⟨a1, a2⟩ | ⟨a, a9, -, apk, a1, a2⟩
  · rw [show f_X2_readFigure w (0 : Int32) = _ from a1, show f_X6_reads y (nI t) (0 : Int32) = _ from a2]
    exact ⟨0, w, y, p, rfl, rfl, fr_0 y, hw.2.2.1, rfl, hy.2.2.1, hp, Or.inl rfl⟩
  · rw [show f_X2_readFigure w (0 : Int32) = _ from a1, show f_X6_reads y (nI t) (0 : Int32) = _ from a2, ob_some, ob_some]
    dsimp only
    rw [if_pos (nI_pos' (by omega)), if_neg (nI_ne_m9 (by omega))]
    rcases fig_ok (l := 0) (cr_at hw (p + 1)) (mr_at hy (p + 1)) ht hk (by omega) (by omega) with ⟨b1, b2⟩ | ⟨b, b9, -, bpk, b1, b2⟩
    · rw [show f_X2_readFigure (rd_set_place w (nI (p + 1))) (0 : Int32) = _ from b1, show f_X6_reads (md_set_readAt y (nI (p + 1))) (nI t) (0 : Int32) = _ from b2]
      exact ⟨0, rd_set_place w (nI (p + 1)), md_set_readAt y (nI (p + 1)), p + 1, rfl, rfl, fr_at y _, rfl, rfl, rfl, by omega, Or.inl rfl⟩
    · rw [pp] at b1
      rw [aa] at b2
      rw [show f_X2_readFigure (rd_set_place w (nI (p + 1))) (0 : Int32) = _ from b1, show f_X6_reads (md_set_readAt y (nI (p + 1))) (nI t) (0 : Int32) = _ from b2, ob_some, ob_some]
      dsimp only
      unfold f_X2_readGate_J24 f_X6_readsRoad_J94 f_X6_readsRoad_J134
      have hgt : (10 : Int32) * nI a + nI b = nI (10 * a + b) := by
        rw [show (10 : Int32) * nI a = nI (10 * a) from pk_mul 10 a, nI_add]
      rw [if_pos (nI_pos' (by omega)), if_neg (nI_ne_m9 (by omega)), hgt]
      by_cases e : 10 * a + b ≤ 60
      · rw [if_pos (show nI (10 * a + b) ≤ 60 from nI_le (b := 60) e (by decide)), if_pos (show nI (10 * a + b) ≤ 60 from nI_le (b := 60) e (by decide))]
        rw [show md_readGate (md_set_readGate (md_set_readAt y (nI (p + 1 + 1))) (nI (10 * a + b))) = nI (10 * a + b) from rfl, if_neg (show ¬ (60 : Int32) < nI (10 * a + b) from nI_nlt (a := 60) e (by decide))]
        exact ⟨1, _, _, p + 1 + 1, rfl, rfl, fr_t (fr_at y _) (fr_gate _ _ _ _), pl_g, dry_g, at_g, by omega, Or.inr ⟨rfl, by omega, cr_g hw rfl, mr_begun (mr_at (mr_gate (mr_at hy (p + 1 + 1)) _) (p + 1 + 1)) _, beg_g, 10 * a + b, e, gr_g, gate_g, dep_g, rut_g⟩⟩
      · rw [if_neg (show ¬ nI (10 * a + b) ≤ 60 from nI_ge (a := 60) (by omega) (by omega)), if_neg (show ¬ nI (10 * a + b) ≤ 60 from nI_ge (a := 60) (by omega) (by omega))]
        rw [show md_readGate (md_set_readGate (md_set_readAt y (nI (p + 1 + 1))) (nI (10 * a + b))) = nI (10 * a + b) from rfl, if_pos (show (60 : Int32) < nI (10 * a + b) from nI_lt (a := 60) (by omega) (by omega))]
        exact ⟨0, _, _, p, rfl, rfl, fr_t (fr_at y _) (fr_gate _ _ _ _), rfl, dry_g2, at_g, by omega, Or.inl rfl⟩
theorem isB_n {b : Nat} (h : b = 0 ∨ b = 1) : isB (nI b) = true := by rcases h with rfl | rfl <;> rfl
theorem road_ok {w : Rd} {y : Md} {G : Ar} {t k p : Nat} (hw : CR w G k p 0) (hy : MR y G t k p 0) (ht : t < 4) (hk : k ≤ 60) (hp : p < k) : ∃ b w1 y1 p1, f_X2_readRoad w = some (nI b, w1) ∧ f_X6_readsRoad y (nI t) = some (nI b, y1) ∧ FR y y1 ∧ rd_place w1 = nI p1 ∧ wh_dry (rd_draft w1) = wh_dry (rd_draft w) ∧ md_readAt y1 = nI p1 ∧ p1 ≤ k ∧ (b = 0 ∨ (b = 1 ∧ p < p1 ∧ CR w1 G k p1 0 ∧ MR y1 G t k p1 0 ∧ md_isBegun y1 = 1 ∧ ∃ c : Cfg, cN c = 0 ∧ okB c ∧ CD c w1 ∧ MD c y1)) := by
  unfold f_X2_readRoad f_X6_readsRoad
  rw [hw.2.1, hw.2.2.1, hy.2.2.1, if_neg (nI_ge hp (by omega)), gd_b (show p < 60 by omega) (by decide), ix_n (by omega), hw.1 p (by omega), letter_ok hy ht hk (by omega), ob_some, if_pos hp]
  by_cases hG : G p = 114
  · rw [if_pos hG, if_pos hG, nI_1]
    have key : ∃ o o', lp f_X2_readRoad_L39 fuel ((0 : Int32), rd_set_place w (nI (p + 1))) = some o ∧ lp (f_X6_readsRoad_L28 (nI t)) fuel ((0 : Int32), md_set_readAt y (nI (p + 1))) = some o' ∧ ∃ b w1 y1 p1, o = (nI b, w1) ∧ o' = (nI b, y1) ∧ FR y y1 ∧ rd_place w1 = nI p1 ∧ wh_dry (rd_draft w1) = wh_dry (rd_draft w) ∧ md_readAt y1 = nI p1 ∧ p1 ≤ k ∧ (b = 0 ∨ (b = 1 ∧ p < p1 ∧ CR w1 G k p1 0 ∧ MR y1 G t k p1 0 ∧ md_isBegun y1 = 1 ∧ ∃ c : Cfg, cN c = 0 ∧ okB c ∧ CD c w1 ∧ MD c y1)) := by
      refine lp2i (fun j s s' => ∃ (w1 : Rd) (y1 : Md) (ru : Nat → Nat), s = (nI j, w1) ∧ s' = (nI j, y1) ∧ CR w1 G k (p + 1 + j) 0 ∧ MR y1 G t k (p + 1 + j) 0 ∧ FR y y1 ∧ wh_dry (rd_draft w1) = wh_dry (rd_draft w) ∧ p + 1 + j ≤ k ∧ ∀ q, q < j → wh_depths (rd_draft w1) q = nI (ru q) ∧ md_readRut y1 q = nI (ru q) ∧ ru q ≤ 9) _ 8 ⟨_, _, fun _ => 0, rfl, rfl, cr_at hw (p + 1), mr_at hy (p + 1), fr_at y _, rfl, by omega, fun q hq => absurd hq (by omega)⟩ (by omega) ?_
      rintro j s s' hj ⟨w1, y1, ru, rfl, rfl, hw1, hy1, hF, hdr, hpk, hru⟩
      show (_ ∧ ∃ s1 t1, f_X2_readRoad_B39 (nI j) w1 = _ ∧ f_X6_readsRoad_B28 (nI t) (nI j) y1 = _ ∧ _) ∨ ∃ o o', f_X2_readRoad_B39 (nI j) w1 = _ ∧ f_X6_readsRoad_B28 (nI t) (nI j) y1 = _ ∧ _
      unfold f_X2_readRoad_B39 f_X6_readsRoad_B28
      by_cases h8 : 8 ≤ j
      · right
        have e8 : j = 8 := by omega
        subst e8
        obtain ⟨b, w2, y2, p2, g1, g2, g3, g4, g4d, g5, g6, g7⟩ := rgate_ok hw1 hy1 ht hk hpk
        have hb01 : b = 0 ∨ b = 1 := by rcases g7 with h | h; exact Or.inl h; exact Or.inr h.1
        unfold f_X2_readRoad_J73
        rw [if_pos (show (8 : Int32) ≤ nI 8 by decide), if_pos (show (8 : Int32) ≤ nI 8 by decide), g1, g2, ob_some]
        dsimp only
        rw [gd_t (isB_n hb01)]
        refine ⟨_, _, rfl, rfl, b, w2, y2, p2, rfl, rfl, fr_t hF g3, g4, g4d.trans hdr, g5, g6, ?_⟩
        rcases g7 with h | ⟨h1, h2, h3, h4, h5, gt, i1, i2, i3, i4, i5⟩
        · exact Or.inl h
        · refine Or.inr ⟨h1, by omega, h3, h4, h5, (0, gt, ru, fun _ => 0, fun _ => 0, fun _ => 0), rfl, ⟨Nat.zero_le _, i1, fun q hq => (hru q hq).2.2, fun i hi => absurd hi (Nat.not_lt_zero i)⟩, ⟨i2, fun q hq => ?_, fun i hi => absurd hi (Nat.not_lt_zero i)⟩, ⟨i3, fun q hq => ?_, fun i hi => absurd hi (Nat.not_lt_zero i)⟩⟩
          · rw [i4]; exact (hru q hq).1
          · rw [i5]; exact (hru q hq).2.1
      · rw [if_neg (show ¬ (8 : Int32) ≤ nI j from nI_ge (b := 8) (by omega) (by decide)), if_neg (show ¬ (8 : Int32) ≤ nI j from nI_ge (b := 8) (by omega) (by decide))]
        rcases fig_ok (l := 0) hw1 hy1 ht hk hpk (by omega) with ⟨a1, a2⟩ | ⟨a, a9, -, apk, a1, a2⟩
        · right
          rw [show f_X2_readFigure w1 (0 : Int32) = _ from a1, show f_X6_reads y1 (nI t) (0 : Int32) = _ from a2, ob_some, ob_some]
          dsimp only
          rw [if_neg (show ¬ (0 : Int32) ≤ -1 by decide), gd_b (show j < 8 by omega) (by decide), gd_b (show j < 8 by omega) (by decide), ix_n (by omega), upd_s, if_pos rfl]
          exact ⟨_, _, rfl, rfl, 0, w1, _, p + 1 + j, rfl, rfl, fr_t hF (fr_rut y1 _), hw1.2.2.1, hdr, hy1.2.2.1, hpk, Or.inl rfl⟩
        · left
          rw [show f_X2_readFigure w1 (0 : Int32) = _ from a1, show f_X6_reads y1 (nI t) (0 : Int32) = _ from a2, ob_some, ob_some]
          dsimp only
          rw [if_pos (nI_pos' (by omega)), gd_b (show j < 8 by omega) (by decide), gd_b (show j < 8 by omega) (by decide), gd_b (show j < 8 by omega) (by decide), ix_n (by omega), upd_s, if_neg (nI_ne_m9 (by omega)), nI_1]
          refine ⟨by omega, _, _, rfl, rfl, _, _, updN ru j a, rfl, rfl, ⟨hw1.1, hw1.2.1, rfl, hw1.2.2.2⟩, mr_rut (mr_at hy1 (p + 1 + j + 1)) _, fr_t hF (fr_t (fr_at y1 _) (fr_rut _ _)), hdr, by omega, fun q hq => ?_⟩
          show upd (wh_depths (rd_draft w1)) j (nI a) q = nI (updN ru j a q) ∧ upd (md_readRut y1) j (nI a) q = nI (updN ru j a q) ∧ updN ru j a q ≤ 9
          unfold updN
          by_cases e : q = j
          · subst e; rw [upd_s, upd_s, if_pos rfl]; exact ⟨rfl, rfl, a9⟩
          · rw [upd_n e, upd_n e, if_neg e]; exact hru q (by omega)
    obtain ⟨o, o', e1, e2, b, w1, y1, p1, rfl, rfl, h⟩ := key
    exact ⟨b, w1, y1, p1, e1, e2, h⟩
  · rw [if_neg hG, if_neg hG]
    exact ⟨0, w, y, p, rfl, rfl, fr_0 y, hw.2.2.1, rfl, hy.2.2.1, by omega, Or.inl rfl⟩
/-! a spoke -/
theorem kind_ok (v : Int32) : (f_X2_kindOf v = some (-1) ∧ f_X6_kindOf v = some (-9)) ∨ ∃ a, a ≤ 5 ∧ f_X2_kindOf v = some (nI a) ∧ f_X6_kindOf v = some (nI a) := by
  by_cases h0 : v = 99
  · subst h0; exact Or.inr ⟨0, by omega, by decide +kernel, rfl⟩
  by_cases h1 : v = 115
  · subst h1; exact Or.inr ⟨1, by omega, by decide +kernel, rfl⟩
  by_cases h2 : v = 101
  · subst h2; exact Or.inr ⟨2, by omega, by decide +kernel, rfl⟩
  by_cases h3 : v = 103
  · subst h3; exact Or.inr ⟨3, by omega, by decide +kernel, rfl⟩
  by_cases h4 : v = 105
  · subst h4; exact Or.inr ⟨4, by omega, by decide +kernel, rfl⟩
  by_cases h5 : v = 117
  · subst h5; exact Or.inr ⟨5, by omega, by decide +kernel, rfl⟩
  left
  refine ⟨?_, ?_⟩
  · unfold f_X2_kindOf
    refine lp_for0 (fun k => nI k) 6 (fun k hk => ?_) ?_ rfl (by decide)
    · show f_X2_kindOf_B2 v (nI k) = _
      unfold f_X2_kindOf_B2
      rw [if_neg (show ¬ (6 : Int32) ≤ nI k from nI_ge hk (by decide)), gd_b hk (by decide), ix_n (by omega), nI_1, if_neg]
      rcases (by omega : k = 0 ∨ k = 1 ∨ k = 2 ∨ k = 3 ∨ k = 4 ∨ k = 5) with rfl | rfl | rfl | rfl | rfl | rfl
      · exact fun z => h0 z.symm
      · exact fun z => h1 z.symm
      · exact fun z => h2 z.symm
      · exact fun z => h3 z.symm
      · exact fun z => h4 z.symm
      · exact fun z => h5 z.symm
    · show f_X2_kindOf_B2 v (nI 6) = _
      unfold f_X2_kindOf_B2
      rw [if_pos (show (6 : Int32) ≤ nI 6 by decide)]; rfl
  · unfold f_X6_kindOf
    rw [if_neg h0, if_neg h2, if_neg h3, if_neg h4, if_neg h1, if_neg h5]
def addC (c : Cfg) (a l s : Nat) : Cfg := (cN c + 1, cGate c, cRut c, updN (cKind c) (cN c) a, updN (cLong c) (cN c) l, updN (cStrong c) (cN c) s)
theorem upd_add {f : Ar} {g : Nat → Nat} {m a : Nat} (h : ∀ i, i < m → f i = nI (g i)) : ∀ i, i < m + 1 → upd f m (nI a) i = nI (updN g m a i) := by
  intro i hi
  unfold updN
  by_cases e : i = m
  · subst e; rw [upd_s, if_pos rfl]
  · rw [upd_n e, if_neg e]; exact h i (by omega)
theorem updN_le {g : Nat → Nat} {m a b : Nat} (h : ∀ i, i < m → g i ≤ b) (ha : a ≤ b) : ∀ i, i < m + 1 → updN g m a i ≤ b := by
  intro i hi
  unfold updN
  by_cases e : i = m
  · rw [if_pos e]; exact ha
  · rw [if_neg e]; exact h i (by omega)
theorem rspoke_ok {w : Rd} {y : Md} {G : Ar} {t k p : Nat} {c : Cfg} (hw : CR w G k p (cN c)) (hy : MR y G t k p (cN c)) (hB : okB c) (hc : CD c w) (hm : MD c y) (ht : t < 4) (hk : k ≤ 60) (hp : p < k) : ∃ b w1 y1 p1, f_X2_readSpoke w = some (nI b, w1) ∧ f_X6_readsSpoke y (nI t) = some (nI b, y1) ∧ FR y y1 ∧ rd_place w1 = nI p1 ∧ wh_dry (rd_draft w1) = wh_dry (rd_draft w) ∧ md_readAt y1 = nI p1 ∧ p1 ≤ k ∧ md_isBegun y1 = md_isBegun y ∧ (b = 0 ∨ (b = 1 ∧ p < p1 ∧ ∃ c1 : Cfg, cN c1 = cN c + 1 ∧ okB c1 ∧ CR w1 G k p1 (cN c1) ∧ MR y1 G t k p1 (cN c1) ∧ CD c1 w1 ∧ MD c1 y1)) := by
  obtain ⟨z1, z2, z3, z4⟩ := id hB
  unfold f_X2_readSpoke f_X6_readsSpoke
  rw [hw.2.2.1, hw.2.2.2, hy.2.2.1, hy.2.2.2, gd_b (show p < 60 by omega) (by decide), ix_n (j := p) (by omega), hw.1 p (by omega), letter_ok hy ht hk (by omega), ob_some, if_pos hp]
  rcases kind_ok (G p) with ⟨k1, k2⟩ | ⟨a, a5, k1, k2⟩
  · rw [k1, k2, ob_some, ob_some, if_pos rfl, if_neg (show ¬ (0 : Int32) ≤ -1 by decide)]
    refine ⟨0, w, y, p, ?_, rfl, fr_0 y, hw.2.2.1, rfl, hy.2.2.1, by omega, rfl, Or.inl rfl⟩
    split <;> rfl
  · rw [k1, k2, ob_some, ob_some, if_neg (nI_ne_m9 (by omega)), if_pos (nI_pos' (by omega))]
    by_cases h8 : cN c = 8
    · rw [h8, if_pos (show (8 : Int32) ≤ nI 8 by decide), if_pos (show nI 8 = 8 by decide)]
      exact ⟨0, w, y, p, rfl, rfl, fr_0 y, hw.2.2.1, rfl, hy.2.2.1, by omega, rfl, Or.inl rfl⟩
    · rw [if_neg (show ¬ (8 : Int32) ≤ nI (cN c) from nI_ge (b := 8) (by omega) (by decide)), if_neg (show ¬ nI (cN c) = 8 from fun z => h8 ((nI_eq (b := 8) (by omega) (by decide)).mp z)), nI_1]
      rcases fig_ok (l := 1) (cr_at hw (p + 1)) (mr_at hy (p + 1)) ht hk (by omega) (by omega) with ⟨b1, b2⟩ | ⟨l, l9, l1, lpk, b1, b2⟩
      · rw [show f_X2_readFigure (rd_set_place w (nI (p + 1))) (1 : Int32) = _ from b1, show f_X6_reads (md_set_readAt y (nI (p + 1))) (nI t) (1 : Int32) = _ from b2]
        exact ⟨0, _, _, p + 1, rfl, rfl, fr_at y _, rfl, rfl, rfl, by omega, rfl, Or.inl rfl⟩
      · rw [pp] at b1
        rw [aa] at b2
        rw [show f_X2_readFigure (rd_set_place w (nI (p + 1))) (1 : Int32) = _ from b1, show f_X6_reads (md_set_readAt y (nI (p + 1))) (nI t) (1 : Int32) = _ from b2, ob_some, ob_some]
        dsimp only
        rw [if_pos (nI_pos' (by omega)), if_neg (nI_ne_m9 (by omega))]
        rcases fig_ok (l := 0) (cr_at hw (p + 1 + 1)) (mr_at hy (p + 1 + 1)) ht hk (by omega) (by omega) with ⟨d1, d2⟩ | ⟨s, s9, -, spk, d1, d2⟩
        · rw [show f_X2_readFigure (rd_set_place w (nI (p + 1 + 1))) (0 : Int32) = _ from d1, show f_X6_reads (md_set_readAt y (nI (p + 1 + 1))) (nI t) (0 : Int32) = _ from d2]
          exact ⟨0, _, _, p + 1 + 1, rfl, rfl, fr_at y _, rfl, rfl, rfl, by omega, rfl, Or.inl rfl⟩
        · rw [pp] at d1
          rw [aa] at d2
          rw [show f_X2_readFigure (rd_set_place w (nI (p + 1 + 1))) (0 : Int32) = _ from d1, show f_X6_reads (md_set_readAt y (nI (p + 1 + 1))) (nI t) (0 : Int32) = _ from d2, ob_some, ob_some]
          dsimp only
          unfold f_X2_readSpoke_J62 f_X6_readsSpoke_J64
          rw [if_pos (nI_pos' (by omega)), if_neg (nI_ne_m9 (by omega)), gd_b (show cN c < 8 by omega) (by decide), gd_b (show cN c < 8 by omega) (by decide), gd_b (show cN c < 8 by omega) (by decide), ix_n (j := cN c) (by omega)]
          rw [show md_readMany (md_set_readAt y (nI (p + 1 + 1 + 1))) = nI (cN c) from hy.2.2.2, gd_b (show cN c < 8 by omega) (by decide), gd_b (show cN c < 8 by omega) (by decide), gd_b (show cN c < 8 by omega) (by decide), ix_n (j := cN c) (by omega), nI_1]
          refine ⟨1, _, _, p + 1 + 1 + 1, rfl, rfl, fr_t (fr_at y (nI (p + 1 + 1 + 1))) (fr_spoke _ _ _ _ _), rfl, rfl, rfl, by omega, rfl, Or.inr ⟨rfl, by omega, addC c a l s, rfl, ⟨by show cN c + 1 ≤ 8; omega, z2, z3, fun i hi => ⟨updN_le (fun i hi => (z4 i hi).1) a5 i hi, updN_le (fun i hi => (z4 i hi).2.1) l9 i hi, updN_le (fun i hi => (z4 i hi).2.2) s9 i hi⟩⟩, ⟨hw.1, hw.2.1, rfl, rfl⟩, mr_strong (mr_long (mr_kind (mr_many (mr_at hy (p + 1 + 1 + 1)) rfl) _) _) _, ⟨hc.1, hc.2.1, fun i hi => ⟨upd_add (fun i hi => (hc.2.2 i hi).1) i hi, upd_add (fun i hi => (hc.2.2 i hi).2.1) i hi, upd_add (fun i hi => (hc.2.2 i hi).2.2) i hi⟩⟩, md_kls (md_many' (md_at' hm _) _) rfl rfl (fun i hi => ⟨upd_add (fun i hi => (hm.2.2 i hi).1) i hi, upd_add (fun i hi => (hm.2.2 i hi).2.1) i hi, upd_add (fun i hi => (hm.2.2 i hi).2.2) i hi⟩)⟩⟩
