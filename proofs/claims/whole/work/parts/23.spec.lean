/-! PURE SIDE: the wheel as numbers. Cfg: how many spokes, the gate, ruts, kinds, longs, strongs; Dyn: rut, stand, dry, there (bits), wear -/
abbrev Cfg : Type := Nat × Nat × (Nat → Nat) × (Nat → Nat) × (Nat → Nat) × (Nat → Nat)
abbrev Dyn : Type := Nat × Nat × Nat × Nat × (Nat → Nat)
abbrev cN (c : Cfg) : Nat := c.1
abbrev cGate (c : Cfg) : Nat := c.2.1
abbrev cRut (c : Cfg) : Nat → Nat := c.2.2.1
abbrev cKind (c : Cfg) : Nat → Nat := c.2.2.2.1
abbrev cLong (c : Cfg) : Nat → Nat := c.2.2.2.2.1
abbrev cStrong (c : Cfg) : Nat → Nat := c.2.2.2.2.2
abbrev dRut (d : Dyn) : Nat := d.1
abbrev dStand (d : Dyn) : Nat := d.2.1
abbrev dDry (d : Dyn) : Nat := d.2.2.1
abbrev dThere (d : Dyn) : Nat := d.2.2.2.1
abbrev dWear (d : Dyn) : Nat → Nat := d.2.2.2.2
def updN (f : Nat → Nat) (k v : Nat) : Nat → Nat := fun j => if j = k then v else f j
/-- what a spoke bears -/
def bearsN (kind strong wear depth dry : Nat) : Nat :=
  if kind = 1 then (2 * strong - wear) / 2
  else if kind = 2 then (2 * strong - wear) + (if 5 ≤ depth then 3 else 0)
  else if kind = 3 then (2 * strong - wear / 2) + (if 5 ≤ depth then 3 else 0)
  else if kind = 4 then 2 * strong
  else if kind = 5 then 2 * strong - (if dry = 1 then wear else 0)
  else 2 * strong - wear
def overN (n there : Nat) : Bool := (List.range n).any (fun i => !there.testBit i && !there.testBit ((i + 1) % n))
/-- a step: whether it limps, and how it stands then -/
def stepN (c : Cfg) (d : Dyn) : Bool × Dyn :=
  let i := dStand d
  let dep := cRut c (dRut d % 8)
  let nx := (i + 1) % cN c
  if (dThere d).testBit i = false ∨ cLong c i < dep then (true, (dRut d + 1, nx, dDry d, dThere d, dWear d))
  else if bearsN (cKind c i) (cStrong c i) (dWear d i) dep (dDry d) < dep then (true, (dRut d + 1, nx, dDry d, dThere d - 2 ^ i, dWear d))
  else if dDry d = 1 ∨ dRut d % 2 = 1 then (false, (dRut d + 1, nx, dDry d, dThere d, updN (dWear d) i (if dWear d i < 30 then dWear d i + 1 else dWear d i)))
  else (false, (dRut d + 1, nx, dDry d, dThere d, dWear d))
def soakN (d : Dyn) : Dyn := (dRut d, dStand d, dDry d, dThere d, fun i => dWear d i / 2)
def weatherN (d : Dyn) : Dyn := (dRut d, dStand d, 1 - dDry d, dThere d, dWear d)
def knockN (d : Dyn) (i : Nat) : Dyn := (dRut d, dStand d, dDry d, if (dThere d).testBit i then dThere d - 2 ^ i else dThere d, dWear d)
def mendN (d : Dyn) (i : Nat) : Dyn := (dRut d, dStand d, dDry d, if (dThere d).testBit i then dThere d else dThere d + 2 ^ i, updN (dWear d) i 0)
def startN (c : Cfg) : Dyn := (0, 0, 0, 2 ^ cN c - 1, fun _ => 0)
def actN (c : Cfg) (d : Dyn) (e : Nat × Nat) : Dyn :=
  if e.1 = 0 then (stepN c d).2 else if e.1 = 1 then soakN d else if e.1 = 2 then weatherN d else if e.1 = 3 then knockN d e.2 else mendN d e.2
def repN (c : Cfg) (E : List (Nat × Nat)) : Dyn := E.foldl (actN c) (startN c)
def okC (c : Cfg) : Prop := (cN c = 0 ∨ (3 ≤ cN c ∧ cN c ≤ 8)) ∧ cGate c ≤ 60 ∧ (∀ k, k < 8 → cRut c k ≤ 9) ∧ ∀ i, i < cN c → cKind c i ≤ 5 ∧ cLong c i ≤ 9 ∧ cStrong c i ≤ 9
def okD (c : Cfg) (d : Dyn) : Prop := (cN c = 0 ∨ dStand d < cN c) ∧ dDry d ≤ 1 ∧ dThere d < 2 ^ cN c ∧ ∀ i, i < 8 → dWear d i ≤ 30 ∧ (cN c ≤ i → dWear d i = 0)
/-- a Wheel of the class, the reference's fixed rows, the reference's row of twelve at an offset -/
def RW (w : Wh) (c : Cfg) (d : Dyn) : Prop := wh_spokes w = nI (cN c) ∧ wh_gateRut w = nI (cGate c) ∧ wh_stand w = nI (dStand d) ∧ wh_rut w = nI (dRut d) ∧ wh_there w = nI (dThere d) ∧ wh_dry w = nI (dDry d) ∧ (∀ k, k < 8 → wh_depths w k = nI (cRut c k)) ∧ (∀ i, i < 8 → wh_wear w i = nI (dWear d i)) ∧ ∀ i, i < cN c → wh_kind w i = nI (cKind c i) ∧ wh_length w i = nI (cLong c i) ∧ wh_strong w i = nI (cStrong c i)
def RM (y : Md) (c : Cfg) : Prop := md_n y = nI (cN c) ∧ md_gateAt y = nI (cGate c) ∧ (∀ k, k < 8 → md_ruts y k = nI (cRut c k)) ∧ ∀ i, i < cN c → md_kinds y i = nI (cKind c i) ∧ md_longs y i = nI (cLong c i) ∧ md_strongs y i = nI (cStrong c i)
def RT (t : Ar) (o : Nat) (d : Dyn) : Prop := t o = nI (dRut d) ∧ t (o + 1) = nI (dStand d) ∧ t (o + 2) = nI (dDry d) ∧ t (o + 3) = nI (dThere d) ∧ ∀ i, i < 8 → t (o + 4 + i) = nI (dWear d i)
def okE (c : Cfg) (E : List (Nat × Nat)) : Prop := E.length ≤ 40 ∧ (cN c = 0 → E = []) ∧ ∀ e ∈ E, e.1 ≤ 4 ∧ e.2 < 8 ∧ (3 ≤ e.1 → e.2 < cN c)
def RC (w : Ct) (c : Cfg) (E : List (Nat × Nat)) : Prop := RW (ct_wheel w) c (repN c E) ∧ ct_done w = nI E.length ∧ ∀ (j : Nat) (e : Nat × Nat), E[j]? = some e → ct_deeds w j = nI e.1 ∧ ct_doneTo w j = nI e.2
/-- rows and texts -/
def RS (n m : Nat) (w : Sh) (sz pl : Ar) : Prop := sh_most w = nI m ∧ ∀ r, r < n → sh_sizes w r = sz r ∧ (sz r = -1 ∨ ∃ k : Nat, k ≤ m ∧ sz r = nI k) ∧ ∀ i, i < m → sh_places w r i = pl (m * r + i)
def RK (x : Ww) (y : Md) (c : Cfg) (k : Nat) : Prop := (ct_done (ww_kept x k) = -1 ∧ md_keptMany y k = -1) ∨ (3 ≤ cN c ∧ ∃ E : List (Nat × Nat), okE c E ∧ RC (ww_kept x k) c E ∧ md_keptMany y k = nI E.length ∧ RT (md_kept y) (492 * k) (repN c E) ∧ ∀ j, j < E.length → RT (md_kept y) (492 * k + 12 + 12 * j) (repN c (E.take j)))
def RelW (x : Ww) (y : Md) : Prop := ∃ (c : Cfg) (E : List (Nat × Nat)), okC c ∧ okE c E ∧ RC (ww_cart x) c E ∧ RM y c ∧ md_deedMany y = nI E.length ∧ RT (md_now y) 0 (repN c E) ∧ (∀ j, j < E.length → RT (md_log y) (12 * j) (repN c (E.take j))) ∧ ∀ k, k < 3 → RK x y c k
def RelT (x : Ww) (y : Md) : Prop := ww_askedLast x = md_told y ∧ ww_upperLast x = md_above y ∧ ww_lowerLast x = md_below y ∧ ww_findingLast x = md_latest y ∧ (∀ k, k < 6 → ww_tallies x k = md_came y k) ∧ wh_dry (rd_draft (ww_reader x)) = 0
def Rel (x : Ww) (y : Md) : Prop := RelT x y ∧ RS 6 40 (ww_rows x) (md_sizes y) (md_rows y) ∧ RS 4 60 (ww_texts x) (md_textSizes y) (md_bytes y) ∧ RelW x y
