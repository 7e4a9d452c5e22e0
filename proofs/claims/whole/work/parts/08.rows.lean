section KF
variable {p : Program} {l : Launch} {e : Env} {R : Room} {s : State} {m : MethodId} {args : Array Value} {below : List Frame} {meth : Method} {c : Code} {H : Heap} {locs : List Loc} {cells slots : Nat} {Q : State → Prop}
variable {G : GG} {A : Nat → Prop} {own : String} {cc : ByteArray} {nL : Nat} {ret : Option FieldType} {pc : Nat} {ls : Array Slot} {rest st0 : List Value} {ws : va_W}
theorem k_get (C0 : Cx p s m args meth c G A own cc nL ret) (hW : Wd G A s.heap H ws locs) (ci k q : Nat) {r : vw_C} {idx a : Nat} {fs : List Value} {v : Value} (hc : vwCl[ci]? = some r) (hk : k < r.2.2) (hin : ∀ w ∈ u_ws r.1 r.2.1 r.2.2, w ∈ gw) (hl : Cond.fieldLink own idx (r.2.1 k).1 (r.2.1 k).2.1 (r.2.1 k).2.2.1 ∈ gw) (he : ws[q]? = some (a, .inr (ci, fs))) (hv : fs[k]? = some v) (hdg : decode cc pc = .ok (.getfield idx, 3))
    (kk : W p l e R s m args below meth c H locs cells slots Q (F0 m (pc + 3) ls (v :: rest))) : W p l e R s m args below meth c H locs cells slots Q (F0 m pc ls (.ref a :: rest)) := by
  obtain ⟨hx, hb, -, -, -, ho, hts, hK, -, -, -⟩ := C0
  exact va_get (C := r.1) (T := r.2.1) (N := r.2.2) hx hb hts hin ho hK hW.1 q he hc k hk (hts _ hl) (fun _ h => h) hv hdg kk
theorem k_put (C0 : Cx p s m args meth c G A own cc nL ret) (hW : Wd G A s.heap H ws locs) (ci k q : Nat) {r : vw_C} {idx a : Nat} {fs : List Value} {v : Value} {ty : Nat → FieldType} (hc : vwCl[ci]? = some r) (hk : k < r.2.2) (hin : ∀ w ∈ u_ws r.1 r.2.1 r.2.2, w ∈ gw) (hty : ∀ k, k < r.2.2 → parseFieldDescriptor (r.2.1 k).2.2.1 = some (ty k)) (hnm : ∀ a, a < r.2.2 → ∀ b, b < r.2.2 → a ≠ b → (r.2.1 a).2.1 ≠ (r.2.1 b).2.1) (hl : Cond.fieldLink own idx (r.2.1 k).1 (r.2.1 k).2.1 (r.2.1 k).2.2.1 ∈ gw) (he : ws[q]? = some (a, .inr (ci, fs))) (hfin : (r.2.1 k).2.2.2 = false) (hn : narrow (ty k) v = v) (hfit : fits (ty k) v = true) (hlen : k < fs.length) (hdg : decode cc pc = .ok (.putfield idx, 3))
    (kk : ∀ (H1 : Heap) (locs1 : List Loc), Wd G A s.heap H1 (ws.set q (a, .inr (ci, fs.set k v))) locs1 → W p l e R s m args below meth c H1 locs1 cells slots Q (F0 m (pc + 3) ls rest)) : W p l e R s m args below meth c H locs cells slots Q (F0 m pc ls (v :: .ref a :: rest)) := by
  obtain ⟨hx, hb, -, -, -, ho, hts, hK, -, -, -⟩ := C0
  exact va_put (C := r.1) (T := r.2.1) (N := r.2.2) hx hb hts hin ty hty hnm ho hK hW.1 hW.2.1 hW.2.2 q he hc k hk (hts _ hl) (fun _ h => h) hfin (hty k hk) hn hfit hlen hdg (fun H1 locs1 h1 h2 h3 => kk H1 locs1 ⟨h1, h2, h3⟩)
theorem k_iald (C0 : Cx p s m args meth c G A own cc nL ret) (hW : Wd G A s.heap H ws locs) (q : Nat) {a n : Nat} {f : Ar} {i : Int32} (j : Nat) (he : ws[q]? = some (a, .inl (G.2.1 0, n, .inl f))) (hin : vp_in i n) (hj : i.toNatClampNeg = j) (hdg : decode cc pc = .ok (.iaload, 1))
    (kk : W p l e R s m args below meth c H locs cells slots Q (F0 m (pc + 1) ls (.int (f j) :: rest))) : W p l e R s m args below meth c H locs cells slots Q (F0 m pc ls (.int i :: .ref a :: rest)) := by
  obtain ⟨hx, hb, -, -, -, ho, hts, hK, -, -, -⟩ := C0
  subst hj
  exact va_iald hx hb hK hW.1 q 0 he rfl hin hdg kk
theorem k_bald (C0 : Cx p s m args meth c G A own cc nL ret) (hW : Wd G A s.heap H ws locs) (q : Nat) {a n : Nat} {f : Ar} {i : Int32} (j : Nat) (he : ws[q]? = some (a, .inl (G.2.1 1, n, .inl f))) (hin : vp_in i n) (hj : i.toNatClampNeg = j) (hdg : decode cc pc = .ok (.baload, 1))
    (kk : W p l e R s m args below meth c H locs cells slots Q (F0 m (pc + 1) ls (.int (f j) :: rest))) : W p l e R s m args below meth c H locs cells slots Q (F0 m pc ls (.int i :: .ref a :: rest)) := by
  obtain ⟨hx, hb, -, -, -, ho, hts, hK, -, -, -⟩ := C0
  subst hj
  exact va_bald hx hb hK hW.1 q 1 he rfl hin hdg kk
theorem k_lald (C0 : Cx p s m args meth c G A own cc nL ret) (hW : Wd G A s.heap H ws locs) (q : Nat) {a n : Nat} {f : ArL} {i : Int32} (j : Nat) (he : ws[q]? = some (a, .inl (G.2.1 2, n, .inr (.inl f)))) (hin : vp_in i n) (hj : i.toNatClampNeg = j) (hdg : decode cc pc = .ok (.laload, 1))
    (kk : W p l e R s m args below meth c H locs cells slots Q (F0 m (pc + 1) ls (.long (f j) :: rest))) : W p l e R s m args below meth c H locs cells slots Q (F0 m pc ls (.int i :: .ref a :: rest)) := by
  obtain ⟨hx, hb, -, -, -, ho, hts, hK, -, -, -⟩ := C0
  subst hj
  exact va_lald hx hb hK hW.1 q 2 he rfl hin hdg kk
theorem k_iast (C0 : Cx p s m args meth c G A own cc nL ret) (hW : Wd G A s.heap H ws locs) (q : Nat) {a n : Nat} {f : Ar} {i x : Int32} (j : Nat) (he : ws[q]? = some (a, .inl (G.2.1 0, n, .inl f))) (hin : vp_in i n) (hj : i.toNatClampNeg = j) (hdg : decode cc pc = .ok (.iastore, 1))
    (kk : ∀ (H1 : Heap) (locs1 : List Loc), Wd G A s.heap H1 (ws.set q (a, .inl (G.2.1 0, n, .inl (upd f j x)))) locs1 → W p l e R s m args below meth c H1 locs1 cells slots Q (F0 m (pc + 1) ls rest)) : W p l e R s m args below meth c H locs cells slots Q (F0 m pc ls (.int x :: .int i :: .ref a :: rest)) := by
  obtain ⟨hx, hb, -, -, -, ho, hts, hK, -, -, -⟩ := C0
  subst hj
  exact va_iast hx hb hK hW.1 hW.2.1 hW.2.2 q 0 he rfl hin hdg (fun H1 locs1 h1 h2 h3 => kk H1 locs1 ⟨h1, h2, h3⟩)
theorem k_bast (C0 : Cx p s m args meth c G A own cc nL ret) (hW : Wd G A s.heap H ws locs) (q : Nat) {a n : Nat} {f : Ar} {i x : Int32} (j : Nat) (he : ws[q]? = some (a, .inl (G.2.1 1, n, .inl f))) (hin : vp_in i n) (hj : i.toNatClampNeg = j) {y : Int32} (hy : vp_nar .byte x = y) (hdg : decode cc pc = .ok (.bastore, 1))
    (kk : ∀ (H1 : Heap) (locs1 : List Loc), Wd G A s.heap H1 (ws.set q (a, .inl (G.2.1 1, n, .inl (upd f j y)))) locs1 → W p l e R s m args below meth c H1 locs1 cells slots Q (F0 m (pc + 1) ls rest)) : W p l e R s m args below meth c H locs cells slots Q (F0 m pc ls (.int x :: .int i :: .ref a :: rest)) := by
  obtain ⟨hx, hb, -, -, -, ho, hts, hK, -, -, -⟩ := C0
  subst hj
  subst hy
  exact va_bast hx hb hK hW.1 hW.2.1 hW.2.2 q 1 he rfl hin hdg (fun H1 locs1 h1 h2 h3 => kk H1 locs1 ⟨h1, h2, h3⟩)
theorem k_last (C0 : Cx p s m args meth c G A own cc nL ret) (hW : Wd G A s.heap H ws locs) (q : Nat) {a n : Nat} {f : ArL} {i : Int32} {x : Int64} (j : Nat) (he : ws[q]? = some (a, .inl (G.2.1 2, n, .inr (.inl f)))) (hin : vp_in i n) (hj : i.toNatClampNeg = j) (hdg : decode cc pc = .ok (.lastore, 1))
    (kk : ∀ (H1 : Heap) (locs1 : List Loc), Wd G A s.heap H1 (ws.set q (a, .inl (G.2.1 2, n, .inr (.inl (vp_updL f j x))))) locs1 → W p l e R s m args below meth c H1 locs1 cells slots Q (F0 m (pc + 1) ls rest)) : W p l e R s m args below meth c H locs cells slots Q (F0 m pc ls (.long x :: .int i :: .ref a :: rest)) := by
  obtain ⟨hx, hb, -, -, -, ho, hts, hK, -, -, -⟩ := C0
  subst hj
  exact va_last hx hb hK hW.1 hW.2.1 hW.2.2 q 2 he rfl hin hdg (fun H1 locs1 h1 h2 h3 => kk H1 locs1 ⟨h1, h2, h3⟩)
theorem k_alen (C0 : Cx p s m args meth c G A own cc nL ret) (hW : Wd G A s.heap H ws locs) (q : Nat) {a n : Nat} {f : Ar} {v : Int32} (he : ws[q]? = some (a, .inl (G.2.1 0, n, .inl f))) (hv : Int32.ofNat n = v) (hdg : decode cc pc = .ok (.arraylength, 1))
    (kk : W p l e R s m args below meth c H locs cells slots Q (F0 m (pc + 1) ls (.int v :: rest))) : W p l e R s m args below meth c H locs cells slots Q (F0 m pc ls (.ref a :: rest)) := by
  obtain ⟨hx, hb, -, -, -, ho, hts, hK, -, -, -⟩ := C0
  exact va_alen (ty := .int) hx hb hK hW.1 q 0 he rfl hv hdg kk
theorem k_aaldC (C0 : Cx p s m args meth c G A own cc nL ret) (hW : Wd G A s.heap H ws locs) (q : Nat) {a n b : Nat} {f : Nat → Option Nat} {i : Int32} (he : ws[q]? = some (a, .inl (G.2.1 3, n, .inr (.inr (.inr (.inr f)))))) (hin : vp_in i n) (hf : f i.toNatClampNeg = some b) (hdg : decode cc pc = .ok (.aaload, 1))
    (kk : W p l e R s m args below meth c H locs cells slots Q (F0 m (pc + 1) ls (.ref b :: rest))) : W p l e R s m args below meth c H locs cells slots Q (F0 m pc ls (.int i :: .ref a :: rest)) := by
  obtain ⟨hx, hb, -, -, -, ho, hts, hK, -, -, -⟩ := C0
  refine va_aldq hx hb hK hW.1 q 3 he rfl hin hdg ?_
  rw [hf]
  exact kk
theorem k_aaldI (C0 : Cx p s m args meth c G A own cc nL ret) (hW : Wd G A s.heap H ws locs) (q : Nat) {a n b : Nat} {f : Nat → Option Nat} {i : Int32} (he : ws[q]? = some (a, .inl (G.2.1 4, n, .inr (.inr (.inr (.inr f)))))) (hin : vp_in i n) (hf : f i.toNatClampNeg = some b) (hdg : decode cc pc = .ok (.aaload, 1))
    (kk : W p l e R s m args below meth c H locs cells slots Q (F0 m (pc + 1) ls (.ref b :: rest))) : W p l e R s m args below meth c H locs cells slots Q (F0 m pc ls (.int i :: .ref a :: rest)) := by
  obtain ⟨hx, hb, -, -, -, ho, hts, hK, -, -, -⟩ := C0
  have hlt : i.toNatClampNeg < n := Nat.not_le.mp fun q => hin (Or.inr q)
  refine W.aald (v := va_rf (f i.toNatClampNeg)) (ty := .array .int) hx hb (hW.1 q _ he) ((hK.2 4 _ rfl).1 n (fun j => va_rf (f j))) rfl (fun q => by cases q) (by show ¬ (i < 0 ∨ (arrV _ _ _).slots.size ≤ _); rw [arrV_size]; exact hin) (by show (arrV _ _ _).slots[_]? = _; rw [arrV_read _ _ hlt]) rfl rfl hdg ?_
  rw [hf]
  exact kk
theorem k_max (C0 : Cx p s m args meth c G A own cc nL ret) (hl : ls.size = nL) {idx : Nat} (hlink : Cond.methodLink own idx yJ9_max_7cf53 ∈ gw) (hR : 1 ≤ R.frames ∧ 25 ≤ R.locals ∧ cells ≤ R.cells ∧ slots ≤ R.slots) (hroom : (rest.map fun v => v.category).sum ≤ 8) {x y : Int32} (hdg : decode cc pc = .ok (.invokestatic idx, 3))
    (kk : W p l e R s m args below meth c H locs cells slots Q (F0 m (pc + 3) ls (.int (jmax x y) :: rest))) : W p l e R s m args below meth c H locs cells slots Q (F0 m pc ls (.int y :: .int x :: rest)) := by
  obtain ⟨hx, hb, hml, -, -, ho, hts, hK, -, -, -⟩ := C0
  exact va_mmax hx hb (hml.trans hl.symm) ho (hts _ hlink) (hts _ mt_J9_max_7cf53) (hts _ mz_J9) (hts _ mc_J9_max_7cf53) hR.1 (by omega) hR.2.2.1 hR.2.2.2 hdg kk
theorem k_min (C0 : Cx p s m args meth c G A own cc nL ret) (hl : ls.size = nL) {idx : Nat} (hlink : Cond.methodLink own idx yJ9_min_7cf53 ∈ gw) (hR : 1 ≤ R.frames ∧ 25 ≤ R.locals ∧ cells ≤ R.cells ∧ slots ≤ R.slots) (hroom : (rest.map fun v => v.category).sum ≤ 8) {x y : Int32} (hdg : decode cc pc = .ok (.invokestatic idx, 3))
    (kk : W p l e R s m args below meth c H locs cells slots Q (F0 m (pc + 3) ls (.int (jmin x y) :: rest))) : W p l e R s m args below meth c H locs cells slots Q (F0 m pc ls (.int y :: .int x :: rest)) := by
  obtain ⟨hx, hb, hml, -, -, ho, hts, hK, -, -, -⟩ := C0
  exact va_mmin hx hb (hml.trans hl.symm) ho (hts _ hlink) (hts _ mt_J9_min_7cf53) (hts _ mz_J9) (hts _ mc_J9_min_7cf53) hR.1 (by omega) hR.2.2.1 hR.2.2.2 hdg kk
def cpyok (sp dp n : Int32) (n0 n1 : Nat) : Bool := decide (¬ sp < 0) && decide (¬ dp < 0) && decide (¬ n < 0) && decide (sp.toNatClampNeg + n.toNatClampNeg ≤ n0) && decide (dp.toNatClampNeg + n.toNatClampNeg ≤ n1)
def acpy (f g : Ar) (sp dp n : Int32) : Ar := va_cpy f g sp.toNatClampNeg dp.toNatClampNeg n.toNatClampNeg
theorem k_copy (C0 : Cx p s m args meth c G A own cc nL ret) (hW : Wd G A s.heap H ws locs) (hl : ls.size = nL) {idx : Nat} (hlink : Cond.methodLink own idx arraycopyName ∈ gw) (hR : 1 ≤ R.frames ∧ 60 ≤ R.locals) (hroom : (rest.map fun v => v.category).sum ≤ 8) (q0 q1 : Nat) {a0 a1 n0 n1 : Nat} {f g : Ar} (he0 : ws[q0]? = some (a0, .inl (G.2.1 0, n0, .inl f))) (he1 : ws[q1]? = some (a1, .inl (G.2.1 0, n1, .inl g))) {sp dp n : Int32} (hok : cpyok sp dp n n0 n1 = true) (hdg : decode cc pc = .ok (.invokestatic idx, 3))
    (kk : ∀ (H1 : Heap) (locs1 : List Loc), Wd G A s.heap H1 (ws.set q1 (a1, .inl (G.2.1 0, n1, .inl (acpy f g sp dp n)))) locs1 → W p l e R s m args below meth c H1 locs1 cells slots Q (F0 m (pc + 3) ls rest)) : W p l e R s m args below meth c H locs cells slots Q (F0 m pc ls (.int n :: .int dp :: .ref a1 :: .int sp :: .ref a0 :: rest)) := by
  obtain ⟨hx, hb, hml, -, -, ho, hts, hK, -, -, -⟩ := C0
  simp only [cpyok, Bool.and_eq_true, decide_eq_true_eq] at hok
  obtain ⟨⟨⟨⟨h1, h2⟩, h3⟩, h4⟩, h5⟩ := hok
  exact va_copyi hx hb (hml.trans hl.symm) ho (hts _ hlink) (hts _ (gw_mem mnat_arraycopy rfl)) (hts _ mt_J_arraycopy) (hts _ mz_J10) hK hW.1 hW.2.1 hW.2.2 q0 q1 0 0 he0 he1 rfl rfl rfl h1 h2 h3 h4 h5 (fun _ _ => rfl) hR.1 (Nat.le_trans (Nat.add_le_add_right hroom _) (Nat.le_trans (by decide) hR.2)) hdg (fun H1 locs1 h1 h2 h3 => kk H1 locs1 ⟨h1, h2, h3⟩)
theorem k_sletters (C0 : Cx p s m args meth c G A own cc nL ret) (hW : Wd G A s.heap H ws locs) {idx : Nat} (hlink : Cond.fieldLinkNest own idx RX5 "LETTERS" "[I" "WheelWeeks" ∈ nestW) (hdg : decode cc pc = .ok (.getstatic idx, 3))
    (kk : W p l e R s m args below meth c H locs cells slots Q (F0 m (pc + 3) ls (.ref G.2.2.1 :: rest))) : W p l e R s m args below meth c H locs cells slots Q (F0 m pc ls rest) := by
  obtain ⟨hx, hb, -, -, -, ho, hts, hK, hN, hZ, -⟩ := C0
  exact va_getsN hx hb hZ.1.1 hW.2.2 ho (va_Nw.use rfl (hN _ hlink)) (fun _ h => h) hdg kk
theorem k_sparents (C0 : Cx p s m args meth c G A own cc nL ret) (hW : Wd G A s.heap H ws locs) {idx : Nat} (hlink : Cond.fieldLink own idx RX5 "PARENTS" "[I" ∈ gw) (hdg : decode cc pc = .ok (.getstatic idx, 3))
    (kk : W p l e R s m args below meth c H locs cells slots Q (F0 m (pc + 3) ls (.ref G.2.2.2 :: rest))) : W p l e R s m args below meth c H locs cells slots Q (F0 m pc ls rest) := by
  obtain ⟨hx, hb, -, -, -, ho, hts, hK, hN, hZ, -⟩ := C0
  exact va_gets hx hb hZ.2.1 hW.2.2 ho (hts _ hlink) (fun _ h => h) hdg kk
def lettersA : Ar := fun j => ([99, 115, 101, 103, 105, 117] : List Int32).getD j 0
def parentsA : Ar := fun j => ([0, 0, 0, 2, 0, 4] : List Int32).getD j 0
theorem k_aletters (C0 : Cx p s m args meth c G A own cc nL ret) (hW : Wd G A s.heap H ws locs) {i : Int32} (hin : vp_in i 6) (hdg : decode cc pc = .ok (.iaload, 1))
    (kk : W p l e R s m args below meth c H locs cells slots Q (F0 m (pc + 1) ls (.int (lettersA (ix i)) :: rest))) : W p l e R s m args below meth c H locs cells slots Q (F0 m pc ls (.int i :: .ref G.2.2.1 :: rest)) := by
  obtain ⟨hx, hb, -, -, -, ho, hts, hK, hN, hZ, -⟩ := C0
  exact va_ti hx hb hZ.1.2 hW.2.2 hin rfl hdg kk
theorem k_aparents (C0 : Cx p s m args meth c G A own cc nL ret) (hW : Wd G A s.heap H ws locs) {i : Int32} (hin : vp_in i 6) (hdg : decode cc pc = .ok (.iaload, 1))
    (kk : W p l e R s m args below meth c H locs cells slots Q (F0 m (pc + 1) ls (.int (parentsA (ix i)) :: rest))) : W p l e R s m args below meth c H locs cells slots Q (F0 m pc ls (.int i :: .ref G.2.2.2 :: rest)) := by
  obtain ⟨hx, hb, -, -, -, ho, hts, hK, hN, hZ, -⟩ := C0
  exact va_ti hx hb hZ.2.2 hW.2.2 hin rfl hdg kk
theorem k_iret {v : Int32} {wc' : va_W} (C0 : Cx p s m args meth c G A own cc nL (some .int)) (hW : Wd G A s.heap H wc' locs) (hdg : decode cc pc = .ok (.ireturn, 1)) : W p l e R s m args below meth c H locs cells slots (MQ below (QN G A (some (.int v)) wc') args s cells slots A) (F0 m pc ls [.int v]) := by
  obtain ⟨hx, hb, -, hr, hk, -, -, -, -, -, -⟩ := C0
  exact W.iret hx hb hr (fun t ht _ => ⟨rfl, by rw [ht]; exact hW.1, hW.2.2.F ht⟩) (fun q hq => hW.2.2.2.2 q hq) hdg hk
theorem k_zret {v : Int32} {wc' : va_W} (C0 : Cx p s m args meth c G A own cc nL (some .boolean)) (hW : Wd G A s.heap H wc' locs) (hv : isB v = true) (hdg : decode cc pc = .ok (.ireturn, 1)) : W p l e R s m args below meth c H locs cells slots (MQ below (QN G A (some (.int v)) wc') args s cells slots A) (F0 m pc ls [.int v]) := by
  obtain ⟨hx, hb, -, hr, hk, -, -, -, -, -, -⟩ := C0
  exact W.zret hx hb hr (isB_nar hv) (fun t ht _ => ⟨rfl, by rw [ht]; exact hW.1, hW.2.2.F ht⟩) (fun q hq => hW.2.2.2.2 q hq) hdg hk
theorem k_lret {v : Int64} {wc' : va_W} (C0 : Cx p s m args meth c G A own cc nL (some .long)) (hW : Wd G A s.heap H wc' locs) (hdg : decode cc pc = .ok (.lreturn, 1)) : W p l e R s m args below meth c H locs cells slots (MQ below (QN G A (some (.long v)) wc') args s cells slots A) (F0 m pc ls [.long v]) := by
  obtain ⟨hx, hb, -, hr, hk, -, -, -, -, -, -⟩ := C0
  exact W.lret hx hb hr (fun t ht _ => ⟨rfl, by rw [ht]; exact hW.1, hW.2.2.F ht⟩) (fun q hq => hW.2.2.2.2 q hq) hdg hk
theorem k_vret {wc' : va_W} (C0 : Cx p s m args meth c G A own cc nL none) (hW : Wd G A s.heap H wc' locs) (hdg : decode cc pc = .ok (.return_, 1)) : W p l e R s m args below meth c H locs cells slots (MQ below (QN G A none wc') args s cells slots A) (F0 m pc ls []) := by
  obtain ⟨hx, hb, -, hr, hk, -, -, -, -, -, -⟩ := C0
  exact W.vret hx hb hr (fun t ht _ => ⟨rfl, by rw [ht]; exact hW.1, hW.2.2.F ht⟩) (fun q hq => hW.2.2.2.2 q hq) hdg hk
theorem k_aret {a : Nat} {wc' : va_W} (C0 : Cx p s m args meth c G A own cc nL (some (.array .int))) (hW : Wd G A s.heap H wc' locs) (hdg : decode cc pc = .ok (.areturn, 1)) : W p l e R s m args below meth c H locs cells slots (MQ below (QN G A (some (.ref a)) wc') args s cells slots A) (F0 m pc ls [.ref a]) := by
  obtain ⟨hx, hb, -, hr, hk, -, -, -, -, -, -⟩ := C0
  exact W.aret hx hb hr (Or.inr ⟨_, rfl⟩) (Or.inr ⟨_, rfl⟩) (fun t ht _ => ⟨rfl, by rw [ht]; exact hW.1, hW.2.2.F ht⟩) (fun q hq => hW.2.2.2.2 q hq) hdg hk
end KF
