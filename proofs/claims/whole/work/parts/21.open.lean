set_option maxRecDepth 100000 in
set_option maxHeartbeats 8000000 in
/-- the law, from its entry; what is still open: a relation that is kept -/
theorem whole_open {Rel : Ww → Md → Prop} (hS : Sim Rel) (hR0 : Rel ww0 md0) {p : Program} {e : Env} {s : State} {m : MethodId} {below : List Frame} {meth : Method} {c : Code} (l : Launch) {b L : Nat} {xs : Nat → Int32} (hL : L ≤ 384) (D0 : lw_At p s m meth c b L xs) : W p l e room_1 s m #[Value.ref b] below meth c s.heap [] 0 0 (lw_Z below #[Value.ref b] s) (entryFrame m ([Value.ref b] : List Value).toArray 4) := by
  obtain ⟨G, C0, hO⟩ := env_all D0
  have hx := C0.1
  have hb := C0.2.1
  have hX := D0.2.2.2.2.2.2.1
  have hbl := D0.2.2.2.2.2.2.2.1
  have hW : Wd G (fun q => s.heap.size ≤ q) s.heap s.heap ([] : va_W) [] := ⟨fun k q h => by simp at h, ⟨fun i j p q h => by simp at h, fun k q h => by simp at h⟩, va_S.rf⟩
  have hl := lv_entry ([.ref b]) (n := 4) (Nat.le_of_ble_eq_true rfl)
  rw [lg_entry_eq]
  generalize (lg_sl ([.ref b]) ++ List.replicate (4 - (lg_sl ([.ref b])).length) Slot.unset).toArray = ls at hl ⊢
  have hl : lv_has ls 4 [(0, .ref b)] := hl
  refine k_new C0 hW 5 rfl inX5 tyX5_ok mo_cl_L_7 mo_in_5 mz_X5 df_X5 (Nat.le_of_ble_eq_true rfl) (Nat.le_of_ble_eq_true rfl) dL_law_0 (fun q1 H hW => ?_)
  refine lv_dup hx hb dL_law_3 rfl ?_
  refine k_cI (wr := []) (rest := [.ref q1]) C0 hO hW hl.1 (c_X5_init l G q1) cb_X5_init mm_L_9 (by decide) rfl rfl (Nat.le_of_ble_eq_true rfl) ⟨Nat.le_of_ble_eq_true rfl, Nat.le_of_ble_eq_true rfl⟩ dL_law_4 (fun a1 H locs e1 hW1 => ?_)
  subst e1
  have hW : Wd G (fun q => s.heap.size ≤ q) s.heap H (bWw G a1 0 ww0) _ := hW1
  refine lv_astore_n (lv' := [(1, .ref (a1 0)), (0, .ref b)]) hx hb dL_law_7 rfl hl (by decide) rfl (fun ls hl => ?_)
  refine k_new C0 hW 6 rfl inX6 tyX6_ok mo_cl_L_10 mo_in_6 mz_X6 df_X6 (Nat.le_of_ble_eq_true rfl) (Nat.le_of_ble_eq_true rfl) dL_law_8 (fun q2 H hW => ?_)
  refine lv_dup hx hb dL_law_11 rfl ?_
  refine k_cI (wr := bWw G a1 0 ww0) (rest := [.ref q2]) C0 hO hW hl.1 (c_X6_init l G q2) cb_X6_init mm_L_12 (by decide) rfl rfl (Nat.le_of_ble_eq_true rfl) ⟨Nat.le_of_ble_eq_true rfl, Nat.le_of_ble_eq_true rfl⟩ dL_law_12 (fun a2 H locs e2 hW2 => ?_)
  subst e2
  refine lv_astore_n (lv' := [(2, .ref (a2 0)), (1, .ref (a1 0)), (0, .ref b)]) hx hb dL_law_15 rfl hl (by decide) rfl (fun ls hl => ?_)
  refine lv_iconst (v := 0) hx hb dL_law_16 (by decide) ?_
  refine lv_istore_n (lv' := [(3, .int 0), (2, .ref (a2 0)), (1, .ref (a1 0)), (0, .ref b)]) hx hb dL_law_17 rfl hl (by decide) rfl (fun ls hl => ?_)
  exact law_loop hL C0 hX hbl hS (L + 1) 0 0 ww0 md0 _ _ _ (by omega) (Nat.zero_le L) nI_0.symm hR0 (lv_sub hl [3, 2, 1, 0] rfl) hW2
