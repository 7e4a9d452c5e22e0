/-! PURE SIDE: the reference with some rows changed, flat (nested ones are slow to be told apart) -/
def kY (y : Md) (t : Ar) (K : Ar) (L : Ar) (S : Ar) : Md := (md_told y, md_above y, md_below y, md_latest y, md_came y, md_sizes y, md_rows y, md_copied y, md_textSizes y, md_bytes y, md_readAt y, md_readMany y, md_readGate y, md_isBegun y, md_readRut y, md_readKind y, md_readLong y, md_readStrong y, md_n y, md_gateAt y, md_ruts y, K, L, S, md_now y, t, md_deedMany y, md_log y, md_keptMany y, md_kept y, md_outcomes y, md_parts y, md_whole y, md_h y)
theorem kY_s_tried {y : Md} {t : Ar} {K : Ar} {L : Ar} {S : Ar} {u : Ar} : md_set_tried (kY y t K L S) u = kY y u K L S := rfl
theorem kY_f_tried {y : Md} {t : Ar} {K : Ar} {L : Ar} {S : Ar} : md_tried (kY y t K L S) = t := rfl
theorem kY_s_kinds {y : Md} {t : Ar} {K : Ar} {L : Ar} {S : Ar} {u : Ar} : md_set_kinds (kY y t K L S) u = kY y t u L S := rfl
theorem kY_f_kinds {y : Md} {t : Ar} {K : Ar} {L : Ar} {S : Ar} : md_kinds (kY y t K L S) = K := rfl
theorem kY_s_longs {y : Md} {t : Ar} {K : Ar} {L : Ar} {S : Ar} {u : Ar} : md_set_longs (kY y t K L S) u = kY y t K u S := rfl
theorem kY_f_longs {y : Md} {t : Ar} {K : Ar} {L : Ar} {S : Ar} : md_longs (kY y t K L S) = L := rfl
theorem kY_s_strongs {y : Md} {t : Ar} {K : Ar} {L : Ar} {S : Ar} {u : Ar} : md_set_strongs (kY y t K L S) u = kY y t K L u := rfl
theorem kY_f_strongs {y : Md} {t : Ar} {K : Ar} {L : Ar} {S : Ar} : md_strongs (kY y t K L S) = S := rfl
theorem kY_id {y : Md} : kY y (md_tried y) (md_kinds y) (md_longs y) (md_strongs y) = y := rfl
theorem RX_kY {x : Ww} {y : Md} (h : RX x y) (t : Ar) (K : Ar) (L : Ar) (S : Ar) : RX x (kY y t K L S) := ⟨h.1, h.2.1, h.2.2⟩
theorem NW_kY {y : Md} {d : Dyn} (h : RT (md_now y) 0 d) (t : Ar) (K : Ar) (L : Ar) (S : Ar) : RT (md_now (kY y t K L S)) 0 d := h
theorem copy_kY {y : Md} {d : Dyn} (hN : RT (md_now y) 0 d) (t : Ar) (K : Ar) (L : Ar) (S : Ar) : ∃ t1, f_X6_copyNow (kY y t K L S) = some (kY y t1 K L S) ∧ RT t1 0 d := by
  obtain ⟨t1, e1, h1⟩ := copyNow_ok (NW_kY hN t K L S)
  rw [kY_s_tried] at e1
  exact ⟨t1, e1, h1⟩
theorem limps_kY {y : Md} {c : Cfg} {d : Dyn} {t : Ar} {K : Ar} {L : Ar} {S : Ar} (hM : RM (kY y t K L S) c) (hT : RT t 0 d) (hC : okC c) (hD : okD c d) (h3 : 3 ≤ cN c) (hr : dRut d < 500) {n : Nat} (hn : n ≤ 100) (lost : Bool) : ∃ t1, f_X6_limpsIn (kY y t K L S) (nI n) (nI (if lost then 1 else 0)) = some (nI (limN c lost d n).1, kY y t1 K L S) ∧ RT t1 0 (limN c lost d n).2 := by
  obtain ⟨t1, e1, h1⟩ := mlimps_ok hM (show RT (md_tried (kY y t K L S)) 0 d by rw [kY_f_tried]; exact hT) hC hD h3 hr hn lost
  rw [kY_s_tried] at e1
  exact ⟨t1, e1, h1⟩
theorem kY_tr {y : Md} {t : Ar} : md_set_tried y t = kY y t (md_kinds y) (md_longs y) (md_strongs y) := rfl
def pY (y : Md) (wh : Int64) (t : Ar) (P : ArL) : Md := (md_told y, md_above y, md_below y, md_latest y, md_came y, md_sizes y, md_rows y, md_copied y, md_textSizes y, md_bytes y, md_readAt y, md_readMany y, md_readGate y, md_isBegun y, md_readRut y, md_readKind y, md_readLong y, md_readStrong y, md_n y, md_gateAt y, md_ruts y, md_kinds y, md_longs y, md_strongs y, md_now y, t, md_deedMany y, md_log y, md_keptMany y, md_kept y, md_outcomes y, P, wh, md_h y)
theorem pY_s_whole {y : Md} {wh : Int64} {t : Ar} {P : ArL} {u : Int64} : md_set_whole (pY y wh t P) u = pY y u t P := rfl
theorem pY_f_whole {y : Md} {wh : Int64} {t : Ar} {P : ArL} : md_whole (pY y wh t P) = wh := rfl
theorem pY_s_tried {y : Md} {wh : Int64} {t : Ar} {P : ArL} {u : Ar} : md_set_tried (pY y wh t P) u = pY y wh u P := rfl
theorem pY_f_tried {y : Md} {wh : Int64} {t : Ar} {P : ArL} : md_tried (pY y wh t P) = t := rfl
theorem pY_s_parts {y : Md} {wh : Int64} {t : Ar} {P : ArL} {u : ArL} : md_set_parts (pY y wh t P) u = pY y wh t u := rfl
theorem pY_f_parts {y : Md} {wh : Int64} {t : Ar} {P : ArL} : md_parts (pY y wh t P) = P := rfl
theorem pY_id {y : Md} : pY y (md_whole y) (md_tried y) (md_parts y) = y := rfl
theorem RX_pY {x : Ww} {y : Md} (h : RX x y) (wh : Int64) (t : Ar) (P : ArL) : RX x (pY y wh t P) := ⟨h.1, h.2.1, h.2.2⟩
theorem RM_pY {y : Md} {c : Cfg} (h : RM y c) (wh : Int64) (t : Ar) (P : ArL) : RM (pY y wh t P) c := ⟨h.1, h.2.1, h.2.2.1, h.2.2.2⟩
theorem NW_pY {y : Md} {d : Dyn} (h : RT (md_now y) 0 d) (wh : Int64) (t : Ar) (P : ArL) : RT (md_now (pY y wh t P)) 0 d := h
theorem copy_pY {y : Md} {d : Dyn} (hN : RT (md_now y) 0 d) (wh : Int64) (t : Ar) (P : ArL) : ∃ t1, f_X6_copyNow (pY y wh t P) = some (pY y wh t1 P) ∧ RT t1 0 d := by
  obtain ⟨t1, e1, h1⟩ := copyNow_ok (NW_pY hN wh t P)
  rw [pY_s_tried] at e1
  exact ⟨t1, e1, h1⟩
theorem limps_pY {y : Md} {c : Cfg} {d : Dyn} {wh : Int64} {t : Ar} {P : ArL} (hM : RM (pY y wh t P) c) (hT : RT t 0 d) (hC : okC c) (hD : okD c d) (h3 : 3 ≤ cN c) (hr : dRut d < 500) {n : Nat} (hn : n ≤ 100) (lost : Bool) : ∃ t1, f_X6_limpsIn (pY y wh t P) (nI n) (nI (if lost then 1 else 0)) = some (nI (limN c lost d n).1, pY y wh t1 P) ∧ RT t1 0 (limN c lost d n).2 := by
  obtain ⟨t1, e1, h1⟩ := mlimps_ok hM (show RT (md_tried (pY y wh t P)) 0 d by rw [pY_f_tried]; exact hT) hC hD h3 hr hn lost
  rw [pY_s_tried] at e1
  exact ⟨t1, e1, h1⟩
def oY (y : Md) (t : Ar) (O : Ar) : Md := (md_told y, md_above y, md_below y, md_latest y, md_came y, md_sizes y, md_rows y, md_copied y, md_textSizes y, md_bytes y, md_readAt y, md_readMany y, md_readGate y, md_isBegun y, md_readRut y, md_readKind y, md_readLong y, md_readStrong y, md_n y, md_gateAt y, md_ruts y, md_kinds y, md_longs y, md_strongs y, md_now y, t, md_deedMany y, md_log y, md_keptMany y, md_kept y, O, md_parts y, md_whole y, md_h y)
theorem oY_s_tried {y : Md} {t : Ar} {O : Ar} {u : Ar} : md_set_tried (oY y t O) u = oY y u O := rfl
theorem oY_f_tried {y : Md} {t : Ar} {O : Ar} : md_tried (oY y t O) = t := rfl
theorem oY_s_outcomes {y : Md} {t : Ar} {O : Ar} {u : Ar} : md_set_outcomes (oY y t O) u = oY y t u := rfl
theorem oY_f_outcomes {y : Md} {t : Ar} {O : Ar} : md_outcomes (oY y t O) = O := rfl
theorem oY_id {y : Md} : oY y (md_tried y) (md_outcomes y) = y := rfl
theorem RX_oY {x : Ww} {y : Md} (h : RX x y) (t : Ar) (O : Ar) : RX x (oY y t O) := ⟨h.1, h.2.1, h.2.2⟩
theorem RM_oY {y : Md} {c : Cfg} (h : RM y c) (t : Ar) (O : Ar) : RM (oY y t O) c := ⟨h.1, h.2.1, h.2.2.1, h.2.2.2⟩
theorem NW_oY {y : Md} {d : Dyn} (h : RT (md_now y) 0 d) (t : Ar) (O : Ar) : RT (md_now (oY y t O)) 0 d := h
theorem copy_oY {y : Md} {d : Dyn} (hN : RT (md_now y) 0 d) (t : Ar) (O : Ar) : ∃ t1, f_X6_copyNow (oY y t O) = some (oY y t1 O) ∧ RT t1 0 d := by
  obtain ⟨t1, e1, h1⟩ := copyNow_ok (NW_oY hN t O)
  rw [oY_s_tried] at e1
  exact ⟨t1, e1, h1⟩
theorem limps_oY {y : Md} {c : Cfg} {d : Dyn} {t : Ar} {O : Ar} (hM : RM (oY y t O) c) (hT : RT t 0 d) (hC : okC c) (hD : okD c d) (h3 : 3 ≤ cN c) (hr : dRut d < 500) {n : Nat} (hn : n ≤ 100) (lost : Bool) : ∃ t1, f_X6_limpsIn (oY y t O) (nI n) (nI (if lost then 1 else 0)) = some (nI (limN c lost d n).1, oY y t1 O) ∧ RT t1 0 (limN c lost d n).2 := by
  obtain ⟨t1, e1, h1⟩ := mlimps_ok hM (show RT (md_tried (oY y t O)) 0 d by rw [oY_f_tried]; exact hT) hC hD h3 hr hn lost
  rw [oY_s_tried] at e1
  exact ⟨t1, e1, h1⟩
theorem oY_tr {y : Md} {t : Ar} : md_set_tried y t = oY y t (md_outcomes y) := rfl
theorem Rel_kY {x : Ww} {y : Md} (h : Rel x y) (t : Ar) : Rel x (kY y t (md_kinds y) (md_longs y) (md_strongs y)) := by rw [← kY_tr]; exact Rel_tried h t
theorem Rel_pY {x : Ww} {y : Md} (h : Rel x y) (wh : Int64) (t : Ar) (P : ArL) : Rel x (pY y wh t P) := ⟨(RX_pY (RX_of h) wh t P).1, (RX_pY (RX_of h) wh t P).2.1, (RX_pY (RX_of h) wh t P).2.2, h.2.2.2⟩
theorem Rel_oY {x : Ww} {y : Md} (h : Rel x y) (t O : Ar) : Rel x (oY y t O) := ⟨(RX_oY (RX_of h) t O).1, (RX_oY (RX_of h) t O).2.1, (RX_oY (RX_of h) t O).2.2, h.2.2.2⟩
