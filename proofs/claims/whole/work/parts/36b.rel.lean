/-! PURE SIDE: a state put together again, one row at a time (unlike states are slow to be told apart) -/
def RX (x : Ww) (y : Md) : Prop := RelT x y ∧ RS 6 40 (ww_rows x) (md_sizes y) (md_rows y) ∧ RS 4 60 (ww_texts x) (md_textSizes y) (md_bytes y)
theorem RX_of {x : Ww} {y : Md} (h : Rel x y) : RX x y := ⟨h.1, h.2.1, h.2.2.1⟩
theorem RX_readAt {x : Ww} {y : Md} (h : RX x y) (v : Int32) : RX x (md_set_readAt y v) := ⟨h.1, h.2.1, h.2.2⟩
theorem RX_readMany {x : Ww} {y : Md} (h : RX x y) (v : Int32) : RX x (md_set_readMany y v) := ⟨h.1, h.2.1, h.2.2⟩
theorem RX_readGate {x : Ww} {y : Md} (h : RX x y) (v : Int32) : RX x (md_set_readGate y v) := ⟨h.1, h.2.1, h.2.2⟩
theorem RX_isBegun {x : Ww} {y : Md} (h : RX x y) (v : Int32) : RX x (md_set_isBegun y v) := ⟨h.1, h.2.1, h.2.2⟩
theorem RX_readRut {x : Ww} {y : Md} (h : RX x y) (v : Ar) : RX x (md_set_readRut y v) := ⟨h.1, h.2.1, h.2.2⟩
theorem RX_readKind {x : Ww} {y : Md} (h : RX x y) (v : Ar) : RX x (md_set_readKind y v) := ⟨h.1, h.2.1, h.2.2⟩
theorem RX_readLong {x : Ww} {y : Md} (h : RX x y) (v : Ar) : RX x (md_set_readLong y v) := ⟨h.1, h.2.1, h.2.2⟩
theorem RX_readStrong {x : Ww} {y : Md} (h : RX x y) (v : Ar) : RX x (md_set_readStrong y v) := ⟨h.1, h.2.1, h.2.2⟩
theorem RX_n {x : Ww} {y : Md} (h : RX x y) (v : Int32) : RX x (md_set_n y v) := ⟨h.1, h.2.1, h.2.2⟩
theorem RX_gateAt {x : Ww} {y : Md} (h : RX x y) (v : Int32) : RX x (md_set_gateAt y v) := ⟨h.1, h.2.1, h.2.2⟩
theorem RX_ruts {x : Ww} {y : Md} (h : RX x y) (v : Ar) : RX x (md_set_ruts y v) := ⟨h.1, h.2.1, h.2.2⟩
theorem RX_kinds {x : Ww} {y : Md} (h : RX x y) (v : Ar) : RX x (md_set_kinds y v) := ⟨h.1, h.2.1, h.2.2⟩
theorem RX_longs {x : Ww} {y : Md} (h : RX x y) (v : Ar) : RX x (md_set_longs y v) := ⟨h.1, h.2.1, h.2.2⟩
theorem RX_strongs {x : Ww} {y : Md} (h : RX x y) (v : Ar) : RX x (md_set_strongs y v) := ⟨h.1, h.2.1, h.2.2⟩
theorem RX_now {x : Ww} {y : Md} (h : RX x y) (v : Ar) : RX x (md_set_now y v) := ⟨h.1, h.2.1, h.2.2⟩
theorem RX_tried {x : Ww} {y : Md} (h : RX x y) (v : Ar) : RX x (md_set_tried y v) := ⟨h.1, h.2.1, h.2.2⟩
theorem RX_deedMany {x : Ww} {y : Md} (h : RX x y) (v : Int32) : RX x (md_set_deedMany y v) := ⟨h.1, h.2.1, h.2.2⟩
theorem RX_log {x : Ww} {y : Md} (h : RX x y) (v : Ar) : RX x (md_set_log y v) := ⟨h.1, h.2.1, h.2.2⟩
theorem RX_keptMany {x : Ww} {y : Md} (h : RX x y) (v : Ar) : RX x (md_set_keptMany y v) := ⟨h.1, h.2.1, h.2.2⟩
theorem RX_kept {x : Ww} {y : Md} (h : RX x y) (v : Ar) : RX x (md_set_kept y v) := ⟨h.1, h.2.1, h.2.2⟩
theorem RX_outcomes {x : Ww} {y : Md} (h : RX x y) (v : Ar) : RX x (md_set_outcomes y v) := ⟨h.1, h.2.1, h.2.2⟩
theorem RX_parts {x : Ww} {y : Md} (h : RX x y) (v : ArL) : RX x (md_set_parts y v) := ⟨h.1, h.2.1, h.2.2⟩
theorem RX_whole {x : Ww} {y : Md} (h : RX x y) (v : Int64) : RX x (md_set_whole y v) := ⟨h.1, h.2.1, h.2.2⟩
theorem RX_h {x : Ww} {y : Md} (h : RX x y) (v : Int64) : RX x (md_set_h y v) := ⟨h.1, h.2.1, h.2.2⟩
theorem RXw_cart {x : Ww} {y : Md} (h : RX x y) (v : Ct) : RX (ww_set_cart x v) y := ⟨h.1, h.2.1, h.2.2⟩
theorem RXw_kept {x : Ww} {y : Md} (h : RX x y) (v : Nat → Ct) : RX (ww_set_kept x v) y := ⟨h.1, h.2.1, h.2.2⟩
theorem RXw_aside {x : Ww} {y : Md} (h : RX x y) (v : As) : RX (ww_set_aside x v) y := ⟨h.1, h.2.1, h.2.2⟩
theorem RXw_reader {x : Ww} {y : Md} (h : RX x y) {v : Rd} (hd : wh_dry (rd_draft v) = 0) : RX (ww_set_reader x v) y := ⟨⟨h.1.1, h.1.2.1, h.1.2.2.1, h.1.2.2.2.1, h.1.2.2.2.2.1, hd⟩, h.2.1, h.2.2⟩
theorem WX_tried {x : Ww} {y : Md} (h : RelW x y) (v : Ar) : RelW x (md_set_tried y v) := h
theorem WX_whole {x : Ww} {y : Md} (h : RelW x y) (v : Int64) : RelW x (md_set_whole y v) := h
theorem WX_parts {x : Ww} {y : Md} (h : RelW x y) (v : ArL) : RelW x (md_set_parts y v) := h
theorem WX_outcomes {x : Ww} {y : Md} (h : RelW x y) (v : Ar) : RelW x (md_set_outcomes y v) := h
theorem WX_h {x : Ww} {y : Md} (h : RelW x y) (v : Int64) : RelW x (md_set_h y v) := h
theorem WX_readAt {x : Ww} {y : Md} (h : RelW x y) (v : Int32) : RelW x (md_set_readAt y v) := h
theorem WX_readMany {x : Ww} {y : Md} (h : RelW x y) (v : Int32) : RelW x (md_set_readMany y v) := h
theorem WX_readGate {x : Ww} {y : Md} (h : RelW x y) (v : Int32) : RelW x (md_set_readGate y v) := h
theorem WX_isBegun {x : Ww} {y : Md} (h : RelW x y) (v : Int32) : RelW x (md_set_isBegun y v) := h
theorem WX_readRut {x : Ww} {y : Md} (h : RelW x y) (v : Ar) : RelW x (md_set_readRut y v) := h
theorem WX_readKind {x : Ww} {y : Md} (h : RelW x y) (v : Ar) : RelW x (md_set_readKind y v) := h
theorem WX_readLong {x : Ww} {y : Md} (h : RelW x y) (v : Ar) : RelW x (md_set_readLong y v) := h
theorem WX_readStrong {x : Ww} {y : Md} (h : RelW x y) (v : Ar) : RelW x (md_set_readStrong y v) := h
theorem WX_sizes {x : Ww} {y : Md} (h : RelW x y) (v : Ar) : RelW x (md_set_sizes y v) := h
theorem WX_rows {x : Ww} {y : Md} (h : RelW x y) (v : Ar) : RelW x (md_set_rows y v) := h
theorem WX_told {x : Ww} {y : Md} (h : RelW x y) (v : Int32) : RelW x (md_set_told y v) := h
theorem WX_above {x : Ww} {y : Md} (h : RelW x y) (v : Int64) : RelW x (md_set_above y v) := h
theorem WX_below {x : Ww} {y : Md} (h : RelW x y) (v : Int64) : RelW x (md_set_below y v) := h
theorem WXw_aside {x : Ww} {y : Md} (h : RelW x y) (v : As) : RelW (ww_set_aside x v) y := h
theorem WXw_rows {x : Ww} {y : Md} (h : RelW x y) (v : Sh) : RelW (ww_set_rows x v) y := h
theorem WXw_reader {x : Ww} {y : Md} (h : RelW x y) (v : Rd) : RelW (ww_set_reader x v) y := h
theorem WXw_askedLast {x : Ww} {y : Md} (h : RelW x y) (v : Int32) : RelW (ww_set_askedLast x v) y := h
theorem WXw_upperLast {x : Ww} {y : Md} (h : RelW x y) (v : Int64) : RelW (ww_set_upperLast x v) y := h
theorem WXw_lowerLast {x : Ww} {y : Md} (h : RelW x y) (v : Int64) : RelW (ww_set_lowerLast x v) y := h
theorem Rel_tried {x : Ww} {y : Md} (h : Rel x y) (v : Ar) : Rel x (md_set_tried y v) := ⟨(RX_tried (RX_of h) v).1, (RX_tried (RX_of h) v).2.1, (RX_tried (RX_of h) v).2.2, WX_tried h.2.2.2 v⟩
theorem Rel_whole {x : Ww} {y : Md} (h : Rel x y) (v : Int64) : Rel x (md_set_whole y v) := ⟨(RX_whole (RX_of h) v).1, (RX_whole (RX_of h) v).2.1, (RX_whole (RX_of h) v).2.2, WX_whole h.2.2.2 v⟩
theorem Rel_parts {x : Ww} {y : Md} (h : Rel x y) (v : ArL) : Rel x (md_set_parts y v) := ⟨(RX_parts (RX_of h) v).1, (RX_parts (RX_of h) v).2.1, (RX_parts (RX_of h) v).2.2, WX_parts h.2.2.2 v⟩
theorem Rel_outcomes {x : Ww} {y : Md} (h : Rel x y) (v : Ar) : Rel x (md_set_outcomes y v) := ⟨(RX_outcomes (RX_of h) v).1, (RX_outcomes (RX_of h) v).2.1, (RX_outcomes (RX_of h) v).2.2, WX_outcomes h.2.2.2 v⟩
theorem Rel_h {x : Ww} {y : Md} (h : Rel x y) (v : Int64) : Rel x (md_set_h y v) := ⟨(RX_h (RX_of h) v).1, (RX_h (RX_of h) v).2.1, (RX_h (RX_of h) v).2.2, WX_h h.2.2.2 v⟩
theorem Rel_readAt {x : Ww} {y : Md} (h : Rel x y) (v : Int32) : Rel x (md_set_readAt y v) := ⟨(RX_readAt (RX_of h) v).1, (RX_readAt (RX_of h) v).2.1, (RX_readAt (RX_of h) v).2.2, WX_readAt h.2.2.2 v⟩
theorem Rel_readMany {x : Ww} {y : Md} (h : Rel x y) (v : Int32) : Rel x (md_set_readMany y v) := ⟨(RX_readMany (RX_of h) v).1, (RX_readMany (RX_of h) v).2.1, (RX_readMany (RX_of h) v).2.2, WX_readMany h.2.2.2 v⟩
theorem Rel_readGate {x : Ww} {y : Md} (h : Rel x y) (v : Int32) : Rel x (md_set_readGate y v) := ⟨(RX_readGate (RX_of h) v).1, (RX_readGate (RX_of h) v).2.1, (RX_readGate (RX_of h) v).2.2, WX_readGate h.2.2.2 v⟩
theorem Rel_isBegun {x : Ww} {y : Md} (h : Rel x y) (v : Int32) : Rel x (md_set_isBegun y v) := ⟨(RX_isBegun (RX_of h) v).1, (RX_isBegun (RX_of h) v).2.1, (RX_isBegun (RX_of h) v).2.2, WX_isBegun h.2.2.2 v⟩
theorem Rel_readRut {x : Ww} {y : Md} (h : Rel x y) (v : Ar) : Rel x (md_set_readRut y v) := ⟨(RX_readRut (RX_of h) v).1, (RX_readRut (RX_of h) v).2.1, (RX_readRut (RX_of h) v).2.2, WX_readRut h.2.2.2 v⟩
theorem Rel_readKind {x : Ww} {y : Md} (h : Rel x y) (v : Ar) : Rel x (md_set_readKind y v) := ⟨(RX_readKind (RX_of h) v).1, (RX_readKind (RX_of h) v).2.1, (RX_readKind (RX_of h) v).2.2, WX_readKind h.2.2.2 v⟩
theorem Rel_readLong {x : Ww} {y : Md} (h : Rel x y) (v : Ar) : Rel x (md_set_readLong y v) := ⟨(RX_readLong (RX_of h) v).1, (RX_readLong (RX_of h) v).2.1, (RX_readLong (RX_of h) v).2.2, WX_readLong h.2.2.2 v⟩
theorem Rel_readStrong {x : Ww} {y : Md} (h : Rel x y) (v : Ar) : Rel x (md_set_readStrong y v) := ⟨(RX_readStrong (RX_of h) v).1, (RX_readStrong (RX_of h) v).2.1, (RX_readStrong (RX_of h) v).2.2, WX_readStrong h.2.2.2 v⟩
theorem Relw_aside {x : Ww} {y : Md} (h : Rel x y) (v : As) : Rel (ww_set_aside x v) y := ⟨(RXw_aside (RX_of h) v).1, (RXw_aside (RX_of h) v).2.1, (RXw_aside (RX_of h) v).2.2, WXw_aside h.2.2.2 v⟩
theorem Relw_reader {x : Ww} {y : Md} (h : Rel x y) {v : Rd} (hd : wh_dry (rd_draft v) = 0) : Rel (ww_set_reader x v) y := ⟨(RXw_reader (RX_of h) hd).1, (RXw_reader (RX_of h) hd).2.1, (RXw_reader (RX_of h) hd).2.2, WXw_reader h.2.2.2 v⟩
theorem RM_log {y : Md} {c : Cfg} (h : RM y c) (v : Ar) : RM (md_set_log y v) c := h
theorem RM_deedMany {y : Md} {c : Cfg} (h : RM y c) (v : Int32) : RM (md_set_deedMany y v) c := h
theorem RM_keptMany {y : Md} {c : Cfg} (h : RM y c) (v : Ar) : RM (md_set_keptMany y v) c := h
theorem RM_kept {y : Md} {c : Cfg} (h : RM y c) (v : Ar) : RM (md_set_kept y v) c := h
theorem RM_whole {y : Md} {c : Cfg} (h : RM y c) (v : Int64) : RM (md_set_whole y v) c := h
theorem RM_parts {y : Md} {c : Cfg} (h : RM y c) (v : ArL) : RM (md_set_parts y v) c := h
theorem RM_outcomes {y : Md} {c : Cfg} (h : RM y c) (v : Ar) : RM (md_set_outcomes y v) c := h
theorem RM_h {y : Md} {c : Cfg} (h : RM y c) (v : Int64) : RM (md_set_h y v) c := h
theorem RK_log {x : Ww} {y : Md} {c : Cfg} {k : Nat} (h : RK x y c k) (v : Ar) : RK x (md_set_log y v) c k := h
theorem RK_deedMany {x : Ww} {y : Md} {c : Cfg} {k : Nat} (h : RK x y c k) (v : Int32) : RK x (md_set_deedMany y v) c k := h
theorem RK_now {x : Ww} {y : Md} {c : Cfg} {k : Nat} (h : RK x y c k) (v : Ar) : RK x (md_set_now y v) c k := h
theorem RKw_cart {x : Ww} {y : Md} {c : Cfg} {k : Nat} (h : RK x y c k) (v : Ct) : RK (ww_set_cart x v) y c k := h
theorem NW_tried {y : Md} {d : Dyn} (h : RT (md_now y) 0 d) (v : Ar) : RT (md_now (md_set_tried y v)) 0 d := h
theorem NW_whole {y : Md} {d : Dyn} (h : RT (md_now y) 0 d) (v : Int64) : RT (md_now (md_set_whole y v)) 0 d := h
theorem NW_parts {y : Md} {d : Dyn} (h : RT (md_now y) 0 d) (v : ArL) : RT (md_now (md_set_parts y v)) 0 d := h
theorem NW_outcomes {y : Md} {d : Dyn} (h : RT (md_now y) 0 d) (v : Ar) : RT (md_now (md_set_outcomes y v)) 0 d := h
theorem NW_h {y : Md} {d : Dyn} (h : RT (md_now y) 0 d) (v : Int64) : RT (md_now (md_set_h y v)) 0 d := h
theorem relD {x : Ww} {y : Md} {c : Cfg} {E : List (Nat × Nat)} (hT : RelT x y) (hR : RS 6 40 (ww_rows x) (md_sizes y) (md_rows y)) (hX : RS 4 60 (ww_texts x) (md_textSizes y) (md_bytes y)) {ct : Ct} {L nw : Ar} {v : Int32} (h : RWE (ww_set_cart x ct) (md_set_now (md_set_deedMany (md_set_log y L) v) nw) c E) : Rel (ww_set_cart x ct) (md_set_now (md_set_deedMany (md_set_log y L) v) nw) := by
  have h0 : RX x y := ⟨hT, hR, hX⟩
  have k := RXw_cart (RX_now (RX_deedMany (RX_log h0 L) v) nw) ct
  exact ⟨k.1, k.2.1, k.2.2, c, E, h⟩
theorem relU {x : Ww} {y : Md} {c : Cfg} {E : List (Nat × Nat)} (hT : RelT x y) (hR : RS 6 40 (ww_rows x) (md_sizes y) (md_rows y)) (hX : RS 4 60 (ww_texts x) (md_textSizes y) (md_bytes y)) {ct : Ct} {nw : Ar} {v : Int32} (hC : okC c) (hE : okE c E) (hRC : RC ct c E) (hM : RM y c) (hd : v = nI E.length) (hN : RT nw 0 (repN c E)) (hL : ∀ j, j < E.length → RT (md_log y) (12 * j) (repN c (E.take j))) (hK : ∀ k, k < 3 → RK x y c k) : Rel (ww_set_cart x ct) (md_set_deedMany (md_set_now y nw) v) := by
  have h0 : RX x y := ⟨hT, hR, hX⟩
  have k := RXw_cart (RX_deedMany (RX_now h0 nw) v) ct
  exact ⟨k.1, k.2.1, k.2.2, c, E, hC, hE, hRC, RM_deedMany (RM_now hM nw) v, hd, hN, hL, fun q hq => RKw_cart (RK_deedMany (RK_now (hK q hq) nw) v) ct⟩
theorem relO {x : Ww} {y : Md} {c : Cfg} {E : List (Nat × Nat)} (hT : RelT x y) (hR : RS 6 40 (ww_rows x) (md_sizes y) (md_rows y)) (hX : RS 4 60 (ww_texts x) (md_textSizes y) (md_bytes y)) {ct : Ct} {nw L : Ar} {v : Int32} (hC : okC c) (hE : okE c E) (hRC : RC ct c E) (hM : RM y c) (hd : v = nI E.length) (hN : RT nw 0 (repN c E)) (hL : ∀ j, j < E.length → RT L (12 * j) (repN c (E.take j))) (hK : ∀ k, k < 3 → RK x y c k) : Rel (ww_set_cart x ct) (md_set_log (md_set_now (md_set_deedMany y v) nw) L) := by
  have h0 : RX x y := ⟨hT, hR, hX⟩
  have k := RXw_cart (RX_log (RX_now (RX_deedMany h0 v) nw) L) ct
  exact ⟨k.1, k.2.1, k.2.2, c, E, hC, hE, hRC, RM_log (RM_now (RM_deedMany hM v) nw) L, hd, hN, hL, fun q hq => RKw_cart (RK_log (RK_now (RK_deedMany (hK q hq) v) nw) L) ct⟩
theorem relK {x : Ww} {y : Md} {c : Cfg} {E : List (Nat × Nat)} (hT : RelT x y) (hR : RS 6 40 (ww_rows x) (md_sizes y) (md_rows y)) (hX : RS 4 60 (ww_texts x) (md_textSizes y) (md_bytes y)) {K : Nat → Ct} {M P : Ar} (h : RWE x y c E) (hK : ∀ k, k < 3 → RK (ww_set_kept x K) (md_set_kept (md_set_keptMany y M) P) c k) : Rel (ww_set_kept x K) (md_set_kept (md_set_keptMany y M) P) := by
  have h0 : RX x y := ⟨hT, hR, hX⟩
  have k := RXw_kept (RX_kept (RX_keptMany h0 M) P) K
  exact ⟨k.1, k.2.1, k.2.2, c, E, h.1, h.2.1, h.2.2.1, RM_kept (RM_keptMany h.2.2.2.1 M) P, h.2.2.2.2.1, h.2.2.2.2.2.1, h.2.2.2.2.2.2.1, hK⟩
theorem relC {x : Ww} {y : Md} (h : Rel x y) {u v : Int32} (e : u = v) : Rel (ww_set_askedLast x u) (md_set_told y v) := ⟨⟨e, h.1.2⟩, h.2.1, h.2.2.1, h.2.2.2⟩
theorem relA {x : Ww} {y : Md} (h : Rel x y) {a : As} {t : Ar} {u v : Int32} (e : u = v) : Rel (ww_set_askedLast (ww_set_aside x a) u) (md_set_told (md_set_tried y t) v) := relC (Rel_tried (Relw_aside h a) t) e
theorem relA' {x : Ww} {y : Md} (h : Rel x y) {a : As} {u v : Int32} (e : u = v) : Rel (ww_set_askedLast (ww_set_aside x a) u) (md_set_told y v) := relC (Relw_aside h a) e
theorem relB {x : Ww} {y : Md} (h : Rel x y) {a : As} {t : Ar} : Rel (ww_set_aside x a) (md_set_tried y t) := Rel_tried (Relw_aside h a) t
theorem relS {x : Ww} {y : Md} (h : Rel x y) {Z P : Ar} {w : Sh} (hR : RS 6 40 w Z P) : Rel (ww_set_rows x w) (md_set_rows (md_set_sizes y Z) P) := ⟨h.1, hR, h.2.2.1, h.2.2.2⟩
theorem relL {x : Ww} {y : Md} (h : Rel x y) {a : As} {t Z P : Ar} {w : Sh} (hR : RS 6 40 w Z P) : Rel (ww_set_aside (ww_set_rows x w) a) (md_set_rows (md_set_tried (md_set_sizes y Z) t) P) := ⟨h.1, hR, h.2.2.1, h.2.2.2⟩
theorem relH {x : Ww} {y : Md} (h : Rel x y) {z : Int64} : Rel x (md_set_h y z) := Rel_h h z
theorem relQ {x : Ww} {y : Md} (h : Rel x y) {u l : Int64} : Rel (ww_set_lowerLast (ww_set_upperLast x u) l) (md_set_below (md_set_above y u) l) := ⟨⟨h.1.1, rfl, rfl, h.1.2.2.2⟩, h.2.1, h.2.2.1, h.2.2.2⟩
theorem relP {x : Ww} {y : Md} (h : Rel x y) {a : As} {t : Ar} {P : ArL} {u l wh : Int64} : Rel (ww_set_lowerLast (ww_set_upperLast (ww_set_aside x a) u) l) (md_set_below (md_set_above (md_set_parts (md_set_tried (md_set_whole y wh) t) P) u) l) := relQ (Rel_parts (Rel_tried (Rel_whole (Relw_aside h a) wh) t) P)
/-! tried, and tried again -/
theorem tt {y : Md} {a b : Ar} : md_set_tried (md_set_tried y a) b = md_set_tried y b := rfl
theorem tt1 {y : Md} {a : Ar} : md_tried (md_set_tried y a) = a := rfl
theorem copyNow_t {y : Md} {d : Dyn} (hN : RT (md_now y) 0 d) (t : Ar) : ∃ t1, f_X6_copyNow (md_set_tried y t) = some (md_set_tried y t1) ∧ RT t1 0 d := by
  obtain ⟨t1, e1, h1⟩ := copyNow_ok (NW_tried hN t)
  rw [tt] at e1
  exact ⟨t1, e1, h1⟩
theorem mlimps_t {y : Md} {c : Cfg} {d : Dyn} {X : Ar} (hM : RM y c) (hT : RT X 0 d) (hC : okC c) (hD : okD c d) (h3 : 3 ≤ cN c) (hr : dRut d < 500) {n : Nat} (hn : n ≤ 100) (lost : Bool) : ∃ t1, f_X6_limpsIn (md_set_tried y X) (nI n) (nI (if lost then 1 else 0)) = some (nI (limN c lost d n).1, md_set_tried y t1) ∧ RT t1 0 (limN c lost d n).2 := by
  obtain ⟨t1, e1, h1⟩ := mlimps_ok (RM_tried hM X) (show RT (md_tried (md_set_tried y X)) 0 d by rw [tt1]; exact hT) hC hD h3 hr hn lost
  rw [tt] at e1
  exact ⟨t1, e1, h1⟩
