/-! PURE SIDE: fault, wheel -/
theorem mbody_sp {Y y2 : Md} {G : Ar} {t k p m b p2 : Nat} (hy : MR Y G t k p m) (ht : t < 4) (hk : k ≤ 60) (hp : p < k) (hG : ¬ G p = 32) (hbeg : md_isBegun Y = 1) (r2 : f_X6_readsSpoke Y (nI t) = some (nI b, y2)) (r5 : md_readAt y2 = nI p2) : f_X6_faultOf_L15 (nI t) Y = if nI b = 0 then some (Sum.inr (nI p2, y2)) else some (Sum.inl y2) := by
  show f_X6_faultOf_B15 (nI t) Y = _
  unfold f_X6_faultOf_B15 f_X6_faultOf_J81
  rw [gd_b ht (by decide), ix_n (by omega), hy.2.1, hy.2.2.1, if_neg (nI_ge hp (by omega)), letter_ok hy ht hk (by omega), ob_some, if_pos hp, if_neg hG, hbeg, if_neg (show ¬ (1 : Int32) = 0 by decide), r2, ob_some]
  dsimp only
  rw [r5]
  rfl
theorem mbody_rd {Y y2 : Md} {G : Ar} {t k p m b p2 : Nat} (hy : MR Y G t k p m) (ht : t < 4) (hk : k ≤ 60) (hp : p < k) (hG : ¬ G p = 32) (hbeg : md_isBegun Y = 0) (r2 : f_X6_readsRoad Y (nI t) = some (nI b, y2)) (r5 : md_readAt y2 = nI p2) : f_X6_faultOf_L15 (nI t) Y = if nI b = 0 then some (Sum.inr (nI p2, y2)) else some (Sum.inl y2) := by
  show f_X6_faultOf_B15 (nI t) Y = _
  unfold f_X6_faultOf_B15 f_X6_faultOf_J81
  rw [gd_b ht (by decide), ix_n (by omega), hy.2.1, hy.2.2.1, if_neg (nI_ge hp (by omega)), letter_ok hy ht hk (by omega), ob_some, if_pos hp, if_neg hG, hbeg, if_pos (show (0 : Int32) = 0 from rfl), r2, ob_some]
  dsimp only
  rw [r5]
  rfl
theorem mbody_end {Y : Md} {G : Ar} {t k p m : Nat} (hy : MR Y G t k p m) (ht : t < 4) (hk : k ≤ 60) (hp : k ≤ p) (hp2 : p ≤ 60) (hm : m ≤ 8) : f_X6_faultOf_L15 (nI t) Y = some (Sum.inr (if 3 ≤ m then -9 else nI k, Y)) := by
  show f_X6_faultOf_B15 (nI t) Y = _
  unfold f_X6_faultOf_B15 f_X6_faultOf_J86
  rw [gd_b ht (by decide), ix_n (by omega), hy.2.1, hy.2.2.1, if_pos (nI_le hp (by omega)), hy.2.2.2, gd_b ht (by decide)]
  by_cases e : 3 ≤ m
  · rw [if_pos (show (3 : Int32) ≤ nI m from nI_le (a := 3) e (by omega)), if_pos e]; rfl
  · rw [if_neg (show ¬ (3 : Int32) ≤ nI m from nI_ge (b := 3) (by omega) (by decide)), if_neg e]; rfl
theorem read_in {W0 : Rd} {Y0 : Md} {G f : Ar} {t k : Nat} (hw0 : CR W0 G k 0 0) (hy0 : MR Y0 G t k 0 0) (hb0 : md_isBegun Y0 = 0) (ht : t < 4) (hk : k ≤ 60) : ∃ r w1 y1, Option.bind (f_X2_skipBlanks W0) (fun q31 => Option.bind (f_X2_readRoad q31) (fun q35 => if q35.1 = 0 then (some ((rd_place q35.2), q35.2)) else (Option.bind (f_X2_skipBlanks q35.2) (fun q47 => lp (f_X2_read_L52 60 f) fuel ((0 : Int32), q47))))) = some (r, w1) ∧ lp (f_X6_faultOf_L15 (nI t)) fuel Y0 = some (r, y1) ∧ FR Y0 y1 ∧ wh_dry (rd_draft w1) = wh_dry (rd_draft W0) ∧ (r = -9 → ∃ c : Cfg, 3 ≤ cN c ∧ okB c ∧ wh_spokes (rd_draft w1) = nI (cN c) ∧ CD c w1 ∧ md_readMany y1 = nI (cN c) ∧ MD c y1) := by
  obtain ⟨p1, -, p1k, hstop, hbl, e1⟩ := cskip_ok hw0 hk (Nat.zero_le _)
  have g1 := mskip_ok hy0 ht hk (Nat.zero_le p1) p1k hbl
  have hw1 := cr_at hw0 p1
  have hy1 := mr_at hy0 p1
  rw [e1, ob_some]
  by_cases hp : p1 < k
  · have hG : ¬ G p1 = 32 := hstop.resolve_left (by omega)
    obtain ⟨b, w2, y2, p2, r1, r2, r3, r4, r4d, r5, r6, r7⟩ := road_ok hw1 hy1 ht hk hp
    have hbd := mbody_rd hy1 ht hk hp hG (show md_isBegun (md_set_readAt Y0 (nI p1)) = 0 from hb0) r2 r5
    rw [r1, ob_some]
    dsimp only
    rcases r7 with rfl | ⟨rfl, h2, h3, h4, h5, c, c0, hB, hc, hm⟩
    · rw [if_pos (show nI 0 = 0 from nI_0)] at hbd ⊢
      exact ⟨nI p2, w2, y2, by rw [r4], go_end g1 (by omega) hbd, fr_t (fr_at _ _) r3, r4d, fun h => absurd h (nI_ne_m9 (by omega))⟩
    · rw [if_neg (show ¬ nI 1 = 0 by decide)] at hbd ⊢
      obtain ⟨p3, p23, p3k, hstop3, hbl3, e3⟩ := cskip_ok h3 hk r6
      have g3 := mskip_ok h4 ht hk p23 p3k hbl3
      have gg := go_t (go_t g1 (go_1 hbd)) g3
      rw [e3, ob_some]
      have key : ∃ o, lp (f_X2_read_L52 60 f) fuel ((0 : Int32), rd_set_place w2 (nI p3)) = some o ∧ ∃ r w1 y1, o = (r, w1) ∧ lp (f_X6_faultOf_L15 (nI t)) fuel Y0 = some (r, y1) ∧ FR Y0 y1 ∧ wh_dry (rd_draft w1) = wh_dry (rd_draft W0) ∧ (r = -9 → ∃ c : Cfg, 3 ≤ cN c ∧ okB c ∧ wh_spokes (rd_draft w1) = nI (cN c) ∧ CD c w1 ∧ md_readMany y1 = nI (cN c) ∧ MD c y1) := by
        refine lp_i (fun q s => ∃ (w : Rd) (p : Nat) (c : Cfg) (Y : Md) (j : Nat), s = (nI q, w) ∧ cN c = q ∧ okB c ∧ CR w G k p (cN c) ∧ MR Y G t k p (cN c) ∧ CD c w ∧ MD c Y ∧ md_isBegun Y = 1 ∧ FR Y0 Y ∧ wh_dry (rd_draft w) = wh_dry (rd_draft W0) ∧ Go (f_X6_faultOf_L15 (nI t)) Y0 j Y ∧ j ≤ p ∧ p ≤ k ∧ (p = k ∨ ¬ G p = 32)) _ 8 ⟨rd_set_place w2 (nI p3), p3, c, md_set_readAt y2 (nI p3), _, rfl, c0, hB, by rw [c0]; exact cr_at h3 p3, by rw [c0]; exact mr_at h4 p3, hc, hm, h5, fr_t (fr_t (fr_at _ _) r3) (fr_at _ _), r4d, gg, by omega, p3k, hstop3⟩ (by omega) ?_
        rintro q s hq ⟨w, p, c, Y, j, rfl, cq, hB, hw, hy, hc, hm, hbeg, hF, hdr, hgo, hj, hpk, hst⟩
        show (_ ∧ ∃ s1, f_X2_read_B52 60 f (nI q) w = _ ∧ _) ∨ ∃ o, f_X2_read_B52 60 f (nI q) w = _ ∧ _
        unfold f_X2_read_B52
        rw [if_neg (show ¬ (60 : Int32) ≤ nI q from nI_ge (b := 60) (by omega) (by decide)), hw.2.1, hw.2.2.1]
        by_cases hpk2 : k ≤ p
        · right
          have hend := mbody_end hy ht hk hpk2 (by omega) hB.1
          rw [if_pos (nI_le hpk2 (by omega))]
          unfold f_X2_read_J91
          rw [hw.2.2.2, hw.2.1]
          by_cases h3 : 3 ≤ cN c
          · rw [if_pos h3] at hend
            rw [if_pos (show (3 : Int32) ≤ nI (cN c) from nI_le (a := 3) h3 (by omega))]
            exact ⟨_, rfl, -9, w, Y, rfl, go_end hgo (by omega) hend, hF, hdr, fun _ => ⟨c, h3, hB, hw.2.2.2, hc, hy.2.2.2, hm⟩⟩
          · rw [if_neg h3] at hend
            rw [if_neg (show ¬ (3 : Int32) ≤ nI (cN c) from nI_ge (b := 3) (by omega) (by decide))]
            exact ⟨_, rfl, nI k, w, Y, rfl, go_end hgo (by omega) hend, hF, hdr, fun h => absurd h (nI_ne_m9 (by omega))⟩
        · have hG : ¬ G p = 32 := hst.resolve_left (by omega)
          obtain ⟨b, w2, y2, p2, r1, r2, r3, r4, r4d, r5, r6, rb, r7⟩ := rspoke_ok hw hy hB hc hm ht hk (by omega)
          have hbd := mbody_sp hy ht hk (by omega) hG hbeg r2 r5
          rw [if_neg (nI_ge (by omega) (by omega)), r1, ob_some]
          dsimp only
          rcases r7 with rfl | ⟨rfl, h2, c1, cc, hB1, hw1, hy1, hc1, hm1⟩
          · right
            rw [if_pos (show nI 0 = 0 from nI_0)] at hbd ⊢
            exact ⟨_, rfl, nI p2, w2, y2, by rw [r4], go_end hgo (by omega) hbd, fr_t hF r3, r4d.trans hdr, fun h => absurd h (nI_ne_m9 (by omega))⟩
          · left
            rw [if_neg (show ¬ nI 1 = 0 by decide)] at hbd ⊢
            obtain ⟨p3, p23, p3k, hstop3, hbl3, e3⟩ := cskip_ok hw1 hk r6
            have g3 := mskip_ok hy1 ht hk p23 p3k hbl3
            have h8 := hB1.1
            rw [e3, ob_some, nI_1]
            exact ⟨by omega, _, rfl, rd_set_place w2 (nI p3), p3, c1, md_set_readAt y2 (nI p3), _, rfl, by omega, hB1, cr_at hw1 p3, mr_at hy1 p3, hc1, hm1, rb.trans hbeg, fr_t (fr_t hF r3) (fr_at _ _), r4d.trans hdr, go_t (go_t hgo (go_1 hbd)) g3, by omega, p3k, hstop3⟩
      obtain ⟨o, e, r, w1, y1, rfl, h⟩ := key
      exact ⟨r, w1, y1, e, h⟩
  · have hend := mbody_end hy1 ht hk (by omega) (by omega) (by omega)
    rw [if_neg (by omega)] at hend
    have hr : f_X2_readRoad (rd_set_place W0 (nI p1)) = some (0, rd_set_place W0 (nI p1)) := by
      unfold f_X2_readRoad
      rw [hw1.2.1, hw1.2.2.1, if_pos (nI_le (by omega) (by omega))]
    rw [hr, ob_some, if_pos (show ((0 : Int32), rd_set_place W0 (nI p1)).1 = 0 from rfl)]
    refine ⟨nI k, rd_set_place W0 (nI p1), md_set_readAt Y0 (nI p1), ?_, go_end g1 (by omega) hend, fr_at _ _, rfl, fun h => absurd h (nI_ne_m9 (by omega))⟩
    rw [show k = p1 by omega]; rfl
theorem mr_start {y : Md} {f : Ar} {t k : Nat} (h1 : ∀ j, j < 60 → md_bytes y (60 * t + j) = f j) (h2 : md_textSizes y t = nI k) {a m b : Int32} (ea : a = nI 0) (em : m = nI 0) : MR (md_set_isBegun (md_set_readMany (md_set_readAt y a) m) b) f t k 0 0 := ⟨h1, h2, ea, em⟩
theorem read_ok {rd : Rd} {f : Ar} {y : Md} {t k : Nat} (ht : t < 4) (hk : k ≤ 60) (hs : md_textSizes y t = nI k) (hf : ∀ j, j < 60 → f j = md_bytes y (60 * t + j)) : ∃ r w1 y1, f_X2_read 60 rd f (nI k) = some (r, w1) ∧ f_X6_faultOf y (nI t) = some (r, y1) ∧ FR y y1 ∧ wh_dry (rd_draft w1) = wh_dry (rd_draft rd) ∧ (r = -9 → ∃ c : Cfg, 3 ≤ cN c ∧ okB c ∧ wh_spokes (rd_draft w1) = nI (cN c) ∧ CD c w1 ∧ md_readMany y1 = nI (cN c) ∧ MD c y1) := by
  have hw0 : CR (rd_set_place (rd_set_size (rd_set_signs (rd_set_draft rd (wh_set_spokes (rd_draft rd) (0 : Int32))) (acpy f (rd_signs rd) (0 : Int32) (0 : Int32) (60 : Int32))) (nI k)) (0 : Int32)) f k 0 0 := ⟨fun j hj => sb_cpy0 hj, rfl, rfl, rfl⟩
  have hy0 : MR (md_set_isBegun (md_set_readMany (md_set_readAt y (0 : Int32)) (0 : Int32)) (0 : Int32)) f t k 0 0 := mr_start (fun j hj => (hf j hj).symm) hs rfl rfl
  have hF0 : FR y (md_set_isBegun (md_set_readMany (md_set_readAt y (0 : Int32)) (0 : Int32)) (0 : Int32)) := fr_t (fr_t (fr_at y 0) (fr_many _ 0)) (fr_begun _ 0)
  obtain ⟨r, w1, y1, e1, e2, e3, e4, e5⟩ := read_in (f := f) hw0 hy0 rfl ht hk
  refine ⟨r, w1, y1, ?_, e2, fr_t hF0 e3, e4, e5⟩
  unfold f_X2_read
  rw [gd_t (show cpyok (0 : Int32) (0 : Int32) (60 : Int32) 60 60 = true by decide)]
  exact e1
theorem s_fault : S_fault Rel := by
  intro x y h v
  unfold f_X5_fault f_X6_fault
  rcases num_cases v 4 (by decide) with hb | ⟨t, ht, rfl⟩
  · rw [tmiss_bad hb, isText_bad hb]
    exact ⟨-1, x, y, rfl, rfl, h⟩
  · rw [tmiss_in ht, isText_in ht, ob_some, if_neg (show ¬ (1 : Int32) = 0 by decide), gd_b ht (by decide), ix_n (j := t) (by omega)]
    rcases size_cases h.2.2.1 ht with ⟨e1, e2⟩ | ⟨k, hk, e1, e2⟩
    · obtain ⟨x1, y1, g1, g2, g3⟩ := refuse_ok h (f := 1) (by decide)
      refine ⟨-3, x1, y1, ?_, ?_, g3⟩
      · rw [if_pos e2, show f_X5_refuse x 1 = some (-3, x1) from g1]; rfl
      · rw [e1, if_neg (by decide), show f_X6_meets y 1 = some (-3, y1) from g2]; rfl
    · obtain ⟨r, w1, y1, g1, g2, g3, g4, -⟩ := read_ok (rd := ww_reader x) (f := sh_places (ww_texts x) t) (y := y) ht hk e1 (fun j hj => (h.2.2.1.2 t ht).2.2 j hj)
      rw [if_neg (show ¬ sh_sizes (ww_texts x) t = -1 by rw [e2]; exact nI_ne_m1 (by omega)), e1, if_pos (nI_pos' (by omega)), ob_some, if_pos (show ((0 : Int32), x).1 = 0 from rfl), g2]
      dsimp only
      unfold f_X3_placesOf f_X3_sizeOf
      rw [gd_b ht (by decide), gd_b ht (by decide), ob_some, ix_n (j := t) (by omega), e2, ob_some, g1]
      exact ⟨r, ww_set_reader x w1, y1, rfl, rfl, Relw_reader ((g3 x).1 h) (g4.trans h.1.2.2.2.2.2)⟩
/-! wheel -/
theorem take2_ok {w v : Wh} {c : Cfg} (hd : wh_dry v = 0) (hn : cN c ≤ 8) (hs : wh_spokes v = nI (cN c)) (hg : wh_gateRut v = nI (cGate c)) (hr : ∀ k, k < 8 → wh_depths v k = nI (cRut c k)) (hk : ∀ i, i < cN c → wh_kind v i = nI (cKind c i) ∧ wh_length v i = nI (cLong c i) ∧ wh_strong v i = nI (cStrong c i)) : ∃ w1, f_X4_take w v = some w1 ∧ wh_spokes w1 = nI (cN c) ∧ wh_gateRut w1 = nI (cGate c) ∧ (∀ k, k < 8 → wh_depths w1 k = nI (cRut c k)) ∧ ∀ i, i < cN c → wh_kind w1 i = nI (cKind c i) ∧ wh_length w1 i = nI (cLong c i) ∧ wh_strong w1 i = nI (cStrong c i) := by
  have hcp : ∀ (f g : Ar) (j : Nat), j < 8 → acpy f g (0 : Int32) (0 : Int32) (8 : Int32) j = f j := fun f g j hj => sb_cpy0 hj
  unfold f_X4_take
  rw [gd_t (show isB (wh_dry v) = true by rw [hd]; rfl)]
  refine ⟨_, rfl, hs, hg, fun k hk8 => ?_, fun i hi => ?_⟩
  · exact (hcp _ _ k hk8).trans (hr k hk8)
  · obtain ⟨a1, a2, a3⟩ := hk i hi
    exact ⟨(hcp _ _ i (by omega)).trans a1, (hcp _ _ i (by omega)).trans a2, (hcp _ _ i (by omega)).trans a3⟩
theorem start2_ok {w : Wh} {c : Cfg} (hn : cN c ≤ 8) (hs : wh_spokes w = nI (cN c)) (hg : wh_gateRut w = nI (cGate c)) (hr : ∀ k, k < 8 → wh_depths w k = nI (cRut c k)) (hk : ∀ i, i < cN c → wh_kind w i = nI (cKind c i) ∧ wh_length w i = nI (cLong c i) ∧ wh_strong w i = nI (cStrong c i)) : ∃ w1, f_X4_start w = some w1 ∧ RW w1 c (startN c) := by
  obtain ⟨g, e1, e2, -⟩ := fill_ok (n := 8) (by decide) (wh_wear w) 0
  unfold f_X4_start
  rw [e1, ob_some]
  refine ⟨_, rfl, hs, hg, rfl, rfl, ?_, rfl, hr, fun i hi => e2 i hi, hk⟩
  show jshl (nI 1) (wh_spokes w) - nI 1 = nI (2 ^ cN c - 1)
  rw [hs, tb_all _ (by omega)]
theorem begin_ok {w : Ct} {v : Wh} {c : Cfg} (hd : wh_dry v = 0) (hn : cN c ≤ 8) (hs : wh_spokes v = nI (cN c)) (hg : wh_gateRut v = nI (cGate c)) (hr : ∀ k, k < 8 → wh_depths v k = nI (cRut c k)) (hk : ∀ i, i < cN c → wh_kind v i = nI (cKind c i) ∧ wh_length v i = nI (cLong c i) ∧ wh_strong v i = nI (cStrong c i)) : ∃ w1, f_X1_begin w v = some w1 ∧ RC w1 c [] := by
  obtain ⟨u, e1, u1, u2, u3, u4⟩ := take2_ok (w := ct_wheel w) hd hn hs hg hr hk
  obtain ⟨u', e2, h2⟩ := start2_ok hn u1 u2 u3 u4
  unfold f_X1_begin
  rw [e1, ob_some, e2, ob_some]
  exact ⟨_, rfl, h2, rfl, fun j e h => by simp at h⟩
theorem cwk_b {w : Ww} {q : Nat} (hq : q < 3) : f_X5_wheel_B63 (nI q) w = some (Sum.inl (nI q + 1, ww_set_kept w (updK (ww_kept w) q (ct_set_done (ww_kept w q) (-1 : Int32))))) := by
  match q, hq with
  | 0, _ => rfl
  | 1, _ => rfl
  | 2, _ => rfl
  | k + 3, h => exact absurd h (by omega)
theorem cwk_ok (w : Ww) : ∃ K, lp f_X5_wheel_L63 fuel ((0 : Int32), w) = some (wh_spokes (ct_wheel (ww_cart w)), ww_set_kept w K) ∧ ∀ k, k < 3 → ct_done (K k) = -1 := by
  have key : ∃ o, lp f_X5_wheel_L63 fuel ((0 : Int32), w) = some o ∧ ∃ K, o = (wh_spokes (ct_wheel (ww_cart w)), ww_set_kept w K) ∧ ∀ k, k < 3 → ct_done (K k) = -1 := by
    refine lp_e (fun q s => ∃ K, s = (nI q, ww_set_kept w K) ∧ ∀ k, k < q → ct_done (K k) = -1) _ 3 ⟨ww_kept w, rfl, fun k hk => absurd hk (by omega)⟩ (by omega) ?_ ?_
    · rintro q s hq ⟨K, rfl, hK⟩
      refine ⟨(nI (q + 1), ww_set_kept w (updK K q (ct_set_done (K q) (-1 : Int32)))), ?_, _, rfl, fun k hk => ?_⟩
      · show f_X5_wheel_B63 (nI q) (ww_set_kept w K) = _
        rw [cwk_b hq, nI_1]; rfl
      · unfold updK
        by_cases e : k = q
        · rw [if_pos e]; rfl
        · rw [if_neg e]; exact hK k (by omega)
    · rintro s ⟨K, rfl, hK⟩
      refine ⟨_, ?_, K, rfl, hK⟩
      show f_X5_wheel_B63 (nI 3) (ww_set_kept w K) = _
      unfold f_X5_wheel_B63 f_X5_wheel_J84
      rw [if_pos (show (3 : Int32) ≤ nI 3 by decide)]; rfl
  obtain ⟨o, e, K, rfl, h⟩ := key
  exact ⟨K, e, h⟩
theorem mwk_ok (y : Md) : ∃ M, lp f_X6_wheel_L173 fuel ((0 : Int32), y) = some (md_n y, md_set_keptMany y M) ∧ ∀ k, k < 3 → M k = -1 := by
  have key : ∃ o, lp f_X6_wheel_L173 fuel ((0 : Int32), y) = some o ∧ ∃ M, o = (md_n y, md_set_keptMany y M) ∧ ∀ k, k < 3 → M k = -1 := by
    refine lp_e (fun q s => ∃ M, s = (nI q, md_set_keptMany y M) ∧ ∀ k, k < q → M k = -1) _ 3 ⟨md_keptMany y, rfl, fun k hk => absurd hk (by omega)⟩ (by omega) ?_ ?_
    · rintro q s hq ⟨M, rfl, hM⟩
      refine ⟨(nI (q + 1), md_set_keptMany y (upd M q (-1))), ?_, _, rfl, fun k hk => ?_⟩
      · show f_X6_wheel_B173 (nI q) (md_set_keptMany y M) = _
        unfold f_X6_wheel_B173
        rw [if_neg (show ¬ (3 : Int32) ≤ nI q from nI_ge hq (by decide)), gd_b hq (by decide), ix_n (by omega), nI_1]; rfl
      · by_cases e : k = q
        · subst e; rw [upd_s]
        · rw [upd_n e]; exact hM k (by omega)
    · rintro s ⟨M, rfl, hM⟩
      refine ⟨_, ?_, M, rfl, hM⟩
      show f_X6_wheel_B173 (nI 3) (md_set_keptMany y M) = _
      unfold f_X6_wheel_B173 f_X6_wheel_J191
      rw [if_pos (show (3 : Int32) ≤ nI 3 by decide)]; rfl
  obtain ⟨o, e, M, rfl, h⟩ := key
  exact ⟨M, e, h⟩
theorem mw131_ok (y : Md) : ∃ N M, f_X6_wheel_J131 y = some (md_n y, md_set_keptMany (md_set_deedMany (md_set_now y N) 0) M) ∧ (∀ k, k < 3 → M k = -1) ∧ N 3 = jshl (1 : Int32) (md_n y) - 1 ∧ ∀ j, j < 12 → j ≠ 3 → N j = 0 := by
  have key : ∃ o, f_X6_wheel_J131 y = some o ∧ ∃ N M, o = (md_n y, md_set_keptMany (md_set_deedMany (md_set_now y N) 0) M) ∧ (∀ k, k < 3 → M k = -1) ∧ N 3 = jshl (1 : Int32) (md_n y) - 1 ∧ ∀ j, j < 12 → j ≠ 3 → N j = 0 := by
    unfold f_X6_wheel_J131
    refine lp_e (fun q s => ∃ N, s = (nI q, md_set_now y N) ∧ ∀ j, j < q → N j = 0) _ 12 ⟨md_now y, rfl, fun k hk => absurd hk (by omega)⟩ (by omega) ?_ ?_
    · rintro q s hq ⟨N, rfl, hN⟩
      refine ⟨(nI (q + 1), md_set_now y (upd N q 0)), ?_, _, rfl, fun k hk => ?_⟩
      · show f_X6_wheel_B133 (nI q) (md_set_now y N) = _
        unfold f_X6_wheel_B133
        rw [if_neg (show ¬ (12 : Int32) ≤ nI q from nI_ge hq (by decide)), gd_b hq (by decide), ix_n (by omega), nI_1]; rfl
      · by_cases e : k = q
        · subst e; rw [upd_s]
        · rw [upd_n e]; exact hN k (by omega)
    · rintro s ⟨N, rfl, hN⟩
      obtain ⟨M, e, hM⟩ := mwk_ok (md_set_deedMany (md_set_now y (upd N 3 (jshl (1 : Int32) (md_n y) - 1))) 0)
      refine ⟨_, ?_, upd N 3 (jshl (1 : Int32) (md_n y) - 1), M, rfl, hM, upd_s, fun j hj hj3 => by rw [upd_n hj3]; exact hN j hj⟩
      show f_X6_wheel_B133 (nI 12) (md_set_now y N) = _
      unfold f_X6_wheel_B133 f_X6_wheel_J152
      rw [if_pos (show (12 : Int32) ≤ nI 12 by decide)]
      exact map_inr e
  obtain ⟨o, e, N, M, rfl, h⟩ := key
  exact ⟨N, M, e, h⟩
theorem mw79_ok {y : Md} {n : Nat} (hn : md_n y = nI n) (h8 : n ≤ 8) : ∃ K L S N M, f_X6_wheel_J79 y = some (nI n, md_set_keptMany (md_set_deedMany (md_set_now (kY y (md_tried y) K L S) N) 0) M) ∧ (∀ i, i < n → K i = md_readKind y i ∧ L i = md_readLong y i ∧ S i = md_readStrong y i) ∧ (∀ k, k < 3 → M k = -1) ∧ N 3 = jshl (1 : Int32) (nI n) - 1 ∧ ∀ j, j < 12 → j ≠ 3 → N j = 0 := by
  have hkn : ∀ K L S : Ar, md_n (kY y (md_tried y) K L S) = nI n := fun _ _ _ => hn
  have hk1 : ∀ K L S : Ar, md_readKind (kY y (md_tried y) K L S) = md_readKind y := fun _ _ _ => rfl
  have hk2 : ∀ K L S : Ar, md_readLong (kY y (md_tried y) K L S) = md_readLong y := fun _ _ _ => rfl
  have hk3 : ∀ K L S : Ar, md_readStrong (kY y (md_tried y) K L S) = md_readStrong y := fun _ _ _ => rfl
  have key : ∃ o, f_X6_wheel_J79 y = some o ∧ ∃ K L S N M, o = (nI n, md_set_keptMany (md_set_deedMany (md_set_now (kY y (md_tried y) K L S) N) 0) M) ∧ (∀ i, i < n → K i = md_readKind y i ∧ L i = md_readLong y i ∧ S i = md_readStrong y i) ∧ (∀ k, k < 3 → M k = -1) ∧ N 3 = jshl (1 : Int32) (nI n) - 1 ∧ ∀ j, j < 12 → j ≠ 3 → N j = 0 := by
    unfold f_X6_wheel_J79
    refine lp_e (fun q s => ∃ K L S, s = (nI q, kY y (md_tried y) K L S) ∧ ∀ i, i < q → K i = md_readKind y i ∧ L i = md_readLong y i ∧ S i = md_readStrong y i) _ n ⟨md_kinds y, md_longs y, md_strongs y, rfl, fun k hk => absurd hk (by omega)⟩ (by omega) ?_ ?_
    · rintro q s hq ⟨K, L, S, rfl, hI⟩
      refine ⟨(nI (q + 1), kY y (md_tried y) (upd K q (md_readKind y q)) (upd L q (md_readLong y q)) (upd S q (md_readStrong y q))), ?_, _, _, _, rfl, fun k hk => ?_⟩
      · show f_X6_wheel_B81 (nI q) (kY y (md_tried y) K L S) = _
        unfold f_X6_wheel_B81
        rw [hkn, if_neg (nI_ge hq (by omega)), gd_b (show q < 8 by omega) (by decide), gd_b (show q < 8 by omega) (by decide), gd_b (show q < 8 by omega) (by decide), gd_b (show q < 8 by omega) (by decide), gd_b (show q < 8 by omega) (by decide), gd_b (show q < 8 by omega) (by decide), ix_n (by omega), nI_1, hk1, hk2, hk3, kY_f_kinds, kY_f_longs, kY_f_strongs, kY_s_kinds, kY_s_longs, kY_s_strongs]
      · by_cases e : k = q
        · subst e; rw [upd_s, upd_s, upd_s]; exact ⟨rfl, rfl, rfl⟩
        · rw [upd_n e, upd_n e, upd_n e]; exact hI k (by omega)
    · rintro s ⟨K, L, S, rfl, hI⟩
      obtain ⟨N, M, e, h1, h2, h3⟩ := mw131_ok (kY y (md_tried y) K L S)
      rw [hkn] at e h2
      refine ⟨_, ?_, K, L, S, N, M, rfl, hI, h1, h2, h3⟩
      show f_X6_wheel_B81 (nI n) (kY y (md_tried y) K L S) = _
      unfold f_X6_wheel_B81
      rw [hkn, if_pos (nI_le (Nat.le_refl _) (by omega)), e]; rfl
  obtain ⟨o, e, K, L, S, N, M, rfl, h⟩ := key
  exact ⟨K, L, S, N, M, e, h⟩
theorem mw55_ok {y : Md} {n : Nat} (hn : md_n y = nI n) (h8 : n ≤ 8) : ∃ R K L S N M, lp f_X6_wheel_L55 fuel ((0 : Int32), y) = some (nI n, md_set_keptMany (md_set_deedMany (md_set_now (kY (md_set_ruts y R) (md_tried y) K L S) N) 0) M) ∧ (∀ k, k < 8 → R k = md_readRut y k) ∧ (∀ i, i < n → K i = md_readKind y i ∧ L i = md_readLong y i ∧ S i = md_readStrong y i) ∧ (∀ k, k < 3 → M k = -1) ∧ N 3 = jshl (1 : Int32) (nI n) - 1 ∧ ∀ j, j < 12 → j ≠ 3 → N j = 0 := by
  have key : ∃ o, lp f_X6_wheel_L55 fuel ((0 : Int32), y) = some o ∧ ∃ R K L S N M, o = (nI n, md_set_keptMany (md_set_deedMany (md_set_now (kY (md_set_ruts y R) (md_tried y) K L S) N) 0) M) ∧ (∀ k, k < 8 → R k = md_readRut y k) ∧ (∀ i, i < n → K i = md_readKind y i ∧ L i = md_readLong y i ∧ S i = md_readStrong y i) ∧ (∀ k, k < 3 → M k = -1) ∧ N 3 = jshl (1 : Int32) (nI n) - 1 ∧ ∀ j, j < 12 → j ≠ 3 → N j = 0 := by
    refine lp_e (fun q s => ∃ R, s = (nI q, md_set_ruts y R) ∧ ∀ k, k < q → R k = md_readRut y k) _ 8 ⟨md_ruts y, rfl, fun k hk => absurd hk (by omega)⟩ (by omega) ?_ ?_
    · rintro q s hq ⟨R, rfl, hI⟩
      refine ⟨(nI (q + 1), md_set_ruts y (upd R q (md_readRut y q))), ?_, _, rfl, fun k hk => ?_⟩
      · show f_X6_wheel_B55 (nI q) (md_set_ruts y R) = _
        unfold f_X6_wheel_B55
        rw [if_neg (show ¬ (8 : Int32) ≤ nI q from nI_ge hq (by decide)), gd_b hq (by decide), gd_b hq (by decide), ix_n (by omega), nI_1]; rfl
      · by_cases e : k = q
        · subst e; rw [upd_s]
        · rw [upd_n e]; exact hI k (by omega)
    · rintro s ⟨R, rfl, hI⟩
      obtain ⟨K, L, S, N, M, e, h1, h2, h3, h4⟩ := mw79_ok (y := md_set_ruts y R) hn h8
      refine ⟨_, ?_, R, K, L, S, N, M, rfl, hI, h1, h2, h3, h4⟩
      show f_X6_wheel_B55 (nI 8) (md_set_ruts y R) = _
      unfold f_X6_wheel_B55
      rw [if_pos (show (8 : Int32) ≤ nI 8 by decide), e]; rfl
  obtain ⟨o, e, R, K, L, S, N, M, rfl, h⟩ := key
  exact ⟨R, K, L, S, N, M, e, h⟩
theorem RM_whl {y : Md} {c : Cfg} {vn vg : Int32} {R T K L S : Ar} (e1 : vn = nI (cN c)) (e2 : vg = nI (cGate c)) (hR : ∀ k, k < 8 → R k = nI (cRut c k)) (hk : ∀ i, i < cN c → K i = nI (cKind c i) ∧ L i = nI (cLong c i) ∧ S i = nI (cStrong c i)) : RM (kY (md_set_ruts (md_set_gateAt (md_set_n y vn) vg) R) T K L S) c := ⟨e1, e2, hR, hk⟩
theorem relW {x : Ww} {y : Md} (h : RX x y) {w1 : Rd} {ct : Ct} {K0 : Nat → Ct} {vn vg vd : Int32} {R T K L S N M : Ar} {c : Cfg} (hd : wh_dry (rd_draft w1) = 0) (hC : okC c) (hct : RC ct c []) (e1 : vn = nI (cN c)) (e2 : vg = nI (cGate c)) (e3 : vd = nI 0) (hR : ∀ k, k < 8 → R k = nI (cRut c k)) (hk : ∀ i, i < cN c → K i = nI (cKind c i) ∧ L i = nI (cLong c i) ∧ S i = nI (cStrong c i)) (hN : RT N 0 (startN c)) (hK : ∀ k, k < 3 → ct_done (K0 k) = -1 ∧ M k = -1) : Rel (ww_set_kept (ww_set_cart (ww_set_reader x w1) ct) K0) (md_set_keptMany (md_set_deedMany (md_set_now (kY (md_set_ruts (md_set_gateAt (md_set_n y vn) vg) R) T K L S) N) vd) M) := by
  have k1 := RX_kY (RX_ruts (RX_gateAt (RX_n h vn) vg) R) T K L S
  have m1 := RM_whl (y := y) (T := T) e1 e2 hR hk
  generalize kY (md_set_ruts (md_set_gateAt (md_set_n y vn) vg) R) T K L S = Y at k1 m1 ⊢
  have k2 := RXw_kept (RXw_cart (RXw_reader (RX_keptMany (RX_deedMany (RX_now k1 N) vd) M) hd) ct) K0
  exact ⟨k2.1, k2.2.1, k2.2.2, c, [], hC, ⟨Nat.zero_le _, fun _ => rfl, fun e h => absurd h List.not_mem_nil⟩, hct, RM_keptMany (RM_deedMany (RM_now m1 N) vd) M, e3, hN, fun j h => absurd h (Nat.not_lt_zero j), fun k hk => Or.inl (hK k hk)⟩
theorem s_wheel : S_wheel Rel := by
  intro x y h v
  unfold f_X5_wheel f_X6_wheel
  rcases num_cases v 4 (by decide) with hb | ⟨t, ht, rfl⟩
  · rw [tmiss_bad hb, isText_bad hb]
    exact ⟨-1, x, y, rfl, rfl, h⟩
  · rw [tmiss_in ht, isText_in ht, ob_some, if_neg (show ¬ (1 : Int32) = 0 by decide), gd_b ht (by decide), ix_n (j := t) (by omega)]
    rcases size_cases h.2.2.1 ht with ⟨e1, e2⟩ | ⟨k, hk, e1, e2⟩
    · obtain ⟨x1, y1, g1, g2, g3⟩ := refuse_ok h (f := 1) (by decide)
      refine ⟨-3, x1, y1, ?_, ?_, g3⟩
      · rw [if_pos e2, show f_X5_refuse x 1 = some (-3, x1) from g1]; rfl
      · rw [e1, if_neg (by decide), show f_X6_meets y 1 = some (-3, y1) from g2]; rfl
    · obtain ⟨r, w1, y1, g1, g2, g3, g4, g5⟩ := read_ok (rd := ww_reader x) (f := sh_places (ww_texts x) t) (y := y) ht hk e1 (fun j hj => (h.2.2.1.2 t ht).2.2 j hj)
      rw [if_neg (show ¬ sh_sizes (ww_texts x) t = -1 by rw [e2]; exact nI_ne_m1 (by omega)), e1, if_pos (nI_pos' (by omega)), ob_some, if_pos (show ((0 : Int32), x).1 = 0 from rfl), g2, ob_some]
      dsimp only
      unfold f_X3_placesOf f_X3_sizeOf
      rw [gd_b ht (by decide), gd_b ht (by decide), ob_some, ix_n (j := t) (by omega), e2, ob_some, g1, ob_some]
      dsimp only
      by_cases er : r = -9
      · obtain ⟨c, c3, hB, s1, hc, s2, hm⟩ := g5 er
        have h8 := hB.1
        have hdr : wh_dry (rd_draft w1) = 0 := g4.trans h.1.2.2.2.2.2
        rw [if_pos er, if_pos er]
        obtain ⟨ct, b1, b2⟩ := begin_ok (w := ww_cart x) (v := rd_draft w1) hdr hB.1 s1 hc.1 hc.2.1 hc.2.2
        obtain ⟨K0, k1, k2⟩ := cwk_ok (ww_set_cart (ww_set_reader x w1) ct)
        rw [b1, ob_some, k1]
        obtain ⟨vn, en⟩ : ∃ v, v = md_readMany y1 := ⟨_, rfl⟩
        obtain ⟨vg, eg⟩ : ∃ v, v = md_readGate y1 := ⟨_, rfl⟩
        rw [← en, ← eg]
        have en2 : vn = nI (cN c) := en.trans s2
        have eg2 : vg = nI (cGate c) := eg.trans hm.1
        obtain ⟨R, K, L, S, N, M, m1, m2, m3, m4, m5, m6⟩ := mw55_ok (y := md_set_gateAt (md_set_n y1 vn) vg) (n := cN c) en2 hB.1
        rw [m1]
        have hs : wh_spokes (ct_wheel ct) = nI (cN c) := b2.1.1
        have hN : RT N 0 (startN c) := ⟨m6 0 (by omega) (by omega), m6 1 (by omega) (by omega), m6 2 (by omega) (by omega), m5.trans (tb_all (cN c) (by omega)), fun i hi => m6 (0 + 4 + i) (by omega) (by omega)⟩
        have m2' : ∀ k, k < 8 → R k = nI (cRut c k) := fun k hk => (m2 k hk).trans (hm.2.1 k hk)
        have m3' : ∀ i, i < cN c → K i = nI (cKind c i) ∧ L i = nI (cLong c i) ∧ S i = nI (cStrong c i) := fun i hi => ⟨(m3 i hi).1.trans (hm.2.2 i hi).1, (m3 i hi).2.1.trans (hm.2.2 i hi).2.1, (m3 i hi).2.2.trans (hm.2.2 i hi).2.2⟩
        refine ⟨nI (cN c), ww_set_kept (ww_set_cart (ww_set_reader x w1) ct) K0, _, ?_, rfl, relW ((g3 x).2 (RX_of h)) hdr ⟨Or.inr ⟨c3, hB.1⟩, hB.2.1, hB.2.2.1, hB.2.2.2⟩ b2 en2 eg2 rfl m2' m3' hN (fun k hk => ⟨k2 k hk, m4 k hk⟩)⟩
        show some (wh_spokes (ct_wheel ct), _) = _
        rw [hs]
      · rw [if_neg er, if_neg er]
        exact ⟨-4, ww_set_reader x w1, y1, rfl, rfl, Relw_reader ((g3 x).1 h) (g4.trans h.1.2.2.2.2.2)⟩
