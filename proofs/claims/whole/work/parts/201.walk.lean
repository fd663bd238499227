/-! Walks: X10_isFrom, X9_has, X9_isAheadByOthersToo, X9_isToldAhead, X9_tellAhead, X10_ahead, X6_empty, X10_anew, X5_inAnyOrder, X10_any, X10_benches, X2_keepIfLess, X9_endBehind, X9_gathered, X2_notLess, X2_triedAsGood, X9_changeFor, X9_mayFollow, X2_extend. By program. -/
set_option maxHeartbeats 4000000 in
set_option maxRecDepth 100000 in
theorem c_X10_isFrom {g : Wc} {l : Launch} (μ : Mem) (p0 : Int) (p1 : Int) (p2 : Int) (Post : Pst) (hb : wp_X10_isFrom μ p0 p1 p2 Post) : MtC g l yX10_isFrom cX10_isFrom 3 (some .boolean) 0 [Iv p0, Iv p1, Iv p2] μ (QI g Post) := by
  intro hok
  refine enter (own := RX10) (by decide) rfl (Nat.le_of_ble_eq_true rfl) hok (fun X hl F hr hR => ?_)
  subst hl
  show V g X 3 μ [(0, Iv p0), (1, Iv p1), (2, Iv p2)] 0 []
  unfold wp_X10_isFrom at hb
  have hb := hb
  unfold b_X10_isFrom_e at hb
  refine r_iload_n (pc := 0) 0 F dX10_isFrom_0 rfl rfl ?_
  refine r_iload_n (pc := 1) 1 F dX10_isFrom_1 rfl rfl ?_
  refine r_icmp_lt (pc := 2) (tgt := 14) F dX10_isFrom_2 (by decide) (fun c_1 => ?_) (fun c_1 => ?_)
  · have hb := hb.1 c_1
    refine r_iconst (pc := 14) F dX10_isFrom_14 (inR_lit rfl) ?_
    exact r_zret (pc := 15) F hR hr dX10_isFrom_15 (Or.inl rfl) hb
  · have hb := hb.2 c_1
    refine r_iload_n (pc := 5) 0 F dX10_isFrom_5 rfl rfl ?_
    refine r_iload_n (pc := 6) 2 F dX10_isFrom_6 rfl rfl ?_
    refine r_icmp_gt (pc := 7) (tgt := 14) F dX10_isFrom_7 (by decide) (fun c_2 => ?_) (fun c_2 => ?_)
    · have hb := hb.1 c_2
      refine r_iconst (pc := 14) F dX10_isFrom_14 (inR_lit rfl) ?_
      exact r_zret (pc := 15) F hR hr dX10_isFrom_15 (Or.inl rfl) hb
    · have hb := hb.2 c_2
      refine r_iconst (pc := 10) F dX10_isFrom_10 (inR_lit rfl) ?_
      refine r_goto (pc := 11) (tgt := 15) F dX10_isFrom_11 (by decide) ?_
      exact r_zret (pc := 15) F hR hr dX10_isFrom_15 (Or.inr rfl) hb
set_option maxHeartbeats 4000000 in
set_option maxRecDepth 100000 in
theorem c_X9_has {g : Wc} {l : Launch} (μ : Mem) (p0 : Int) (Post : Pst) (hb : wp_X9_has μ p0 Post) : MtC g l yX9_has cX9_has 2 (some .boolean) 1 [Rv 1, Iv p0] μ (QI g Post) := by
  intro hok
  refine enter (own := RX9) (by decide) rfl (Nat.le_of_ble_eq_true rfl) hok (fun X hl F hr hR => ?_)
  subst hl
  show V g X 2 μ [(0, Rv 1), (1, Iv p0)] 0 []
  unfold wp_X9_has at hb
  have hb := hb
  unfold b_X9_has_e at hb
  refine r_iload_n (pc := 0) 1 F dX9_has_0 rfl rfl ?_
  refine r_iconst (pc := 1) F dX9_has_1 (inR_lit rfl) ?_
  refine r_aload_n (pc := 2) 0 F dX9_has_2 rfl rfl ?_
  refine gf_RX9_26 (pc := 3) F dX9_has_3 ?_
  refine r_iconst (pc := 6) F dX9_has_6 (inR_lit rfl) ?_
  refine r_isub (pc := 7) F dX9_has_7 ?_
  refine r_callNI (pc := 8) (avs := [Iv p0, Iv 0, Iv (wrap ((μ 1 0) - 1))]) (st := []) F (c_X10_isFrom μ p0 0 (wrap ((μ 1 0) - 1)) _ hb) (by decide) cal_X10_isFrom st_X10_isFrom lk_RX9_39 rfl rfl (Nat.le_of_ble_eq_true rfl) dX9_has_8 (fun r_1 μ_2 hb => ?_)
  exact r_zret (pc := 11) F hR hr dX9_has_11 hb.1 hb.2
set_option maxHeartbeats 4000000 in
set_option maxRecDepth 100000 in
theorem c_X9_isAheadByOthersToo {g : Wc} {l : Launch} (μ : Mem) (p0 : Int) (p1 : Int) (Post : Pst) (hb : wp_X9_isAheadByOthersToo μ p0 p1 Post) : MtC g l yX9_isAheadByOthersToo cX9_isAheadByOthersToo 6 (some .boolean) 1 [Rv 1, Iv p0, Iv p1] μ (QI g Post) := by
  intro hok
  refine enter (own := RX9) (by decide) rfl (Nat.le_of_ble_eq_true rfl) hok (fun X hl F hr hR => ?_)
  subst hl
  show V g X 6 μ [(0, Rv 1), (1, Iv p0), (2, Iv p1)] 0 []
  unfold wp_X9_isAheadByOthersToo at hb
  obtain ⟨G10, g10, f10⟩ : ∃ G : Mem → Int → Int → Int → Prop, (∀ μ x1 x3 x4, G μ x1 x3 x4 → V g X 6 μ [(0, Rv 1), (1, Iv x1), (3, Iv x3), (4, Iv x4)] 10 []) ∧ (∀ μ x1 x3 x4, V g X 6 μ [(0, Rv 1), (1, Iv x1), (3, Iv x3), (4, Iv x4)] 10 [] → G μ x1 x3 x4) := ⟨fun μ x1 x3 x4 => V g X 6 μ [(0, Rv 1), (1, Iv x1), (3, Iv x3), (4, Iv x4)] 10 [], fun _ _ _ _ h => h, fun _ _ _ _ h => h⟩
  obtain ⟨G22, g22, f22⟩ : ∃ G : Mem → Int → Int → Int → Int → Prop, (∀ μ x1 x3 x4 x5, G μ x1 x3 x4 x5 → V g X 6 μ [(0, Rv 1), (1, Iv x1), (3, Iv x3), (4, Iv x4), (5, Iv x5)] 22 []) ∧ (∀ μ x1 x3 x4 x5, V g X 6 μ [(0, Rv 1), (1, Iv x1), (3, Iv x3), (4, Iv x4), (5, Iv x5)] 22 [] → G μ x1 x3 x4 x5) := ⟨fun μ x1 x3 x4 x5 => V g X 6 μ [(0, Rv 1), (1, Iv x1), (3, Iv x3), (4, Iv x4), (5, Iv x5)] 22 [], fun _ _ _ _ _ h => h, fun _ _ _ _ _ h => h⟩
  have K50 : ∀ (μ : Mem) (x1 : Int) (x3 : Int) (x4 : Int) (x5 : Int), b_X9_isAheadByOthersToo_50 G10 G22 Post μ x1 x3 x4 x5 → V g X 6 μ [(0, Rv 1), (1, Iv x1), (3, Iv x3), (4, Iv x4), (5, Iv x5)] 50 [] := by
    intro μ x1 x3 x4 x5 hb
    unfold b_X9_isAheadByOthersToo_50 at hb
    refine r_iincN (pc := 50) 4 (lf := fun x_1 => [(5, Iv x_1), (0, Rv 1), (1, Iv x1), (3, Iv x3), (4, Iv x4)]) F dX9_isAheadByOthersToo_50 rfl (by decide) rfl (fun x_1 ex_1 => ?_)
    have hb := hb x_1 ex_1
    refine r_goto (pc := 53) (tgt := 22) F dX9_isAheadByOthersToo_53 (by decide) ?_
    exact V.sub [1, 2, 3, 4, 0] rfl (g22 μ x1 x3 x4 x_1 hb)
  have K10 : ∀ (μ : Mem) (x1 : Int) (x3 : Int) (x4 : Int), b_X9_isAheadByOthersToo_10 G10 G22 Post μ x1 x3 x4 → V g X 6 μ [(0, Rv 1), (1, Iv x1), (3, Iv x3), (4, Iv x4)] 10 [] := by
    intro μ x1 x3 x4 hb
    unfold b_X9_isAheadByOthersToo_10 at hb
    refine r_iload (pc := 10) 3 F dX9_isAheadByOthersToo_10 rfl ?_
    refine r_aload_n (pc := 12) 0 F dX9_isAheadByOthersToo_12 rfl rfl ?_
    refine gf_RX9_26 (pc := 13) F dX9_isAheadByOthersToo_13 ?_
    refine r_icmp_ge (pc := 16) (tgt := 62) F dX9_isAheadByOthersToo_16 (by decide) (fun c_2 => ?_) (fun c_2 => ?_)
    · have hb := hb.1 c_2
      refine r_iload_n (pc := 62) 2 F dX9_isAheadByOthersToo_62 rfl rfl ?_
      refine r_iload_n (pc := 63) 1 F dX9_isAheadByOthersToo_63 rfl rfl ?_
      refine r_callNI (pc := 64) (avs := [Iv x3, Iv x1]) (st := []) F (c_X10_isIn μ x3 x1 _ hb) (by decide) cal_X10_isIn st_X10_isIn lk_RX9_43 rfl rfl (Nat.le_of_ble_eq_true rfl) dX9_isAheadByOthersToo_64 (fun r_3 μ_4 hb => ?_)
      exact r_zret (pc := 67) F hR hr dX9_isAheadByOthersToo_67 hb.1 hb.2
    · have hb := hb.2 c_2
      refine r_iconst (pc := 19) F dX9_isAheadByOthersToo_19 (inR_lit rfl) ?_
      refine r_istore (pc := 20) (lv' := [(5, Iv 0), (0, Rv 1), (1, Iv x1), (3, Iv x3), (4, Iv x4)]) F dX9_isAheadByOthersToo_20 (by decide) rfl ?_
      exact V.sub [1, 2, 3, 4, 0] rfl (g22 μ x1 x3 x4 0 hb)
  have K22 : ∀ (μ : Mem) (x1 : Int) (x3 : Int) (x4 : Int) (x5 : Int), b_X9_isAheadByOthersToo_22 G10 G22 Post μ x1 x3 x4 x5 → V g X 6 μ [(0, Rv 1), (1, Iv x1), (3, Iv x3), (4, Iv x4), (5, Iv x5)] 22 [] := by
    intro μ x1 x3 x4 x5 hb
    unfold b_X9_isAheadByOthersToo_22 at hb
    refine r_iload (pc := 22) 4 F dX9_isAheadByOthersToo_22 rfl ?_
    refine r_aload_n (pc := 24) 0 F dX9_isAheadByOthersToo_24 rfl rfl ?_
    refine gf_RX9_26 (pc := 25) F dX9_isAheadByOthersToo_25 ?_
    refine r_icmp_ge (pc := 28) (tgt := 56) F dX9_isAheadByOthersToo_28 (by decide) (fun c_5 => ?_) (fun c_5 => ?_)
    · have hb := hb.1 c_5
      refine r_iincN (pc := 56) 3 (lf := fun x_6 => [(4, Iv x_6), (0, Rv 1), (1, Iv x1), (3, Iv x3), (5, Iv x5)]) F dX9_isAheadByOthersToo_56 rfl (by decide) rfl (fun x_6 ex_6 => ?_)
      have hb := hb x_6 ex_6
      refine r_goto (pc := 59) (tgt := 10) F dX9_isAheadByOthersToo_59 (by decide) ?_
      exact V.sub [1, 2, 3, 0] rfl (g10 μ x1 x3 x_6 hb)
    · have hb := hb.2 c_5
      refine r_iload_n (pc := 31) 2 F dX9_isAheadByOthersToo_31 rfl rfl ?_
      refine r_iload (pc := 32) 4 F dX9_isAheadByOthersToo_32 rfl ?_
      refine r_callNI (pc := 34) (avs := [Iv x3, Iv x5]) (st := []) F (c_X10_isIn μ x3 x5 _ hb) (by decide) cal_X10_isIn st_X10_isIn lk_RX9_43 rfl rfl (Nat.le_of_ble_eq_true rfl) dX9_isAheadByOthersToo_34 (fun r_7 μ_8 hb => ?_)
      refine r_if_eq (pc := 37) (tgt := 50) F dX9_isAheadByOthersToo_37 (by decide) (fun c_9 => ?_) (fun c_9 => ?_)
      · have hb := hb.1 c_9
        exact V.sub [0, 1, 2, 3, 4] rfl (K50 μ_8 x1 x3 x4 x5 hb)
      · have hb := hb.2 c_9
        refine r_iload_n (pc := 40) 2 F dX9_isAheadByOthersToo_40 rfl rfl ?_
        refine r_aload_n (pc := 41) 0 F dX9_isAheadByOthersToo_41 rfl rfl ?_
        refine gf_RX9_16 (pc := 42) F dX9_isAheadByOthersToo_42 ?_
        refine r_iload (pc := 45) 4 F dX9_isAheadByOthersToo_45 rfl ?_
        have hg_10 := hb.1
        have hb := hb.2
        refine r_iald (pc := 47) F lc74.1 lc74.2.1 lc74.2.2 hg_10 dX9_isAheadByOthersToo_47 ?_
        refine r_ior (pc := 48) F dX9_isAheadByOthersToo_48 ?_
        refine V.nmI (fun x_11 ex_11 => ?_)
        have hb := hb x_11 ex_11
        refine r_istore_n (pc := 49) (lv' := [(3, Iv x_11), (0, Rv 1), (1, Iv x1), (4, Iv x4), (5, Iv x5)]) F dX9_isAheadByOthersToo_49 rfl (by decide) rfl ?_
        exact V.sub [1, 2, 0, 3, 4] rfl (K50 μ_8 x1 x_11 x4 x5 hb)
  have hb := hb G10 G22 (fun μ x1 x3 x4 hb => f10 μ x1 x3 x4 (K10 μ x1 x3 x4 hb)) (fun μ x1 x3 x4 x5 hb => f22 μ x1 x3 x4 x5 (K22 μ x1 x3 x4 x5 hb))
  unfold b_X9_isAheadByOthersToo_e at hb
  refine r_aload_n (pc := 0) 0 F dX9_isAheadByOthersToo_0 rfl rfl ?_
  refine gf_RX9_16 (pc := 1) F dX9_isAheadByOthersToo_1 ?_
  refine r_iload_n (pc := 4) 2 F dX9_isAheadByOthersToo_4 rfl rfl ?_
  have hg_12 := hb.1
  have hb := hb.2
  refine r_iald (pc := 5) F lc74.1 lc74.2.1 lc74.2.2 hg_12 dX9_isAheadByOthersToo_5 ?_
  refine V.nmI (fun x_13 ex_13 => ?_)
  have hb := hb x_13 ex_13
  refine r_istore_n (pc := 6) (lv' := [(3, Iv x_13), (0, Rv 1), (1, Iv p0), (2, Iv p1)]) F dX9_isAheadByOthersToo_6 rfl (by decide) rfl ?_
  refine r_iconst (pc := 7) F dX9_isAheadByOthersToo_7 (inR_lit rfl) ?_
  refine r_istore (pc := 8) (lv' := [(4, Iv 0), (3, Iv x_13), (0, Rv 1), (1, Iv p0), (2, Iv p1)]) F dX9_isAheadByOthersToo_8 (by decide) rfl ?_
  exact V.sub [2, 3, 1, 0] rfl (g10 μ p0 x_13 0 hb)
set_option maxHeartbeats 4000000 in
set_option maxRecDepth 100000 in
theorem c_X9_isToldAhead {g : Wc} {l : Launch} (μ : Mem) (p0 : Int) (p1 : Int) (Post : Pst) (hb : wp_X9_isToldAhead μ p0 p1 Post) : MtC g l yX9_isToldAhead cX9_isToldAhead 3 (some .boolean) 1 [Rv 1, Iv p0, Iv p1] μ (QI g Post) := by
  intro hok
  refine enter (own := RX9) (by decide) rfl (Nat.le_of_ble_eq_true rfl) hok (fun X hl F hr hR => ?_)
  subst hl
  show V g X 3 μ [(0, Rv 1), (1, Iv p0), (2, Iv p1)] 0 []
  unfold wp_X9_isToldAhead at hb
  have hb := hb
  unfold b_X9_isToldAhead_e at hb
  refine r_aload_n (pc := 0) 0 F dX9_isToldAhead_0 rfl rfl ?_
  refine gf_RX9_16 (pc := 1) F dX9_isToldAhead_1 ?_
  refine r_iload_n (pc := 4) 2 F dX9_isToldAhead_4 rfl rfl ?_
  have hg_1 := hb.1
  have hb := hb.2
  refine r_iald (pc := 5) F lc74.1 lc74.2.1 lc74.2.2 hg_1 dX9_isToldAhead_5 ?_
  refine r_iload_n (pc := 6) 1 F dX9_isToldAhead_6 rfl rfl ?_
  refine r_callNI (pc := 7) (avs := [Iv (μ 74 p1.toNat), Iv p0]) (st := []) F (c_X10_isIn μ (μ 74 p1.toNat) p0 _ hb) (by decide) cal_X10_isIn st_X10_isIn lk_RX9_43 rfl rfl (Nat.le_of_ble_eq_true rfl) dX9_isToldAhead_7 (fun r_2 μ_3 hb => ?_)
  exact r_zret (pc := 10) F hR hr dX9_isToldAhead_10 hb.1 hb.2
set_option maxHeartbeats 4000000 in
set_option maxRecDepth 100000 in
theorem c_X9_tellAhead {g : Wc} {l : Launch} (μ : Mem) (p0 : Int) (p1 : Int) (p2 : Int) (Post : Pst) (hb : wp_X9_tellAhead μ p0 p1 p2 Post) : MtC g l yX9_tellAhead cX9_tellAhead 4 none 0 [Rv 1, Iv p0, Iv p1, Iv p2] μ (QV g Post) := by
  intro hok
  refine enter (own := RX9) (by decide) rfl (Nat.le_of_ble_eq_true rfl) hok (fun X hl F hr hR => ?_)
  subst hl
  show V g X 4 μ [(0, Rv 1), (1, Iv p0), (2, Iv p1), (3, Iv p2)] 0 []
  unfold wp_X9_tellAhead at hb
  have hb := hb
  unfold b_X9_tellAhead_e at hb
  refine r_iload_n (pc := 0) 3 F dX9_tellAhead_0 rfl rfl ?_
  refine r_if_eq (pc := 1) (tgt := 19) F dX9_tellAhead_1 (by decide) (fun c_1 => ?_) (fun c_1 => ?_)
  · have hb := hb.1 c_1
    refine r_aload_n (pc := 19) 0 F dX9_tellAhead_19 rfl rfl ?_
    refine gf_RX9_16 (pc := 20) F dX9_tellAhead_20 ?_
    refine r_iload_n (pc := 23) 2 F dX9_tellAhead_23 rfl rfl ?_
    refine r_dup2 (pc := 24) F dX9_tellAhead_24 rfl rfl ?_
    have hg_2 := hb.1
    have hb := hb.2
    refine r_iald (pc := 25) F lc74.1 lc74.2.1 lc74.2.2 hg_2 dX9_tellAhead_25 ?_
    refine r_iconst (pc := 26) F dX9_tellAhead_26 (inR_lit rfl) ?_
    refine r_iload_n (pc := 27) 1 F dX9_tellAhead_27 rfl rfl ?_
    refine r_ishl (pc := 28) F dX9_tellAhead_28 ?_
    refine r_iconst (pc := 29) F dX9_tellAhead_29 (inR_lit rfl) ?_
    refine r_ixor (pc := 30) F dX9_tellAhead_30 ?_
    refine r_iand (pc := 31) F dX9_tellAhead_31 ?_
    have hg_3 := hb.1
    have hb := hb.2
    refine r_iast (pc := 32) F lc74.1 lc74.2.1 lc74.2.2 hg_3 dX9_tellAhead_32 ?_
    refine V.nmM (fun μ_4 eμ_4 => ?_)
    have hb := hb μ_4 eμ_4
    exact r_vret (pc := 33) F hR hr dX9_tellAhead_33 hb
  · have hb := hb.2 c_1
    refine r_aload_n (pc := 4) 0 F dX9_tellAhead_4 rfl rfl ?_
    refine gf_RX9_16 (pc := 5) F dX9_tellAhead_5 ?_
    refine r_iload_n (pc := 8) 2 F dX9_tellAhead_8 rfl rfl ?_
    refine r_dup2 (pc := 9) F dX9_tellAhead_9 rfl rfl ?_
    have hg_5 := hb.1
    have hb := hb.2
    refine r_iald (pc := 10) F lc74.1 lc74.2.1 lc74.2.2 hg_5 dX9_tellAhead_10 ?_
    refine r_iconst (pc := 11) F dX9_tellAhead_11 (inR_lit rfl) ?_
    refine r_iload_n (pc := 12) 1 F dX9_tellAhead_12 rfl rfl ?_
    refine r_ishl (pc := 13) F dX9_tellAhead_13 ?_
    refine r_ior (pc := 14) F dX9_tellAhead_14 ?_
    have hg_6 := hb.1
    have hb := hb.2
    refine r_iast (pc := 15) F lc74.1 lc74.2.1 lc74.2.2 hg_6 dX9_tellAhead_15 ?_
    refine V.nmM (fun μ_7 eμ_7 => ?_)
    have hb := hb μ_7 eμ_7
    refine r_goto (pc := 16) (tgt := 33) F dX9_tellAhead_16 (by decide) ?_
    exact r_vret (pc := 33) F hR hr dX9_tellAhead_33 hb
set_option maxHeartbeats 4000000 in
set_option maxRecDepth 100000 in
theorem c_X10_ahead {g : Wc} {l : Launch} (μ : Mem) (p0 : Int) (p1 : Int) (p2 : Int) (Post : Pst) (hb : wp_X10_ahead μ p0 p1 p2 Post) : MtC g l yX10_ahead cX10_ahead 4 (some .int) 2 [Rv 0, Iv p0, Iv p1, Iv p2] μ (QI g Post) := by
  intro hok
  refine enter (own := RX10) (by decide) rfl (Nat.le_of_ble_eq_true rfl) hok (fun X hl F hr hR => ?_)
  subst hl
  show V g X 4 μ [(0, Rv 0), (1, Iv p0), (2, Iv p1), (3, Iv p2)] 0 []
  unfold wp_X10_ahead at hb
  have hb := hb
  unfold b_X10_ahead_e at hb
  refine r_aload_n (pc := 0) 0 F dX10_ahead_0 rfl rfl ?_
  refine gf_RX10_10 (pc := 1) F dX10_ahead_1 ?_
  refine r_iload_n (pc := 4) 1 F dX10_ahead_4 rfl rfl ?_
  refine r_callI (pc := 5) (avs := [Iv p0]) (st := []) F (c_X9_has μ p0 _ hb) (by decide) cal_X9_has calv_X9_has lk_RX10_102 rfl rfl (Nat.le_of_ble_eq_true rfl) dX10_ahead_5 (fun r_1 μ_2 hb => ?_)
  refine r_if_eq (pc := 8) (tgt := 27) F dX10_ahead_8 (by decide) (fun c_3 => ?_) (fun c_3 => ?_)
  · have hb := hb.1 c_3
    refine r_bipush (pc := 27) F dX10_ahead_27 (inR_lit rfl) (by decide) ?_
    exact r_iret (pc := 29) F hR hr dX10_ahead_29 hb
  · have hb := hb.2 c_3
    refine r_aload_n (pc := 11) 0 F dX10_ahead_11 rfl rfl ?_
    refine gf_RX10_10 (pc := 12) F dX10_ahead_12 ?_
    refine r_iload_n (pc := 15) 2 F dX10_ahead_15 rfl rfl ?_
    refine r_callI (pc := 16) (avs := [Iv p1]) (st := []) F (c_X9_has μ_2 p1 _ hb) (by decide) cal_X9_has calv_X9_has lk_RX10_102 rfl rfl (Nat.le_of_ble_eq_true rfl) dX10_ahead_16 (fun r_4 μ_5 hb => ?_)
    refine r_if_eq (pc := 19) (tgt := 27) F dX10_ahead_19 (by decide) (fun c_6 => ?_) (fun c_6 => ?_)
    · have hb := hb.1 c_6
      refine r_bipush (pc := 27) F dX10_ahead_27 (inR_lit rfl) (by decide) ?_
      exact r_iret (pc := 29) F hR hr dX10_ahead_29 hb
    · have hb := hb.2 c_6
      refine r_iload_n (pc := 22) 1 F dX10_ahead_22 rfl rfl ?_
      refine r_iload_n (pc := 23) 2 F dX10_ahead_23 rfl rfl ?_
      refine r_icmp_ne (pc := 24) (tgt := 30) F dX10_ahead_24 (by decide) (fun c_7 => ?_) (fun c_7 => ?_)
      · have hb := hb.1 c_7
        refine r_aload_n (pc := 30) 0 F dX10_ahead_30 rfl rfl ?_
        refine gf_RX10_10 (pc := 31) F dX10_ahead_31 ?_
        refine r_iload_n (pc := 34) 1 F dX10_ahead_34 rfl rfl ?_
        refine r_iload_n (pc := 35) 2 F dX10_ahead_35 rfl rfl ?_
        refine r_callI (pc := 36) (avs := [Iv p0, Iv p1]) (st := []) F (c_X9_isToldAhead μ_5 p0 p1 _ hb) (by decide) cal_X9_isToldAhead calv_X9_isToldAhead lk_RX10_110 rfl rfl (Nat.le_of_ble_eq_true rfl) dX10_ahead_36 (fun r_8 μ_9 hb => ?_)
        refine r_iload_n (pc := 39) 3 F dX10_ahead_39 rfl rfl ?_
        refine r_icmp_eq (pc := 40) (tgt := 55) F dX10_ahead_40 (by decide) (fun c_10 => ?_) (fun c_10 => ?_)
        · have hb := hb.1 c_10
          refine r_bipush (pc := 55) F dX10_ahead_55 (inR_lit rfl) (by decide) ?_
          exact r_iret (pc := 57) F hR hr dX10_ahead_57 hb
        · have hb := hb.2 c_10
          refine r_aload_n (pc := 43) 0 F dX10_ahead_43 rfl rfl ?_
          refine gf_RX10_10 (pc := 44) F dX10_ahead_44 ?_
          refine r_iload_n (pc := 47) 2 F dX10_ahead_47 rfl rfl ?_
          refine r_iload_n (pc := 48) 1 F dX10_ahead_48 rfl rfl ?_
          refine r_callI (pc := 49) (avs := [Iv p1, Iv p0]) (st := []) F (c_X9_isAheadByOthersToo μ_9 p1 p0 _ hb) (by decide) cal_X9_isAheadByOthersToo calv_X9_isAheadByOthersToo lk_RX10_114 rfl rfl (Nat.le_of_ble_eq_true rfl) dX10_ahead_49 (fun r_11 μ_12 hb => ?_)
          refine r_if_eq (pc := 52) (tgt := 58) F dX10_ahead_52 (by decide) (fun c_13 => ?_) (fun c_13 => ?_)
          · have hb := hb.1 c_13
            refine r_aload_n (pc := 58) 0 F dX10_ahead_58 rfl rfl ?_
            refine gf_RX10_10 (pc := 59) F dX10_ahead_59 ?_
            refine r_iload_n (pc := 62) 1 F dX10_ahead_62 rfl rfl ?_
            refine r_iload_n (pc := 63) 2 F dX10_ahead_63 rfl rfl ?_
            refine r_iload_n (pc := 64) 3 F dX10_ahead_64 rfl rfl ?_
            refine r_callV (pc := 65) (avs := [Iv p0, Iv p1, Iv p2]) (st := []) F (c_X9_tellAhead μ_12 p0 p1 p2 _ hb) (by decide) cal_X9_tellAhead calv_X9_tellAhead lk_RX10_117 rfl rfl (Nat.le_of_ble_eq_true rfl) dX10_ahead_65 (fun μ_15 hb => ?_)
            refine r_iconst (pc := 68) F dX10_ahead_68 (inR_lit rfl) ?_
            exact r_iret (pc := 69) F hR hr dX10_ahead_69 hb
          · have hb := hb.2 c_13
            refine r_bipush (pc := 55) F dX10_ahead_55 (inR_lit rfl) (by decide) ?_
            exact r_iret (pc := 57) F hR hr dX10_ahead_57 hb
      · have hb := hb.2 c_7
        refine r_bipush (pc := 27) F dX10_ahead_27 (inR_lit rfl) (by decide) ?_
        exact r_iret (pc := 29) F hR hr dX10_ahead_29 hb
set_option maxHeartbeats 4000000 in
set_option maxRecDepth 100000 in
theorem c_X6_empty {g : Wc} {l : Launch} (μ : Mem) (Post : Pst) (hb : wp_X6_empty μ Post) : MtC g l yX6_empty cX6_empty 2 (some .int) 0 [Rv 2] μ (QI g Post) := by
  intro hok
  refine enter (own := RX6) (by decide) rfl (Nat.le_of_ble_eq_true rfl) hok (fun X hl F hr hR => ?_)
  subst hl
  show V g X 2 μ [(0, Rv 2)] 0 []
  unfold wp_X6_empty at hb
  have hb := hb
  unfold b_X6_empty_e at hb
  refine r_aload_n (pc := 0) 0 F dX6_empty_0 rfl rfl ?_
  refine gf_RX6_23 (pc := 1) F dX6_empty_1 ?_
  refine V.nmI (fun x_1 ex_1 => ?_)
  have hb := hb x_1 ex_1
  refine r_istore_n (pc := 4) (lv' := [(1, Iv x_1), (0, Rv 2)]) F dX6_empty_4 rfl (by decide) rfl ?_
  refine r_aload_n (pc := 5) 1 F dX6_empty_5 rfl rfl ?_
  refine r_iconst (pc := 6) F dX6_empty_6 (inR_lit rfl) ?_
  refine pf_RX6_23 (pc := 7) F dX6_empty_7 ?_
  refine V.nmM (fun μ_2 eμ_2 => ?_)
  have hb := hb μ_2 eμ_2
  refine r_aload_n (pc := 10) 1 F dX6_empty_10 rfl rfl ?_
  refine r_iconst (pc := 11) F dX6_empty_11 (inR_lit rfl) ?_
  refine pf_RX6_15 (pc := 12) F dX6_empty_12 ?_
  refine V.nmM (fun μ_3 eμ_3 => ?_)
  have hb := hb μ_3 eμ_3
  refine r_iload_n (pc := 15) 0 F dX6_empty_15 rfl rfl ?_
  exact r_iret (pc := 16) F hR hr dX6_empty_16 hb
set_option maxHeartbeats 4000000 in
set_option maxRecDepth 100000 in
theorem c_X10_anew {g : Wc} {l : Launch} (μ : Mem) (Post : Pst) (hb : wp_X10_anew μ Post) : MtC g l yX10_anew cX10_anew 1 (some .int) 1 [Rv 0] μ (QI g Post) := by
  intro hok
  refine enter (own := RX10) (by decide) rfl (Nat.le_of_ble_eq_true rfl) hok (fun X hl F hr hR => ?_)
  subst hl
  show V g X 1 μ [(0, Rv 0)] 0 []
  unfold wp_X10_anew at hb
  have hb := hb
  unfold b_X10_anew_e at hb
  refine r_aload_n (pc := 0) 0 F dX10_anew_0 rfl rfl ?_
  refine gf_RX10_19 (pc := 1) F dX10_anew_1 ?_
  refine r_callI (pc := 4) (avs := []) (st := []) F (c_X6_empty μ _ hb) (by decide) cal_X6_empty calv_X6_empty lk_RX10_163 rfl rfl (Nat.le_of_ble_eq_true rfl) dX10_anew_4 (fun r_1 μ_2 hb => ?_)
  exact r_iret (pc := 7) F hR hr dX10_anew_7 hb
set_option maxHeartbeats 4000000 in
set_option maxRecDepth 100000 in
theorem c_X5_inAnyOrder {g : Wc} {l : Launch} (μ : Mem) (Post : Pst) (hb : wp_X5_inAnyOrder μ Post) : MtC g l yX5_inAnyOrder cX5_inAnyOrder 5 (some .int) 1 [Rv 8] μ (QI g Post) := by
  intro hok
  refine enter (own := RX5) (by decide) rfl (Nat.le_of_ble_eq_true rfl) hok (fun X hl F hr hR => ?_)
  subst hl
  show V g X 5 μ [(0, Rv 8)] 0 []
  unfold wp_X5_inAnyOrder at hb
  obtain ⟨G9, g9, f9⟩ : ∃ G : Mem → Int → Int → Int → Int → Prop, (∀ μ x1 x2 x3 x4, G μ x1 x2 x3 x4 → V g X 5 μ [(0, Rv 8), (1, Iv x1), (2, Iv x2), (3, Iv x3), (4, Iv x4)] 9 []) ∧ (∀ μ x1 x2 x3 x4, V g X 5 μ [(0, Rv 8), (1, Iv x1), (2, Iv x2), (3, Iv x3), (4, Iv x4)] 9 [] → G μ x1 x2 x3 x4) := ⟨fun μ x1 x2 x3 x4 => V g X 5 μ [(0, Rv 8), (1, Iv x1), (2, Iv x2), (3, Iv x3), (4, Iv x4)] 9 [], fun _ _ _ _ _ h => h, fun _ _ _ _ _ h => h⟩
  have K9 : ∀ (μ : Mem) (x1 : Int) (x2 : Int) (x3 : Int) (x4 : Int), b_X5_inAnyOrder_9 G9 Post μ x1 x2 x3 x4 → V g X 5 μ [(0, Rv 8), (1, Iv x1), (2, Iv x2), (3, Iv x3), (4, Iv x4)] 9 [] := by
    intro μ x1 x2 x3 x4 hb
    unfold b_X5_inAnyOrder_9 at hb
    refine r_iload (pc := 9) 4 F dX5_inAnyOrder_9 rfl ?_
    refine r_aload_n (pc := 11) 0 F dX5_inAnyOrder_11 rfl rfl ?_
    refine gf_RX5_15 (pc := 12) F dX5_inAnyOrder_12 ?_
    refine gf_RX5_19 (pc := 15) F dX5_inAnyOrder_15 ?_
    refine r_icmp_ge (pc := 18) (tgt := 87) F dX5_inAnyOrder_18 (by decide) (fun c_1 => ?_) (fun c_1 => ?_)
    · have hb := hb.1 c_1
      refine r_iload_n (pc := 87) 3 F dX5_inAnyOrder_87 rfl rfl ?_
      refine r_iload_n (pc := 88) 1 F dX5_inAnyOrder_88 rfl rfl ?_
      refine r_iload_n (pc := 89) 2 F dX5_inAnyOrder_89 rfl rfl ?_
      refine r_max (pc := 90) F (by first | decide | omega) lk_RX5_37 km_max.1 km_max.2.1 km_max.2.2 (Nat.le_of_ble_eq_true rfl) dX5_inAnyOrder_90 ?_
      refine r_max (pc := 93) F (by first | decide | omega) lk_RX5_37 km_max.1 km_max.2.1 km_max.2.2 (Nat.le_of_ble_eq_true rfl) dX5_inAnyOrder_93 ?_
      exact r_iret (pc := 96) F hR hr dX5_inAnyOrder_96 hb
    · have hb := hb.2 c_1
      refine r_iload_n (pc := 21) 1 F dX5_inAnyOrder_21 rfl rfl ?_
      refine r_aload_n (pc := 22) 0 F dX5_inAnyOrder_22 rfl rfl ?_
      refine gf_RX5_15 (pc := 23) F dX5_inAnyOrder_23 ?_
      refine gf_RX5_33 (pc := 26) F dX5_inAnyOrder_26 ?_
      refine r_iload (pc := 29) 4 F dX5_inAnyOrder_29 rfl ?_
      have hg_2 := hb.1
      have hb := hb.2
      refine r_aald (pc := 31) (n := 8) (d := 32) F (c := 14) (by decide) (by decide) rfl hg_2 dX5_inAnyOrder_31 ?_
      refine r_iconst (pc := 32) F dX5_inAnyOrder_32 (inR_lit rfl) ?_
      refine r_ialdk (pc := 33) (k := 0) F (lr14 hg_2).1 (lr14 hg_2).2.1 (lr14 hg_2).2.2 rfl ⟨by decide, by decide⟩ dX5_inAnyOrder_33 ?_
      refine r_iadd (pc := 34) F dX5_inAnyOrder_34 ?_
      refine V.nmI (fun x_3 ex_3 => ?_)
      have hb := hb x_3 ex_3
      refine r_istore_n (pc := 35) (lv' := [(1, Iv x_3), (0, Rv 8), (2, Iv x2), (3, Iv x3), (4, Iv x4)]) F dX5_inAnyOrder_35 rfl (by decide) rfl ?_
      refine r_iload_n (pc := 36) 2 F dX5_inAnyOrder_36 rfl rfl ?_
      refine r_aload_n (pc := 37) 1 F dX5_inAnyOrder_37 rfl rfl ?_
      refine gf_RX5_15 (pc := 38) F dX5_inAnyOrder_38 ?_
      refine gf_RX5_33 (pc := 41) F dX5_inAnyOrder_41 ?_
      refine r_iload (pc := 44) 4 F dX5_inAnyOrder_44 rfl ?_
      have hg_4 := hb.1
      have hb := hb.2
      refine r_aald (pc := 46) (n := 8) (d := 32) F (c := 14) (by decide) (by decide) rfl hg_4 dX5_inAnyOrder_46 ?_
      refine r_iconst (pc := 47) F dX5_inAnyOrder_47 (inR_lit rfl) ?_
      refine r_ialdk (pc := 48) (k := 1) F (lr14 hg_4).1 (lr14 hg_4).2.1 (lr14 hg_4).2.2 rfl ⟨by decide, by decide⟩ dX5_inAnyOrder_48 ?_
      refine r_iadd (pc := 49) F dX5_inAnyOrder_49 ?_
      refine V.nmI (fun x_5 ex_5 => ?_)
      have hb := hb x_5 ex_5
      refine r_istore_n (pc := 50) (lv' := [(2, Iv x_5), (1, Iv x_3), (0, Rv 8), (3, Iv x3), (4, Iv x4)]) F dX5_inAnyOrder_50 rfl (by decide) rfl ?_
      refine r_iload_n (pc := 51) 3 F dX5_inAnyOrder_51 rfl rfl ?_
      refine r_aload_n (pc := 52) 2 F dX5_inAnyOrder_52 rfl rfl ?_
      refine gf_RX5_15 (pc := 53) F dX5_inAnyOrder_53 ?_
      refine gf_RX5_33 (pc := 56) F dX5_inAnyOrder_56 ?_
      refine r_iload (pc := 59) 4 F dX5_inAnyOrder_59 rfl ?_
      have hg_6 := hb.1
      have hb := hb.2
      refine r_aald (pc := 61) (n := 8) (d := 32) F (c := 14) (by decide) (by decide) rfl hg_6 dX5_inAnyOrder_61 ?_
      refine r_iconst (pc := 62) F dX5_inAnyOrder_62 (inR_lit rfl) ?_
      refine r_ialdk (pc := 63) (k := 0) F (lr14 hg_6).1 (lr14 hg_6).2.1 (lr14 hg_6).2.2 rfl ⟨by decide, by decide⟩ dX5_inAnyOrder_63 ?_
      refine r_aload_n (pc := 64) 2 F dX5_inAnyOrder_64 rfl rfl ?_
      refine gf_RX5_15 (pc := 65) F dX5_inAnyOrder_65 ?_
      refine gf_RX5_33 (pc := 68) F dX5_inAnyOrder_68 ?_
      refine r_iload (pc := 71) 4 F dX5_inAnyOrder_71 rfl ?_
      have hg_7 := hb.1
      have hb := hb.2
      refine r_aald (pc := 73) (n := 8) (d := 32) F (c := 14) (by decide) (by decide) rfl hg_7 dX5_inAnyOrder_73 ?_
      refine r_iconst (pc := 74) F dX5_inAnyOrder_74 (inR_lit rfl) ?_
      refine r_ialdk (pc := 75) (k := 1) F (lr14 hg_7).1 (lr14 hg_7).2.1 (lr14 hg_7).2.2 rfl ⟨by decide, by decide⟩ dX5_inAnyOrder_75 ?_
      refine r_iadd (pc := 76) F dX5_inAnyOrder_76 ?_
      refine r_max (pc := 77) F (by first | decide | omega) lk_RX5_37 km_max.1 km_max.2.1 km_max.2.2 (Nat.le_of_ble_eq_true rfl) dX5_inAnyOrder_77 ?_
      refine V.nmI (fun x_8 ex_8 => ?_)
      have hb := hb x_8 ex_8
      refine r_istore_n (pc := 80) (lv' := [(3, Iv x_8), (2, Iv x_5), (1, Iv x_3), (0, Rv 8), (4, Iv x4)]) F dX5_inAnyOrder_80 rfl (by decide) rfl ?_
      refine r_iincN (pc := 81) 4 (lf := fun x_9 => [(4, Iv x_9), (3, Iv x_8), (2, Iv x_5), (1, Iv x_3), (0, Rv 8)]) F dX5_inAnyOrder_81 rfl (by decide) rfl (fun x_9 ex_9 => ?_)
      have hb := hb x_9 ex_9
      refine r_goto (pc := 84) (tgt := 9) F dX5_inAnyOrder_84 (by decide) ?_
      exact V.sub [4, 3, 2, 1, 0] rfl (g9 μ x_3 x_5 x_8 x_9 hb)
  have hb := hb G9 (fun μ x1 x2 x3 x4 hb => f9 μ x1 x2 x3 x4 (K9 μ x1 x2 x3 x4 hb))
  unfold b_X5_inAnyOrder_e at hb
  refine r_iconst (pc := 0) F dX5_inAnyOrder_0 (inR_lit rfl) ?_
  refine r_istore_n (pc := 1) (lv' := [(1, Iv 0), (0, Rv 8)]) F dX5_inAnyOrder_1 rfl (by decide) rfl ?_
  refine r_iconst (pc := 2) F dX5_inAnyOrder_2 (inR_lit rfl) ?_
  refine r_istore_n (pc := 3) (lv' := [(2, Iv 0), (1, Iv 0), (0, Rv 8)]) F dX5_inAnyOrder_3 rfl (by decide) rfl ?_
  refine r_iconst (pc := 4) F dX5_inAnyOrder_4 (inR_lit rfl) ?_
  refine r_istore_n (pc := 5) (lv' := [(3, Iv 0), (2, Iv 0), (1, Iv 0), (0, Rv 8)]) F dX5_inAnyOrder_5 rfl (by decide) rfl ?_
  refine r_iconst (pc := 6) F dX5_inAnyOrder_6 (inR_lit rfl) ?_
  refine r_istore (pc := 7) (lv' := [(4, Iv 0), (3, Iv 0), (2, Iv 0), (1, Iv 0), (0, Rv 8)]) F dX5_inAnyOrder_7 (by decide) rfl ?_
  exact V.sub [4, 3, 2, 1, 0] rfl (g9 μ 0 0 0 0 hb)
set_option maxHeartbeats 4000000 in
set_option maxRecDepth 100000 in
theorem c_X10_any {g : Wc} {l : Launch} (μ : Mem) (Post : Pst) (hb : wp_X10_any μ Post) : MtC g l yX10_any cX10_any 1 (some .int) 2 [Rv 0] μ (QI g Post) := by
  intro hok
  refine enter (own := RX10) (by decide) rfl (Nat.le_of_ble_eq_true rfl) hok (fun X hl F hr hR => ?_)
  subst hl
  show V g X 1 μ [(0, Rv 0)] 0 []
  unfold wp_X10_any at hb
  have hb := hb
  unfold b_X10_any_e at hb
  refine r_aload_n (pc := 0) 0 F dX10_any_0 rfl rfl ?_
  refine gf_RX10_65 (pc := 1) F dX10_any_1 ?_
  refine r_callI (pc := 4) (avs := []) (st := []) F (c_X5_inAnyOrder μ _ hb) (by decide) cal_X5_inAnyOrder calv_X5_inAnyOrder lk_RX10_201 rfl rfl (Nat.le_of_ble_eq_true rfl) dX10_any_4 (fun r_1 μ_2 hb => ?_)
  exact r_iret (pc := 7) F hR hr dX10_any_7 hb
set_option maxHeartbeats 4000000 in
set_option maxRecDepth 100000 in
theorem c_X10_benches {g : Wc} {l : Launch} (μ : Mem) (p0 : Int) (Post : Pst) (hb : wp_X10_benches μ p0 Post) : MtC g l yX10_benches cX10_benches 3 (some .int) 1 [Rv 0, Iv p0] μ (QI g Post) := by
  intro hok
  refine enter (own := RX10) (by decide) rfl (Nat.le_of_ble_eq_true rfl) hok (fun X hl F hr hR => ?_)
  subst hl
  show V g X 3 μ [(0, Rv 0), (1, Iv p0)] 0 []
  unfold wp_X10_benches at hb
  have hb := hb
  unfold b_X10_benches_e at hb
  refine r_iload_n (pc := 0) 1 F dX10_benches_0 rfl rfl ?_
  refine r_iconst (pc := 1) F dX10_benches_1 (inR_lit rfl) ?_
  refine r_iconst (pc := 2) F dX10_benches_2 (inR_lit rfl) ?_
  refine r_callSI (pc := 3) (avs := [Iv p0, Iv 2, Iv 4]) (st := []) F (c_X10_isFrom μ p0 2 4 _ hb) (by decide) cal_X10_isFrom st_X10_isFrom lk_RX10_90 rfl rfl (Nat.le_of_ble_eq_true rfl) dX10_benches_3 (fun r_1 μ_2 hb => ?_)
  refine r_if_ne (pc := 6) (tgt := 12) F dX10_benches_6 (by decide) (fun c_3 => ?_) (fun c_3 => ?_)
  · have hb := hb.1 c_3
    refine r_aload_n (pc := 12) 0 F dX10_benches_12 rfl rfl ?_
    refine gf_RX10_49 (pc := 13) F dX10_benches_13 ?_
    refine gf_RX10_180 (pc := 16) F dX10_benches_16 ?_
    refine V.nmI (fun x_4 ex_4 => ?_)
    have hb := hb x_4 ex_4
    refine r_istore_n (pc := 19) (lv' := [(2, Iv x_4), (0, Rv 0), (1, Iv p0)]) F dX10_benches_19 rfl (by decide) rfl ?_
    refine r_aload_n (pc := 20) 1 F dX10_benches_20 rfl rfl ?_
    refine gf_RX10_49 (pc := 21) F dX10_benches_21 ?_
    refine r_iload_n (pc := 24) 2 F dX10_benches_24 rfl rfl ?_
    refine pf_RX10_180 (pc := 25) F dX10_benches_25 ?_
    refine V.nmM (fun μ_5 eμ_5 => ?_)
    have hb := hb μ_5 eμ_5
    refine r_iload_n (pc := 28) 0 F dX10_benches_28 rfl rfl ?_
    exact r_iret (pc := 29) F hR hr dX10_benches_29 hb
  · have hb := hb.2 c_3
    refine r_bipush (pc := 9) F dX10_benches_9 (inR_lit rfl) (by decide) ?_
    exact r_iret (pc := 11) F hR hr dX10_benches_11 hb
set_option maxHeartbeats 4000000 in
set_option maxRecDepth 100000 in
theorem c_X2_keepIfLess {g : Wc} {l : Launch} (μ : Mem) (p0 : Int) (Post : Pst) (hb : wp_X2_keepIfLess μ p0 Post) : MtC g l yX2_keepIfLess cX2_keepIfLess 2 none 1 [Rv 3, Iv p0] μ (QV g Post) := by
  intro hok
  refine enter (own := RX2) (by decide) rfl (Nat.le_of_ble_eq_true rfl) hok (fun X hl F hr hR => ?_)
  subst hl
  show V g X 2 μ [(0, Rv 3), (1, Iv p0)] 0 []
  unfold wp_X2_keepIfLess at hb
  have hb := hb
  unfold b_X2_keepIfLess_e at hb
  refine r_iload_n (pc := 0) 1 F dX2_keepIfLess_0 rfl rfl ?_
  refine r_aload_n (pc := 1) 0 F dX2_keepIfLess_1 rfl rfl ?_
  refine gf_RX2_33 (pc := 2) F dX2_keepIfLess_2 ?_
  refine r_icmp_ge (pc := 5) (tgt := 33) F dX2_keepIfLess_5 (by decide) (fun c_1 => ?_) (fun c_1 => ?_)
  · have hb := hb.1 c_1
    exact r_vret (pc := 33) F hR hr dX2_keepIfLess_33 hb
  · have hb := hb.2 c_1
    refine r_aload_n (pc := 8) 0 F dX2_keepIfLess_8 rfl rfl ?_
    refine r_iload_n (pc := 9) 1 F dX2_keepIfLess_9 rfl rfl ?_
    refine pf_RX2_33 (pc := 10) F dX2_keepIfLess_10 ?_
    refine V.nmM (fun μ_2 eμ_2 => ?_)
    have hb := hb μ_2 eμ_2
    refine r_aload_n (pc := 13) 0 F dX2_keepIfLess_13 rfl rfl ?_
    refine gf_RX2_15 (pc := 14) F dX2_keepIfLess_14 ?_
    refine r_iconst (pc := 17) F dX2_keepIfLess_17 (inR_lit rfl) ?_
    refine r_aload_n (pc := 18) 0 F dX2_keepIfLess_18 rfl rfl ?_
    refine gf_RX2_9 (pc := 19) F dX2_keepIfLess_19 ?_
    refine r_iconst (pc := 22) F dX2_keepIfLess_22 (inR_lit rfl) ?_
    refine r_aload_n (pc := 23) 0 F dX2_keepIfLess_23 rfl rfl ?_
    refine gf_RX2_24 (pc := 24) F dX2_keepIfLess_24 ?_
    refine gf_RX2_46 (pc := 27) F dX2_keepIfLess_27 ?_
    refine r_copy (pc := 30) F (by first | decide | omega) lk_RX2_82 km_arraycopy.1 km_arraycopy.2.1 km_arraycopy.2.2 lc77.1 lc77.2.1 lc76.1 lc76.2.1 lc77.2.2 lc76.2.2 hb.1 (Nat.le_of_ble_eq_true rfl) dX2_keepIfLess_30 ?_
    have hb := hb.2
    refine V.nmM (fun μ_3 eμ_3 => ?_)
    have hb := hb μ_3 eμ_3
    exact r_vret (pc := 33) F hR hr dX2_keepIfLess_33 hb
set_option maxHeartbeats 4000000 in
set_option maxRecDepth 100000 in
theorem c_X9_endBehind {g : Wc} {l : Launch} (μ : Mem) (p0 : Int) (p1 : Int) (Post : Pst) (hb : wp_X9_endBehind μ p0 p1 Post) : MtC g l yX9_endBehind cX9_endBehind 3 (some .int) 1 [Rv 1, Iv p0, Iv p1] μ (QI g Post) := by
  intro hok
  refine enter (own := RX9) (by decide) rfl (Nat.le_of_ble_eq_true rfl) hok (fun X hl F hr hR => ?_)
  subst hl
  show V g X 3 μ [(0, Rv 1), (1, Iv p0), (2, Iv p1)] 0 []
  unfold wp_X9_endBehind at hb
  have hb := hb
  unfold b_X9_endBehind_e at hb
  refine r_iload_n (pc := 0) 1 F dX9_endBehind_0 rfl rfl ?_
  refine r_aload_n (pc := 1) 0 F dX9_endBehind_1 rfl rfl ?_
  refine gf_RX9_11 (pc := 2) F dX9_endBehind_2 ?_
  refine r_iconst (pc := 5) F dX9_endBehind_5 (inR_lit rfl) ?_
  refine r_aaldk (pc := 6) (e := 25) F (c := 12) (by decide) (by decide) rfl (by decide) ⟨by decide, by decide⟩ dX9_endBehind_6 ?_
  refine r_iload_n (pc := 7) 2 F dX9_endBehind_7 rfl rfl ?_
  have hg_1 := hb.1
  have hb := hb.2
  refine r_iald (pc := 8) F lc25.1 lc25.2.1 lc25.2.2 hg_1 dX9_endBehind_8 ?_
  refine r_max (pc := 9) F (by first | decide | omega) lk_RX9_50 km_max.1 km_max.2.1 km_max.2.2 (Nat.le_of_ble_eq_true rfl) dX9_endBehind_9 ?_
  refine r_aload_n (pc := 12) 0 F dX9_endBehind_12 rfl rfl ?_
  refine gf_RX9_11 (pc := 13) F dX9_endBehind_13 ?_
  refine r_iconst (pc := 16) F dX9_endBehind_16 (inR_lit rfl) ?_
  refine r_aaldk (pc := 17) (e := 24) F (c := 12) (by decide) (by decide) rfl (by decide) ⟨by decide, by decide⟩ dX9_endBehind_17 ?_
  refine r_iload_n (pc := 18) 2 F dX9_endBehind_18 rfl rfl ?_
  have hg_2 := hb.1
  have hb := hb.2
  refine r_iald (pc := 19) F lc24.1 lc24.2.1 lc24.2.2 hg_2 dX9_endBehind_19 ?_
  refine r_iadd (pc := 20) F dX9_endBehind_20 ?_
  exact r_iret (pc := 21) F hR hr dX9_endBehind_21 hb
set_option maxHeartbeats 4000000 in
set_option maxRecDepth 100000 in
theorem c_X9_gathered {g : Wc} {l : Launch} (μ : Mem) (p0 : Int) (p1 : Int) (p2 : Int) (p3 : Int) (Post : Pst) (hb : wp_X9_gathered μ p0 p1 p2 p3 Post) : MtC g l yX9_gathered cX9_gathered 5 (some .int) 2 [Rv 1, Iv p0, Iv p1, Iv p2, Iv p3] μ (QI g Post) := by
  intro hok
  refine enter (own := RX9) (by decide) rfl (Nat.le_of_ble_eq_true rfl) hok (fun X hl F hr hR => ?_)
  subst hl
  show V g X 5 μ [(0, Rv 1), (1, Iv p0), (2, Iv p1), (3, Iv p2), (4, Iv p3)] 0 []
  unfold wp_X9_gathered at hb
  have hb := hb
  unfold b_X9_gathered_e at hb
  refine r_iload_n (pc := 0) 1 F dX9_gathered_0 rfl rfl ?_
  rcases (show (p0 < 0 ∨ 3 < p0) ∨ p0 = 0 ∨ p0 = 1 ∨ p0 = 2 ∨ p0 = 3 by omega) with c_1 | c_1 | c_1 | c_1 | c_1
  · have hb := hb.1 c_1
    refine r_tableOut (pc := 1) (tgt := 84) F dX9_gathered_1 c_1 (by decide) ?_
    refine r_aload_n (pc := 84) 0 F dX9_gathered_84 rfl rfl ?_
    refine r_iload_n (pc := 85) 3 F dX9_gathered_85 rfl rfl ?_
    refine r_iload (pc := 86) 4 F dX9_gathered_86 rfl ?_
    refine r_callI (pc := 88) (avs := [Iv p2, Iv p3]) (st := []) F (c_X9_late μ p2 p3 _ hb) (by decide) cal_X9_late calv_X9_late lk_RX9_56 rfl rfl (Nat.le_of_ble_eq_true rfl) dX9_gathered_88 (fun r_2 μ_3 hb => ?_)
    refine r_if_le (pc := 91) (tgt := 107) F dX9_gathered_91 (by decide) (fun c_4 => ?_) (fun c_4 => ?_)
    · have hb := hb.1 c_4
      refine r_iload_n (pc := 107) 2 F dX9_gathered_107 rfl rfl ?_
      exact r_iret (pc := 108) F hR hr dX9_gathered_108 hb
    · have hb := hb.2 c_4
      refine r_iload_n (pc := 94) 2 F dX9_gathered_94 rfl rfl ?_
      refine r_aload_n (pc := 95) 0 F dX9_gathered_95 rfl rfl ?_
      refine gf_RX9_11 (pc := 96) F dX9_gathered_96 ?_
      refine r_iconst (pc := 99) F dX9_gathered_99 (inR_lit rfl) ?_
      refine r_aaldk (pc := 100) (e := 27) F (c := 12) (by decide) (by decide) rfl (by decide) ⟨by decide, by decide⟩ dX9_gathered_100 ?_
      refine r_iload_n (pc := 101) 3 F dX9_gathered_101 rfl rfl ?_
      have hg_5 := hb.1
      have hb := hb.2
      refine r_iald (pc := 102) F lc27.1 lc27.2.1 lc27.2.2 hg_5 dX9_gathered_102 ?_
      refine r_iadd (pc := 103) F dX9_gathered_103 ?_
      refine r_goto (pc := 104) (tgt := 108) F dX9_gathered_104 (by decide) ?_
      exact r_iret (pc := 108) F hR hr dX9_gathered_108 hb
  · have hb := hb.2.1 c_1
    refine r_tableIn (pc := 1) (tgt := 32) (off := 31) F dX9_gathered_1 (by omega) (by omega) (by rw [c_1]; rfl) (by decide) ?_
    refine r_iload_n (pc := 32) 2 F dX9_gathered_32 rfl rfl ?_
    refine r_iload (pc := 33) 4 F dX9_gathered_33 rfl ?_
    refine r_max (pc := 35) F (by first | decide | omega) lk_RX9_50 km_max.1 km_max.2.1 km_max.2.2 (Nat.le_of_ble_eq_true rfl) dX9_gathered_35 ?_
    exact r_iret (pc := 38) F hR hr dX9_gathered_38 hb
  · have hb := hb.2.2.1 c_1
    refine r_tableIn (pc := 1) (tgt := 39) (off := 38) F dX9_gathered_1 (by omega) (by omega) (by rw [c_1]; rfl) (by decide) ?_
    refine r_iload_n (pc := 39) 2 F dX9_gathered_39 rfl rfl ?_
    refine r_aload_n (pc := 40) 0 F dX9_gathered_40 rfl rfl ?_
    refine gf_RX9_11 (pc := 41) F dX9_gathered_41 ?_
    refine r_iconst (pc := 44) F dX9_gathered_44 (inR_lit rfl) ?_
    refine r_aaldk (pc := 45) (e := 27) F (c := 12) (by decide) (by decide) rfl (by decide) ⟨by decide, by decide⟩ dX9_gathered_45 ?_
    refine r_iload_n (pc := 46) 3 F dX9_gathered_46 rfl rfl ?_
    have hg_6 := hb.1
    have hb := hb.2
    refine r_iald (pc := 47) F lc27.1 lc27.2.1 lc27.2.2 hg_6 dX9_gathered_47 ?_
    refine r_iload (pc := 48) 4 F dX9_gathered_48 rfl ?_
    refine r_imul (pc := 50) F dX9_gathered_50 ?_
    refine r_iadd (pc := 51) F dX9_gathered_51 ?_
    exact r_iret (pc := 52) F hR hr dX9_gathered_52 hb
  · have hb := hb.2.2.2.1 c_1
    refine r_tableIn (pc := 1) (tgt := 53) (off := 52) F dX9_gathered_1 (by omega) (by omega) (by rw [c_1]; rfl) (by decide) ?_
    refine r_iload_n (pc := 53) 2 F dX9_gathered_53 rfl rfl ?_
    refine r_aload_n (pc := 54) 0 F dX9_gathered_54 rfl rfl ?_
    refine gf_RX9_11 (pc := 55) F dX9_gathered_55 ?_
    refine r_iconst (pc := 58) F dX9_gathered_58 (inR_lit rfl) ?_
    refine r_aaldk (pc := 59) (e := 27) F (c := 12) (by decide) (by decide) rfl (by decide) ⟨by decide, by decide⟩ dX9_gathered_59 ?_
    refine r_iload_n (pc := 60) 3 F dX9_gathered_60 rfl rfl ?_
    have hg_7 := hb.1
    have hb := hb.2
    refine r_iald (pc := 61) F lc27.1 lc27.2.1 lc27.2.2 hg_7 dX9_gathered_61 ?_
    refine r_aload_n (pc := 62) 0 F dX9_gathered_62 rfl rfl ?_
    refine r_iload_n (pc := 63) 3 F dX9_gathered_63 rfl rfl ?_
    refine r_iload (pc := 64) 4 F dX9_gathered_64 rfl ?_
    refine r_callI (pc := 66) (avs := [Iv p2, Iv p3]) (st := [Iv (μ 27 p2.toNat), Iv p1]) F (c_X9_late μ p2 p3 _ hb) (by decide) cal_X9_late calv_X9_late lk_RX9_56 rfl rfl (Nat.le_of_ble_eq_true rfl) dX9_gathered_66 (fun r_8 μ_9 hb => ?_)
    refine r_imul (pc := 69) F dX9_gathered_69 ?_
    refine r_iadd (pc := 70) F dX9_gathered_70 ?_
    exact r_iret (pc := 71) F hR hr dX9_gathered_71 hb
  · have hb := hb.2.2.2.2 c_1
    refine r_tableIn (pc := 1) (tgt := 72) (off := 71) F dX9_gathered_1 (by omega) (by omega) (by rw [c_1]; rfl) (by decide) ?_
    refine r_iload_n (pc := 72) 2 F dX9_gathered_72 rfl rfl ?_
    refine r_aload_n (pc := 73) 0 F dX9_gathered_73 rfl rfl ?_
    refine r_iload_n (pc := 74) 3 F dX9_gathered_74 rfl rfl ?_
    refine r_iload (pc := 75) 4 F dX9_gathered_75 rfl ?_
    refine r_callI (pc := 77) (avs := [Iv p2, Iv p3]) (st := [Iv p1]) F (c_X9_late μ p2 p3 _ hb) (by decide) cal_X9_late calv_X9_late lk_RX9_56 rfl rfl (Nat.le_of_ble_eq_true rfl) dX9_gathered_77 (fun r_10 μ_11 hb => ?_)
    refine r_max (pc := 80) F (by first | decide | omega) lk_RX9_50 km_max.1 km_max.2.1 km_max.2.2 (Nat.le_of_ble_eq_true rfl) dX9_gathered_80 ?_
    exact r_iret (pc := 83) F hR hr dX9_gathered_83 hb
set_option maxHeartbeats 4000000 in
set_option maxRecDepth 100000 in
theorem c_X2_notLess {g : Wc} {l : Launch} (μ : Mem) (p0 : Int) (p1 : Int) (p2 : Int) (Post : Pst) (hb : wp_X2_notLess μ p0 p1 p2 Post) : MtC g l yX2_notLess cX2_notLess 6 (some .int) 3 [Rv 3, Iv p0, Iv p1, Iv p2] μ (QI g Post) := by
  intro hok
  refine enter (own := RX2) (by decide) rfl (Nat.le_of_ble_eq_true rfl) hok (fun X hl F hr hR => ?_)
  subst hl
  show V g X 6 μ [(0, Rv 3), (1, Iv p0), (2, Iv p1), (3, Iv p2)] 0 []
  unfold wp_X2_notLess at hb
  obtain ⟨G6, g6, f6⟩ : ∃ G : Mem → Int → Int → Int → Int → Prop, (∀ μ x1 x2 x4 x5, G μ x1 x2 x4 x5 → V g X 6 μ [(0, Rv 3), (1, Iv x1), (2, Iv x2), (4, Iv x4), (5, Iv x5)] 6 []) ∧ (∀ μ x1 x2 x4 x5, V g X 6 μ [(0, Rv 3), (1, Iv x1), (2, Iv x2), (4, Iv x4), (5, Iv x5)] 6 [] → G μ x1 x2 x4 x5) := ⟨fun μ x1 x2 x4 x5 => V g X 6 μ [(0, Rv 3), (1, Iv x1), (2, Iv x2), (4, Iv x4), (5, Iv x5)] 6 [], fun _ _ _ _ _ h => h, fun _ _ _ _ _ h => h⟩
  have K54 : ∀ (μ : Mem) (x1 : Int) (x2 : Int) (x4 : Int) (x5 : Int), b_X2_notLess_54 G6 Post μ x1 x2 x4 x5 → V g X 6 μ [(0, Rv 3), (1, Iv x1), (2, Iv x2), (4, Iv x4), (5, Iv x5)] 54 [] := by
    intro μ x1 x2 x4 x5 hb
    unfold b_X2_notLess_54 at hb
    refine r_iincN (pc := 54) 4 (lf := fun x_1 => [(5, Iv x_1), (0, Rv 3), (1, Iv x1), (2, Iv x2), (4, Iv x4)]) F dX2_notLess_54 rfl (by decide) rfl (fun x_1 ex_1 => ?_)
    have hb := hb x_1 ex_1
    refine r_goto (pc := 57) (tgt := 6) F dX2_notLess_57 (by decide) ?_
    exact V.sub [1, 2, 3, 4, 0] rfl (g6 μ x1 x2 x4 x_1 hb)
  have K6 : ∀ (μ : Mem) (x1 : Int) (x2 : Int) (x4 : Int) (x5 : Int), b_X2_notLess_6 G6 Post μ x1 x2 x4 x5 → V g X 6 μ [(0, Rv 3), (1, Iv x1), (2, Iv x2), (4, Iv x4), (5, Iv x5)] 6 [] := by
    intro μ x1 x2 x4 x5 hb
    unfold b_X2_notLess_6 at hb
    refine r_iload (pc := 6) 4 F dX2_notLess_6 rfl ?_
    refine r_aload_n (pc := 8) 0 F dX2_notLess_8 rfl rfl ?_
    refine gf_RX2_24 (pc := 9) F dX2_notLess_9 ?_
    refine gf_RX2_46 (pc := 12) F dX2_notLess_12 ?_
    refine r_icmp_ge (pc := 15) (tgt := 60) F dX2_notLess_15 (by decide) (fun c_2 => ?_) (fun c_2 => ?_)
    · have hb := hb.1 c_2
      refine r_iload (pc := 60) 3 F dX2_notLess_60 rfl ?_
      exact r_iret (pc := 62) F hR hr dX2_notLess_62 hb
    · have hb := hb.2 c_2
      refine r_iload_n (pc := 18) 1 F dX2_notLess_18 rfl rfl ?_
      refine r_iload (pc := 19) 4 F dX2_notLess_19 rfl ?_
      refine r_callNI (pc := 21) (avs := [Iv x1, Iv x5]) (st := []) F (c_X10_isIn μ x1 x5 _ hb) (by decide) cal_X10_isIn st_X10_isIn lk_RX2_88 rfl rfl (Nat.le_of_ble_eq_true rfl) dX2_notLess_21 (fun r_3 μ_4 hb => ?_)
      refine r_if_ne (pc := 24) (tgt := 54) F dX2_notLess_24 (by decide) (fun c_5 => ?_) (fun c_5 => ?_)
      · have hb := hb.1 c_5
        exact V.sub [0, 1, 2, 3, 4] rfl (K54 μ_4 x1 x2 x4 x5 hb)
      · have hb := hb.2 c_5
        refine r_aload_n (pc := 27) 0 F dX2_notLess_27 rfl rfl ?_
        refine gf_RX2_24 (pc := 28) F dX2_notLess_28 ?_
        refine r_aload_n (pc := 31) 0 F dX2_notLess_31 rfl rfl ?_
        refine gf_RX2_28 (pc := 32) F dX2_notLess_32 ?_
        refine r_iload (pc := 35) 3 F dX2_notLess_35 rfl ?_
        refine r_iload (pc := 37) 4 F dX2_notLess_37 rfl ?_
        refine r_aload_n (pc := 39) 0 F dX2_notLess_39 rfl rfl ?_
        refine gf_RX2_24 (pc := 40) F dX2_notLess_40 ?_
        refine r_iload_n (pc := 43) 2 F dX2_notLess_43 rfl rfl ?_
        refine r_iload (pc := 44) 4 F dX2_notLess_44 rfl ?_
        refine r_callI (pc := 46) (avs := [Iv x2, Iv x5]) (st := [Iv x5, Iv x4, Iv (μ_4 3 3), Rv 1]) F (c_X9_endBehind μ_4 x2 x5 _ hb) (by decide) cal_X9_endBehind calv_X9_endBehind lk_RX2_63 rfl rfl (Nat.le_of_ble_eq_true rfl) dX2_notLess_46 (fun r_6 μ_7 hb => ?_)
        refine r_callI (pc := 49) (avs := [Iv (μ_4 3 3), Iv x4, Iv x5, Iv r_6]) (st := []) F (c_X9_gathered μ_7 (μ_4 3 3) x4 x5 r_6 _ hb) (by decide) cal_X9_gathered calv_X9_gathered lk_RX2_66 rfl rfl (Nat.le_of_ble_eq_true rfl) dX2_notLess_49 (fun r_8 μ_9 hb => ?_)
        refine r_istore (pc := 52) (lv' := [(4, Iv r_8), (0, Rv 3), (1, Iv x1), (2, Iv x2), (5, Iv x5)]) F dX2_notLess_52 (by decide) rfl ?_
        exact V.sub [1, 2, 3, 0, 4] rfl (K54 μ_9 x1 x2 r_8 x5 hb)
  have hb := hb G6 (fun μ x1 x2 x4 x5 hb => f6 μ x1 x2 x4 x5 (K6 μ x1 x2 x4 x5 hb))
  unfold b_X2_notLess_e at hb
  refine r_iload_n (pc := 0) 3 F dX2_notLess_0 rfl rfl ?_
  refine r_istore (pc := 1) (lv' := [(4, Iv p2), (0, Rv 3), (1, Iv p0), (2, Iv p1), (3, Iv p2)]) F dX2_notLess_1 (by decide) rfl ?_
  refine r_iconst (pc := 3) F dX2_notLess_3 (inR_lit rfl) ?_
  refine r_istore (pc := 4) (lv' := [(5, Iv 0), (4, Iv p2), (0, Rv 3), (1, Iv p0), (2, Iv p1), (3, Iv p2)]) F dX2_notLess_4 (by decide) rfl ?_
  exact V.sub [2, 3, 4, 1, 0] rfl (g6 μ p0 p1 p2 0 hb)
set_option maxHeartbeats 4000000 in
set_option maxRecDepth 100000 in
theorem c_X2_triedAsGood {g : Wc} {l : Launch} (μ : Mem) (p0 : Int) (p1 : Int) (p2 : Int) (p3 : Int) (Post : Pst) (hb : wp_X2_triedAsGood μ p0 p1 p2 p3 Post) : MtC g l yX2_triedAsGood cX2_triedAsGood 6 (some .boolean) 0 [Rv 3, Iv p0, Iv p1, Iv p2, Iv p3] μ (QI g Post) := by
  intro hok
  refine enter (own := RX2) (by decide) rfl (Nat.le_of_ble_eq_true rfl) hok (fun X hl F hr hR => ?_)
  subst hl
  show V g X 6 μ [(0, Rv 3), (1, Iv p0), (2, Iv p1), (3, Iv p2), (4, Iv p3)] 0 []
  unfold wp_X2_triedAsGood at hb
  have K32 : ∀ (μ : Mem) (x3 : Int) (x4 : Int) (x5 : Int), b_X2_triedAsGood_32 Post μ x3 x4 x5 → V g X 6 μ [(0, Rv 3), (3, Iv x3), (4, Iv x4), (5, Iv x5)] 32 [] := by
    intro μ x3 x4 x5 hb
    unfold b_X2_triedAsGood_32 at hb
    refine r_aload_n (pc := 32) 0 F dX2_triedAsGood_32 rfl rfl ?_
    refine gf_RX2_18 (pc := 33) F dX2_triedAsGood_33 ?_
    refine r_iload (pc := 36) 3 F dX2_triedAsGood_36 rfl ?_
    refine r_iload_n (pc := 38) 1 F dX2_triedAsGood_38 rfl rfl ?_
    have hg_1 := hb.1
    have hb := hb.2
    refine r_iast (pc := 39) F lc78.1 lc78.2.1 lc78.2.2 hg_1 dX2_triedAsGood_39 ?_
    refine V.nmM (fun μ_2 eμ_2 => ?_)
    have hb := hb μ_2 eμ_2
    refine r_aload_n (pc := 40) 0 F dX2_triedAsGood_40 rfl rfl ?_
    refine gf_RX2_21 (pc := 41) F dX2_triedAsGood_41 ?_
    refine r_iload (pc := 44) 3 F dX2_triedAsGood_44 rfl ?_
    refine r_iload (pc := 46) 2 F dX2_triedAsGood_46 rfl ?_
    have hg_3 := hb.1
    have hb := hb.2
    refine r_iast (pc := 48) F lc79.1 lc79.2.1 lc79.2.2 hg_3 dX2_triedAsGood_48 ?_
    refine V.nmM (fun μ_4 eμ_4 => ?_)
    have hb := hb μ_4 eμ_4
    refine r_iconst (pc := 49) F dX2_triedAsGood_49 (inR_lit rfl) ?_
    exact r_zret (pc := 50) F hR hr dX2_triedAsGood_50 (Or.inl rfl) hb
  have hb := hb
  unfold b_X2_triedAsGood_e at hb
  refine r_iload_n (pc := 0) 1 F dX2_triedAsGood_0 rfl rfl ?_
  refine r_iconst (pc := 1) F dX2_triedAsGood_1 (inR_lit rfl) ?_
  refine r_imul (pc := 2) F dX2_triedAsGood_2 ?_
  refine r_iload_n (pc := 3) 2 F dX2_triedAsGood_3 rfl rfl ?_
  refine r_iadd (pc := 4) F dX2_triedAsGood_4 ?_
  refine V.nmI (fun x_5 ex_5 => ?_)
  have hb := hb x_5 ex_5
  refine r_istore (pc := 5) (lv' := [(5, Iv x_5), (0, Rv 3), (1, Iv p0), (2, Iv p1), (3, Iv p2), (4, Iv p3)]) F dX2_triedAsGood_5 (by decide) rfl ?_
  refine r_aload_n (pc := 7) 1 F dX2_triedAsGood_7 rfl rfl ?_
  refine gf_RX2_18 (pc := 8) F dX2_triedAsGood_8 ?_
  refine r_iload (pc := 11) 0 F dX2_triedAsGood_11 rfl ?_
  have hg_6 := hb.1
  have hb := hb.2
  refine r_iald (pc := 13) F lc78.1 lc78.2.1 lc78.2.2 hg_6 dX2_triedAsGood_13 ?_
  refine r_iload_n (pc := 14) 4 F dX2_triedAsGood_14 rfl rfl ?_
  refine r_icmp_gt (pc := 15) (tgt := 32) F dX2_triedAsGood_15 (by decide) (fun c_7 => ?_) (fun c_7 => ?_)
  · have hb := hb.1 c_7
    exact V.sub [1, 4, 5, 0] rfl (K32 μ p2 p3 x_5 hb)
  · have hb := hb.2 c_7
    refine r_aload_n (pc := 18) 1 F dX2_triedAsGood_18 rfl rfl ?_
    refine gf_RX2_21 (pc := 19) F dX2_triedAsGood_19 ?_
    refine r_iload (pc := 22) 0 F dX2_triedAsGood_22 rfl ?_
    have hg_8 := hb.1
    have hb := hb.2
    refine r_iald (pc := 24) F lc79.1 lc79.2.1 lc79.2.2 hg_8 dX2_triedAsGood_24 ?_
    refine r_iload (pc := 25) 5 F dX2_triedAsGood_25 rfl ?_
    refine r_icmp_gt (pc := 27) (tgt := 32) F dX2_triedAsGood_27 (by decide) (fun c_9 => ?_) (fun c_9 => ?_)
    · have hb := hb.1 c_9
      exact V.sub [1, 4, 5, 0] rfl (K32 μ p2 p3 x_5 hb)
    · have hb := hb.2 c_9
      refine r_iconst (pc := 30) F dX2_triedAsGood_30 (inR_lit rfl) ?_
      exact r_zret (pc := 31) F hR hr dX2_triedAsGood_31 (Or.inr rfl) hb
set_option maxHeartbeats 4000000 in
set_option maxRecDepth 100000 in
theorem c_X9_changeFor {g : Wc} {l : Launch} (μ : Mem) (p0 : Int) (p1 : Int) (Post : Pst) (hb : wp_X9_changeFor μ p0 p1 Post) : MtC g l yX9_changeFor cX9_changeFor 3 (some .int) 0 [Rv 1, Iv p0, Iv p1] μ (QI g Post) := by
  intro hok
  refine enter (own := RX9) (by decide) rfl (Nat.le_of_ble_eq_true rfl) hok (fun X hl F hr hR => ?_)
  subst hl
  show V g X 3 μ [(0, Rv 1), (1, Iv p0), (2, Iv p1)] 0 []
  unfold wp_X9_changeFor at hb
  have hb := hb
  unfold b_X9_changeFor_e at hb
  refine r_iload_n (pc := 0) 1 F dX9_changeFor_0 rfl rfl ?_
  refine r_iconst (pc := 1) F dX9_changeFor_1 (inR_lit rfl) ?_
  refine r_icmp_ne (pc := 2) (tgt := 9) F dX9_changeFor_2 (by decide) (fun c_1 => ?_) (fun c_1 => ?_)
  · have hb := hb.1 c_1
    refine r_aload_n (pc := 9) 0 F dX9_changeFor_9 rfl rfl ?_
    refine gf_RX9_20 (pc := 10) F dX9_changeFor_10 ?_
    refine r_iload_n (pc := 13) 1 F dX9_changeFor_13 rfl rfl ?_
    have hg_2 := hb.1
    have hb := hb.2
    refine r_aald (pc := 14) (n := 3) (d := 29) F (c := 13) (by decide) (by decide) rfl hg_2 dX9_changeFor_14 ?_
    refine r_aload_n (pc := 15) 0 F dX9_changeFor_15 rfl rfl ?_
    refine gf_RX9_11 (pc := 16) F dX9_changeFor_16 ?_
    refine r_iconst (pc := 19) F dX9_changeFor_19 (inR_lit rfl) ?_
    refine r_aaldk (pc := 20) (e := 28) F (c := 12) (by decide) (by decide) rfl (by decide) ⟨by decide, by decide⟩ dX9_changeFor_20 ?_
    refine r_iload_n (pc := 21) 2 F dX9_changeFor_21 rfl rfl ?_
    have hg_3 := hb.1
    have hb := hb.2
    refine r_iald (pc := 22) F lc28.1 lc28.2.1 lc28.2.2 hg_3 dX9_changeFor_22 ?_
    have hg_4 := hb.1
    have hb := hb.2
    refine r_iald (pc := 23) F (lr13 hg_2).1 (lr13 hg_2).2.1 (lr13 hg_2).2.2 hg_4 dX9_changeFor_23 ?_
    exact r_iret (pc := 24) F hR hr dX9_changeFor_24 hb
  · have hb := hb.2 c_1
    refine r_iconst (pc := 5) F dX9_changeFor_5 (inR_lit rfl) ?_
    refine r_goto (pc := 6) (tgt := 24) F dX9_changeFor_6 (by decide) ?_
    exact r_iret (pc := 24) F hR hr dX9_changeFor_24 hb
set_option maxHeartbeats 4000000 in
set_option maxRecDepth 100000 in
theorem c_X9_mayFollow {g : Wc} {l : Launch} (μ : Mem) (p0 : Int) (p1 : Int) (Post : Pst) (hb : wp_X9_mayFollow μ p0 p1 Post) : MtC g l yX9_mayFollow cX9_mayFollow 3 (some .boolean) 1 [Rv 1, Iv p0, Iv p1] μ (QI g Post) := by
  intro hok
  refine enter (own := RX9) (by decide) rfl (Nat.le_of_ble_eq_true rfl) hok (fun X hl F hr hR => ?_)
  subst hl
  show V g X 3 μ [(0, Rv 1), (1, Iv p0), (2, Iv p1)] 0 []
  unfold wp_X9_mayFollow at hb
  have hb := hb
  unfold b_X9_mayFollow_e at hb
  refine r_iload_n (pc := 0) 1 F dX9_mayFollow_0 rfl rfl ?_
  refine r_iload_n (pc := 1) 2 F dX9_mayFollow_1 rfl rfl ?_
  refine r_callNI (pc := 2) (avs := [Iv p0, Iv p1]) (st := []) F (c_X10_isIn μ p0 p1 _ hb) (by decide) cal_X10_isIn st_X10_isIn lk_RX9_43 rfl rfl (Nat.le_of_ble_eq_true rfl) dX9_mayFollow_2 (fun r_1 μ_2 hb => ?_)
  refine r_if_ne (pc := 5) (tgt := 25) F dX9_mayFollow_5 (by decide) (fun c_3 => ?_) (fun c_3 => ?_)
  · have hb := hb.1 c_3
    refine r_iconst (pc := 25) F dX9_mayFollow_25 (inR_lit rfl) ?_
    exact r_zret (pc := 26) F hR hr dX9_mayFollow_26 (Or.inl rfl) hb
  · have hb := hb.2 c_3
    refine r_aload_n (pc := 8) 0 F dX9_mayFollow_8 rfl rfl ?_
    refine gf_RX9_16 (pc := 9) F dX9_mayFollow_9 ?_
    refine r_iload_n (pc := 12) 2 F dX9_mayFollow_12 rfl rfl ?_
    have hg_4 := hb.1
    have hb := hb.2
    refine r_iald (pc := 13) F lc74.1 lc74.2.1 lc74.2.2 hg_4 dX9_mayFollow_13 ?_
    refine r_iload_n (pc := 14) 1 F dX9_mayFollow_14 rfl rfl ?_
    refine r_iconst (pc := 15) F dX9_mayFollow_15 (inR_lit rfl) ?_
    refine r_ixor (pc := 16) F dX9_mayFollow_16 ?_
    refine r_iand (pc := 17) F dX9_mayFollow_17 ?_
    refine r_if_ne (pc := 18) (tgt := 25) F dX9_mayFollow_18 (by decide) (fun c_5 => ?_) (fun c_5 => ?_)
    · have hb := hb.1 c_5
      refine r_iconst (pc := 25) F dX9_mayFollow_25 (inR_lit rfl) ?_
      exact r_zret (pc := 26) F hR hr dX9_mayFollow_26 (Or.inl rfl) hb
    · have hb := hb.2 c_5
      refine r_iconst (pc := 21) F dX9_mayFollow_21 (inR_lit rfl) ?_
      refine r_goto (pc := 22) (tgt := 26) F dX9_mayFollow_22 (by decide) ?_
      exact r_zret (pc := 26) F hR hr dX9_mayFollow_26 (Or.inr rfl) hb
set_option maxHeartbeats 4000000 in
set_option maxRecDepth 100000 in
theorem c_X2_extend {g : Wc} {l : Launch} : ∀ (d : Nat) (μ : Mem) (p0 : Int) (p1 : Int) (p2 : Int) (p3 : Int) (p4 : Int) (Post : Pst), wp_X2_extend d μ p0 p1 p2 p3 p4 Post → MtC g l yX2_extend cX2_extend 11 none (4 + d) [Rv 3, Iv p0, Iv p1, Iv p2, Iv p3, Iv p4] μ (QV g Post) := by
  intro d; induction d with
  | zero => intro μ p0 p1 p2 p3 p4 Post hb; exact hb.elim
  | succ d ih =>
  intro μ p0 p1 p2 p3 p4 Post hb hok
  refine enter (own := RX2) (by decide) rfl (Nat.le_of_ble_eq_true rfl) hok (fun X hl F hr hR => ?_)
  subst hl
  show V g X 11 μ [(0, Rv 3), (1, Iv p0), (2, Iv p1), (3, Iv p2), (4, Iv p3), (5, Iv p4)] 0 []
  obtain ⟨rc, hrc⟩ : ∃ z, z = wp_X2_extend d := ⟨_, rfl⟩
  unfold wp_X2_extend at hb
  rw [← hrc] at ih hb
  obtain ⟨G21, g21, f21⟩ : ∃ G : Mem → Int → Int → Int → Int → Int → Int → Prop, (∀ μ x1 x2 x3 x4 x5 x6, G μ x1 x2 x3 x4 x5 x6 → V g X 11 μ [(0, Rv 3), (1, Iv x1), (2, Iv x2), (3, Iv x3), (4, Iv x4), (5, Iv x5), (6, Iv x6)] 21 []) ∧ (∀ μ x1 x2 x3 x4 x5 x6, V g X 11 μ [(0, Rv 3), (1, Iv x1), (2, Iv x2), (3, Iv x3), (4, Iv x4), (5, Iv x5), (6, Iv x6)] 21 [] → G μ x1 x2 x3 x4 x5 x6) := ⟨fun μ x1 x2 x3 x4 x5 x6 => V g X 11 μ [(0, Rv 3), (1, Iv x1), (2, Iv x2), (3, Iv x3), (4, Iv x4), (5, Iv x5), (6, Iv x6)] 21 [], fun _ _ _ _ _ _ _ h => h, fun _ _ _ _ _ _ _ h => h⟩
  have K172 : ∀ (μ : Mem) (x1 : Int) (x2 : Int) (x3 : Int) (x4 : Int) (x5 : Int) (x6 : Int), b_X2_extend_172 rc G21 Post μ x1 x2 x3 x4 x5 x6 → V g X 11 μ [(0, Rv 3), (1, Iv x1), (2, Iv x2), (3, Iv x3), (4, Iv x4), (5, Iv x5), (6, Iv x6)] 172 [] := by
    intro μ x1 x2 x3 x4 x5 x6 hb
    unfold b_X2_extend_172 at hb
    refine r_iincN (pc := 172) 6 (lf := fun x_1 => [(6, Iv x_1), (0, Rv 3), (1, Iv x1), (2, Iv x2), (3, Iv x3), (4, Iv x4), (5, Iv x5)]) F dX2_extend_172 rfl (by decide) rfl (fun x_1 ex_1 => ?_)
    have hb := hb x_1 ex_1
    refine r_goto (pc := 175) (tgt := 21) F dX2_extend_175 (by decide) ?_
    exact V.sub [1, 2, 3, 4, 5, 6, 0] rfl (g21 μ x1 x2 x3 x4 x5 x_1 hb)
  have K21 : ∀ (μ : Mem) (x1 : Int) (x2 : Int) (x3 : Int) (x4 : Int) (x5 : Int) (x6 : Int), b_X2_extend_21 rc G21 Post μ x1 x2 x3 x4 x5 x6 → V g X 11 μ [(0, Rv 3), (1, Iv x1), (2, Iv x2), (3, Iv x3), (4, Iv x4), (5, Iv x5), (6, Iv x6)] 21 [] := by
    intro μ x1 x2 x3 x4 x5 x6 hb
    unfold b_X2_extend_21 at hb
    refine r_iload (pc := 21) 6 F dX2_extend_21 rfl ?_
    refine r_aload_n (pc := 23) 0 F dX2_extend_23 rfl rfl ?_
    refine gf_RX2_24 (pc := 24) F dX2_extend_24 ?_
    refine gf_RX2_46 (pc := 27) F dX2_extend_27 ?_
    refine r_icmp_ge (pc := 30) (tgt := 178) F dX2_extend_30 (by decide) (fun c_2 => ?_) (fun c_2 => ?_)
    · have hb := hb.1 c_2
      exact r_vret (pc := 178) F hR hr dX2_extend_178 hb
    · have hb := hb.2 c_2
      refine r_aload_n (pc := 33) 0 F dX2_extend_33 rfl rfl ?_
      refine gf_RX2_24 (pc := 34) F dX2_extend_34 ?_
      refine r_iload_n (pc := 37) 2 F dX2_extend_37 rfl rfl ?_
      refine r_iload (pc := 38) 6 F dX2_extend_38 rfl ?_
      refine r_callI (pc := 40) (avs := [Iv x2, Iv x6]) (st := []) F (c_X9_mayFollow μ x2 x6 _ hb) (by omega) cal_X9_mayFollow calv_X9_mayFollow lk_RX2_55 rfl rfl (Nat.le_of_ble_eq_true rfl) dX2_extend_40 (fun r_3 μ_4 hb => ?_)
      refine r_if_ne (pc := 43) (tgt := 49) F dX2_extend_43 (by decide) (fun c_5 => ?_) (fun c_5 => ?_)
      · have hb := hb.1 c_5
        refine r_aload_n (pc := 49) 0 F dX2_extend_49 rfl rfl ?_
        refine gf_RX2_24 (pc := 50) F dX2_extend_50 ?_
        refine r_iload (pc := 53) 4 F dX2_extend_53 rfl ?_
        refine r_aload_n (pc := 55) 0 F dX2_extend_55 rfl rfl ?_
        refine gf_RX2_24 (pc := 56) F dX2_extend_56 ?_
        refine r_iload_n (pc := 59) 3 F dX2_extend_59 rfl rfl ?_
        refine r_iload (pc := 60) 6 F dX2_extend_60 rfl ?_
        refine r_callI (pc := 62) (avs := [Iv x3, Iv x6]) (st := [Iv x4, Rv 1]) F (c_X9_changeFor μ_4 x3 x6 _ hb) (by omega) cal_X9_changeFor calv_X9_changeFor lk_RX2_59 rfl rfl (Nat.le_of_ble_eq_true rfl) dX2_extend_62 (fun r_6 μ_7 hb => ?_)
        refine r_iadd (pc := 65) F dX2_extend_65 ?_
        refine r_iload (pc := 66) 6 F dX2_extend_66 rfl ?_
        refine r_callI (pc := 68) (avs := [Iv (wrap (x4 + r_6)), Iv x6]) (st := []) F (c_X9_endBehind μ_7 (wrap (x4 + r_6)) x6 _ hb) (by omega) cal_X9_endBehind calv_X9_endBehind lk_RX2_63 rfl rfl (Nat.le_of_ble_eq_true rfl) dX2_extend_68 (fun r_8 μ_9 hb => ?_)
        refine r_istore (pc := 71) (lv' := [(7, Iv r_8), (0, Rv 3), (1, Iv x1), (2, Iv x2), (3, Iv x3), (4, Iv x4), (5, Iv x5), (6, Iv x6)]) F dX2_extend_71 (by decide) rfl ?_
        refine r_aload_n (pc := 73) 1 F dX2_extend_73 rfl rfl ?_
        refine gf_RX2_24 (pc := 74) F dX2_extend_74 ?_
        refine r_aload_n (pc := 77) 1 F dX2_extend_77 rfl rfl ?_
        refine gf_RX2_28 (pc := 78) F dX2_extend_78 ?_
        refine r_iload (pc := 81) 6 F dX2_extend_81 rfl ?_
        refine r_iload (pc := 83) 7 F dX2_extend_83 rfl ?_
        refine r_iload (pc := 85) 0 F dX2_extend_85 rfl ?_
        refine r_callI (pc := 87) (avs := [Iv (μ_9 3 3), Iv x5, Iv x6, Iv r_8]) (st := []) F (c_X9_gathered μ_9 (μ_9 3 3) x5 x6 r_8 _ hb) (by omega) cal_X9_gathered calv_X9_gathered lk_RX2_66 rfl rfl (Nat.le_of_ble_eq_true rfl) dX2_extend_87 (fun r_10 μ_11 hb => ?_)
        refine r_istore (pc := 90) (lv' := [(8, Iv r_10), (7, Iv r_8), (0, Rv 3), (1, Iv x1), (2, Iv x2), (3, Iv x3), (4, Iv x4), (5, Iv x5), (6, Iv x6)]) F dX2_extend_90 (by decide) rfl ?_
        refine r_iload_n (pc := 92) 4 F dX2_extend_92 rfl rfl ?_
        refine r_iconst (pc := 93) F dX2_extend_93 (inR_lit rfl) ?_
        refine r_iload (pc := 94) 8 F dX2_extend_94 rfl ?_
        refine r_ishl (pc := 96) F dX2_extend_96 ?_
        refine r_ior (pc := 97) F dX2_extend_97 ?_
        refine V.nmI (fun x_12 ex_12 => ?_)
        have hb := hb x_12 ex_12
        refine r_istore (pc := 98) (lv' := [(9, Iv x_12), (8, Iv r_10), (7, Iv r_8), (0, Rv 3), (1, Iv x1), (2, Iv x2), (3, Iv x3), (4, Iv x4), (5, Iv x5), (6, Iv x6)]) F dX2_extend_98 (by decide) rfl ?_
        refine r_aload_n (pc := 100) 3 F dX2_extend_100 rfl rfl ?_
        refine gf_RX2_24 (pc := 101) F dX2_extend_101 ?_
        refine gf_RX2_70 (pc := 104) F dX2_extend_104 ?_
        refine r_iconst (pc := 107) F dX2_extend_107 (inR_lit rfl) ?_
        refine r_aaldk (pc := 108) (e := 28) F (c := 12) (by decide) (by decide) rfl (by decide) ⟨by decide, by decide⟩ dX2_extend_108 ?_
        refine r_iload (pc := 109) 9 F dX2_extend_109 rfl ?_
        have hg_13 := hb.1
        have hb := hb.2
        refine r_iald (pc := 111) F lc28.1 lc28.2.1 lc28.2.2 hg_13 dX2_extend_111 ?_
        refine V.nmI (fun x_14 ex_14 => ?_)
        have hb := hb x_14 ex_14
        refine r_istore (pc := 112) (lv' := [(10, Iv x_14), (9, Iv x_12), (8, Iv r_10), (7, Iv r_8), (0, Rv 3), (1, Iv x1), (2, Iv x2), (3, Iv x3), (4, Iv x4), (5, Iv x5), (6, Iv x6)]) F dX2_extend_112 (by decide) rfl ?_
        refine r_aload_n (pc := 114) 4 F dX2_extend_114 rfl rfl ?_
        refine r_iload (pc := 115) 1 F dX2_extend_115 rfl ?_
        refine r_iload (pc := 117) 3 F dX2_extend_117 rfl ?_
        refine r_iload (pc := 119) 2 F dX2_extend_119 rfl ?_
        refine r_callI (pc := 121) (avs := [Iv x_12, Iv r_8, Iv r_10]) (st := []) F (c_X2_notLess μ_11 x_12 r_8 r_10 _ hb) (by omega) cal_X2_notLess calv_X2_notLess lk_RX2_74 rfl rfl (Nat.le_of_ble_eq_true rfl) dX2_extend_121 (fun r_15 μ_16 hb => ?_)
        refine r_aload_n (pc := 124) 4 F dX2_extend_124 rfl rfl ?_
        refine gf_RX2_33 (pc := 125) F dX2_extend_125 ?_
        refine r_icmp_ge (pc := 128) (tgt := 172) F dX2_extend_128 (by decide) (fun c_17 => ?_) (fun c_17 => ?_)
        · have hb := hb.1 c_17
          exact V.sub [4, 5, 6, 7, 8, 9, 10] rfl (K172 μ_16 x1 x2 x3 x4 x5 x6 hb)
        · have hb := hb.2 c_17
          refine r_aload_n (pc := 131) 4 F dX2_extend_131 rfl rfl ?_
          refine r_iload (pc := 132) 1 F dX2_extend_132 rfl ?_
          refine r_iload (pc := 134) 0 F dX2_extend_134 rfl ?_
          refine r_iload (pc := 136) 3 F dX2_extend_136 rfl ?_
          refine r_iload (pc := 138) 2 F dX2_extend_138 rfl ?_
          refine r_callI (pc := 140) (avs := [Iv x_12, Iv x_14, Iv r_8, Iv r_10]) (st := []) F (c_X2_triedAsGood μ_16 x_12 x_14 r_8 r_10 _ hb) (by omega) cal_X2_triedAsGood calv_X2_triedAsGood lk_RX2_78 rfl rfl (Nat.le_of_ble_eq_true rfl) dX2_extend_140 (fun r_18 μ_19 hb => ?_)
          refine r_if_eq (pc := 143) (tgt := 149) F dX2_extend_143 (by decide) (fun c_20 => ?_) (fun c_20 => ?_)
          · have hb := hb.1 c_20
            refine r_aload_n (pc := 149) 4 F dX2_extend_149 rfl rfl ?_
            refine gf_RX2_15 (pc := 150) F dX2_extend_150 ?_
            refine r_iload_n (pc := 153) 5 F dX2_extend_153 rfl rfl ?_
            refine r_iload (pc := 154) 10 F dX2_extend_154 rfl ?_
            have hg_21 := hb.1
            have hb := hb.2
            refine r_iast (pc := 156) F lc77.1 lc77.2.1 lc77.2.2 hg_21 dX2_extend_156 ?_
            refine V.nmM (fun μ_22 eμ_22 => ?_)
            have hb := hb μ_22 eμ_22
            refine r_aload_n (pc := 157) 4 F dX2_extend_157 rfl rfl ?_
            refine r_iload_n (pc := 158) 5 F dX2_extend_158 rfl rfl ?_
            refine r_iconst (pc := 159) F dX2_extend_159 (inR_lit rfl) ?_
            refine r_iadd (pc := 160) F dX2_extend_160 ?_
            refine r_iload (pc := 161) 1 F dX2_extend_161 rfl ?_
            refine r_iload (pc := 163) 0 F dX2_extend_163 rfl ?_
            refine r_iload (pc := 165) 3 F dX2_extend_165 rfl ?_
            refine r_iload (pc := 167) 2 F dX2_extend_167 rfl ?_
            refine r_callV (pc := 169) (avs := [Iv (wrap (x1 + 1)), Iv x_12, Iv x_14, Iv r_8, Iv r_10]) (st := []) F (ih μ_22 (wrap (x1 + 1)) x_12 x_14 r_8 r_10 _ hb) (by omega) cal_X2_extend calv_X2_extend lk_RX2_42 rfl rfl (Nat.le_of_ble_eq_true rfl) dX2_extend_169 (fun μ_24 hb => ?_)
            exact V.sub [4, 5, 6, 7, 8, 9, 10] rfl (K172 μ_24 x1 x2 x3 x4 x5 x6 hb)
          · have hb := hb.2 c_20
            refine r_goto (pc := 146) (tgt := 172) F dX2_extend_146 (by decide) ?_
            exact V.sub [4, 5, 6, 7, 8, 9, 10] rfl (K172 μ_19 x1 x2 x3 x4 x5 x6 hb)
      · have hb := hb.2 c_5
        refine r_goto (pc := 46) (tgt := 172) F dX2_extend_46 (by decide) ?_
        exact V.sub [0, 1, 2, 3, 4, 5, 6] rfl (K172 μ_4 x1 x2 x3 x4 x5 x6 hb)
  have hb := hb G21 (fun μ x1 x2 x3 x4 x5 x6 hb => f21 μ x1 x2 x3 x4 x5 x6 (K21 μ x1 x2 x3 x4 x5 x6 hb))
  unfold b_X2_extend_e at hb
  refine r_iload_n (pc := 0) 1 F dX2_extend_0 rfl rfl ?_
  refine r_aload_n (pc := 1) 0 F dX2_extend_1 rfl rfl ?_
  refine gf_RX2_24 (pc := 2) F dX2_extend_2 ?_
  refine gf_RX2_46 (pc := 5) F dX2_extend_5 ?_
  refine r_icmp_lt (pc := 8) (tgt := 18) F dX2_extend_8 (by decide) (fun c_25 => ?_) (fun c_25 => ?_)
  · have hb := hb.1 c_25
    refine r_iconst (pc := 18) F dX2_extend_18 (inR_lit rfl) ?_
    refine r_istore (pc := 19) (lv' := [(6, Iv 0), (0, Rv 3), (1, Iv p0), (2, Iv p1), (3, Iv p2), (4, Iv p3), (5, Iv p4)]) F dX2_extend_19 (by decide) rfl ?_
    exact V.sub [1, 2, 3, 4, 5, 6, 0] rfl (g21 μ p0 p1 p2 p3 p4 0 hb)
  · have hb := hb.2 c_25
    refine r_aload_n (pc := 11) 0 F dX2_extend_11 rfl rfl ?_
    refine r_iload (pc := 12) 5 F dX2_extend_12 rfl ?_
    refine r_callV (pc := 14) (avs := [Iv p4]) (st := []) F (c_X2_keepIfLess μ p4 _ hb) (by omega) cal_X2_keepIfLess calv_X2_keepIfLess lk_RX2_51 rfl rfl (Nat.le_of_ble_eq_true rfl) dX2_extend_14 (fun μ_27 hb => ?_)
    exact r_vret (pc := 17) F hR hr dX2_extend_17 hb
