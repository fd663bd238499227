/-! Walks: X10_minute, X10_needs, X6_add, X6_holds, X10_next, X10_onTime, X10_put, X8_add, X10_step, X8_fewestTo, X8_layOut, X8_fewestMinutes, X10_walk, X10_way, X9_add. By program. -/
set_option maxHeartbeats 4000000 in
set_option maxRecDepth 100000 in
theorem c_X10_minute {g : Wc} {l : Launch} (μ : Mem) (p0 : Int) (Post : Pst) (hb : wp_X10_minute μ p0 Post) : MtC g l yX10_minute cX10_minute 2 (some .int) 3 [Rv 0, Iv p0] μ (QI g Post) := by
  intro hok
  refine enter (own := RX10) (by decide) rfl (Nat.le_of_ble_eq_true rfl) hok (fun X hl F hr hR => ?_)
  subst hl
  show V g X 2 μ [(0, Rv 0), (1, Iv p0)] 0 []
  unfold wp_X10_minute at hb
  have hb := hb
  unfold b_X10_minute_e at hb
  refine r_iload_n (pc := 0) 1 F dX10_minute_0 rfl rfl ?_
  refine r_iconst (pc := 1) F dX10_minute_1 (inR_lit rfl) ?_
  refine r_sipush (pc := 2) F dX10_minute_2 (inR_lit rfl) (by decide) ?_
  refine r_callSI (pc := 5) (avs := [Iv p0, Iv 0, Iv 999]) (st := []) F (c_X10_isFrom μ p0 0 999 _ hb) (by decide) cal_X10_isFrom st_X10_isFrom lk_RX10_90 rfl rfl (Nat.le_of_ble_eq_true rfl) dX10_minute_5 (fun r_1 μ_2 hb => ?_)
  refine r_if_ne (pc := 8) (tgt := 14) F dX10_minute_8 (by decide) (fun c_3 => ?_) (fun c_3 => ?_)
  · have hb := hb.1 c_3
    refine r_aload_n (pc := 14) 0 F dX10_minute_14 rfl rfl ?_
    refine gf_RX10_42 (pc := 15) F dX10_minute_15 ?_
    refine r_iload_n (pc := 18) 1 F dX10_minute_18 rfl rfl ?_
    refine r_callI (pc := 19) (avs := [Iv p0]) (st := []) F (c_X3_workIn μ_2 p0 _ hb) (by decide) cal_X3_workIn calv_X3_workIn lk_RX10_156 rfl rfl (Nat.le_of_ble_eq_true rfl) dX10_minute_19 (fun r_4 μ_5 hb => ?_)
    exact r_iret (pc := 22) F hR hr dX10_minute_22 hb
  · have hb := hb.2 c_3
    refine r_bipush (pc := 11) F dX10_minute_11 (inR_lit rfl) (by decide) ?_
    exact r_iret (pc := 13) F hR hr dX10_minute_13 hb
set_option maxHeartbeats 4000000 in
set_option maxRecDepth 100000 in
theorem c_X10_needs {g : Wc} {l : Launch} (μ : Mem) (p0 : Int) (p1 : Int) (p2 : Int) (Post : Pst) (hb : wp_X10_needs μ p0 p1 p2 Post) : MtC g l yX10_needs cX10_needs 5 (some .int) 2 [Rv 0, Iv p0, Iv p1, Iv p2] μ (QI g Post) := by
  intro hok
  refine enter (own := RX10) (by decide) rfl (Nat.le_of_ble_eq_true rfl) hok (fun X hl F hr hR => ?_)
  subst hl
  show V g X 5 μ [(0, Rv 0), (1, Iv p0), (2, Iv p1), (3, Iv p2)] 0 []
  unfold wp_X10_needs at hb
  have hb := hb
  unfold b_X10_needs_e at hb
  refine r_aload_n (pc := 0) 0 F dX10_needs_0 rfl rfl ?_
  refine gf_RX10_10 (pc := 1) F dX10_needs_1 ?_
  refine r_iload_n (pc := 4) 1 F dX10_needs_4 rfl rfl ?_
  refine r_callI (pc := 5) (avs := [Iv p0]) (st := []) F (c_X9_has μ p0 _ hb) (by decide) cal_X9_has calv_X9_has lk_RX10_102 rfl rfl (Nat.le_of_ble_eq_true rfl) dX10_needs_5 (fun r_1 μ_2 hb => ?_)
  refine r_if_eq (pc := 8) (tgt := 30) F dX10_needs_8 (by decide) (fun c_3 => ?_) (fun c_3 => ?_)
  · have hb := hb.1 c_3
    refine r_bipush (pc := 30) F dX10_needs_30 (inR_lit rfl) (by decide) ?_
    exact r_iret (pc := 32) F hR hr dX10_needs_32 hb
  · have hb := hb.2 c_3
    refine r_iload_n (pc := 11) 2 F dX10_needs_11 rfl rfl ?_
    refine r_iconst (pc := 12) F dX10_needs_12 (inR_lit rfl) ?_
    refine r_iconst (pc := 13) F dX10_needs_13 (inR_lit rfl) ?_
    refine r_callSI (pc := 14) (avs := [Iv p1, Iv 0, Iv 3]) (st := []) F (c_X10_isFrom μ_2 p1 0 3 _ hb) (by decide) cal_X10_isFrom st_X10_isFrom lk_RX10_90 rfl rfl (Nat.le_of_ble_eq_true rfl) dX10_needs_14 (fun r_4 μ_5 hb => ?_)
    refine r_if_eq (pc := 17) (tgt := 30) F dX10_needs_17 (by decide) (fun c_6 => ?_) (fun c_6 => ?_)
    · have hb := hb.1 c_6
      refine r_bipush (pc := 30) F dX10_needs_30 (inR_lit rfl) (by decide) ?_
      exact r_iret (pc := 32) F hR hr dX10_needs_32 hb
    · have hb := hb.2 c_6
      refine r_iload_n (pc := 20) 3 F dX10_needs_20 rfl rfl ?_
      refine r_iconst (pc := 21) F dX10_needs_21 (inR_lit rfl) ?_
      refine r_bipush (pc := 22) F dX10_needs_22 (inR_lit rfl) (by decide) ?_
      refine r_callSI (pc := 24) (avs := [Iv p2, Iv 1, Iv 40]) (st := []) F (c_X10_isFrom μ_5 p2 1 40 _ hb) (by decide) cal_X10_isFrom st_X10_isFrom lk_RX10_90 rfl rfl (Nat.le_of_ble_eq_true rfl) dX10_needs_24 (fun r_7 μ_8 hb => ?_)
      refine r_if_ne (pc := 27) (tgt := 33) F dX10_needs_27 (by decide) (fun c_9 => ?_) (fun c_9 => ?_)
      · have hb := hb.1 c_9
        refine r_aload_n (pc := 33) 0 F dX10_needs_33 rfl rfl ?_
        refine gf_RX10_10 (pc := 34) F dX10_needs_34 ?_
        refine gf_RX10_181 (pc := 37) F dX10_needs_37 ?_
        refine r_iload_n (pc := 40) 1 F dX10_needs_40 rfl rfl ?_
        have hg_10 := hb.1
        have hb := hb.2
        refine r_aald (pc := 41) (n := 8) (d := 32) F (c := 14) (by decide) (by decide) rfl hg_10 dX10_needs_41 ?_
        refine r_iload_n (pc := 42) 2 F dX10_needs_42 rfl rfl ?_
        have hg_11 := hb.1
        have hb := hb.2
        refine r_iald (pc := 43) F (lr14 hg_10).1 (lr14 hg_10).2.1 (lr14 hg_10).2.2 hg_11 dX10_needs_43 ?_
        refine V.nmI (fun x_12 ex_12 => ?_)
        have hb := hb x_12 ex_12
        refine r_istore (pc := 44) (lv' := [(4, Iv x_12), (0, Rv 0), (1, Iv p0), (2, Iv p1), (3, Iv p2)]) F dX10_needs_44 (by decide) rfl ?_
        refine r_aload_n (pc := 46) 1 F dX10_needs_46 rfl rfl ?_
        refine gf_RX10_10 (pc := 47) F dX10_needs_47 ?_
        refine gf_RX10_181 (pc := 50) F dX10_needs_50 ?_
        refine r_iload_n (pc := 53) 2 F dX10_needs_53 rfl rfl ?_
        have hg_13 := hb.1
        have hb := hb.2
        refine r_aald (pc := 54) (n := 8) (d := 32) F (c := 14) (by decide) (by decide) rfl hg_13 dX10_needs_54 ?_
        refine r_iload_n (pc := 55) 3 F dX10_needs_55 rfl rfl ?_
        refine r_iload_n (pc := 56) 4 F dX10_needs_56 rfl rfl ?_
        have hg_14 := hb.1
        have hb := hb.2
        refine r_iast (pc := 57) F (lr14 hg_13).1 (lr14 hg_13).2.1 (lr14 hg_13).2.2 hg_14 dX10_needs_57 ?_
        refine V.nmM (fun μ_15 eμ_15 => ?_)
        have hb := hb μ_15 eμ_15
        refine r_iload (pc := 58) 0 F dX10_needs_58 rfl ?_
        exact r_iret (pc := 60) F hR hr dX10_needs_60 hb
      · have hb := hb.2 c_9
        refine r_bipush (pc := 30) F dX10_needs_30 (inR_lit rfl) (by decide) ?_
        exact r_iret (pc := 32) F hR hr dX10_needs_32 hb
set_option maxHeartbeats 4000000 in
set_option maxRecDepth 100000 in
theorem c_X6_add {g : Wc} {l : Launch} (μ : Mem) (p0 : Int) (Post : Pst) (hb : wp_X6_add μ p0 Post) : MtC g l yX6_add cX6_add 2 (some .int) 0 [Rv 2, Iv p0] μ (QI g Post) := by
  intro hok
  refine enter (own := RX6) (by decide) rfl (Nat.le_of_ble_eq_true rfl) hok (fun X hl F hr hR => ?_)
  subst hl
  show V g X 2 μ [(0, Rv 2), (1, Iv p0)] 0 []
  unfold wp_X6_add at hb
  have hb := hb
  unfold b_X6_add_e at hb
  refine r_aload_n (pc := 0) 0 F dX6_add_0 rfl rfl ?_
  refine gf_RX6_9 (pc := 1) F dX6_add_1 ?_
  refine r_aload_n (pc := 4) 0 F dX6_add_4 rfl rfl ?_
  refine gf_RX6_23 (pc := 5) F dX6_add_5 ?_
  refine r_iload_n (pc := 8) 1 F dX6_add_8 rfl rfl ?_
  have hg_1 := hb.1
  have hb := hb.2
  refine r_iast (pc := 9) F lc75.1 lc75.2.1 lc75.2.2 hg_1 dX6_add_9 ?_
  refine V.nmM (fun μ_2 eμ_2 => ?_)
  have hb := hb μ_2 eμ_2
  refine r_aload_n (pc := 10) 0 F dX6_add_10 rfl rfl ?_
  refine r_dup (pc := 11) F dX6_add_11 rfl ?_
  refine gf_RX6_15 (pc := 12) F dX6_add_12 ?_
  refine r_iconst (pc := 15) F dX6_add_15 (inR_lit rfl) ?_
  refine r_iload_n (pc := 16) 1 F dX6_add_16 rfl rfl ?_
  refine r_ishl (pc := 17) F dX6_add_17 ?_
  refine r_ior (pc := 18) F dX6_add_18 ?_
  refine pf_RX6_15 (pc := 19) F dX6_add_19 ?_
  refine V.nmM (fun μ_3 eμ_3 => ?_)
  have hb := hb μ_3 eμ_3
  refine r_aload_n (pc := 22) 0 F dX6_add_22 rfl rfl ?_
  refine r_dup (pc := 23) F dX6_add_23 rfl ?_
  refine gf_RX6_23 (pc := 24) F dX6_add_24 ?_
  refine r_iconst (pc := 27) F dX6_add_27 (inR_lit rfl) ?_
  refine r_iadd (pc := 28) F dX6_add_28 ?_
  refine pf_RX6_23 (pc := 29) F dX6_add_29 ?_
  refine V.nmM (fun μ_4 eμ_4 => ?_)
  have hb := hb μ_4 eμ_4
  refine r_aload_n (pc := 32) 0 F dX6_add_32 rfl rfl ?_
  refine gf_RX6_23 (pc := 33) F dX6_add_33 ?_
  exact r_iret (pc := 36) F hR hr dX6_add_36 hb
set_option maxHeartbeats 4000000 in
set_option maxRecDepth 100000 in
theorem c_X6_holds {g : Wc} {l : Launch} (μ : Mem) (p0 : Int) (Post : Pst) (hb : wp_X6_holds μ p0 Post) : MtC g l yX6_holds cX6_holds 2 (some .boolean) 1 [Rv 2, Iv p0] μ (QI g Post) := by
  intro hok
  refine enter (own := RX6) (by decide) rfl (Nat.le_of_ble_eq_true rfl) hok (fun X hl F hr hR => ?_)
  subst hl
  show V g X 2 μ [(0, Rv 2), (1, Iv p0)] 0 []
  unfold wp_X6_holds at hb
  have hb := hb
  unfold b_X6_holds_e at hb
  refine r_aload_n (pc := 0) 0 F dX6_holds_0 rfl rfl ?_
  refine gf_RX6_15 (pc := 1) F dX6_holds_1 ?_
  refine r_iload_n (pc := 4) 1 F dX6_holds_4 rfl rfl ?_
  refine r_callNI (pc := 5) (avs := [Iv (μ 2 1), Iv p0]) (st := []) F (c_X10_isIn μ (μ 2 1) p0 _ hb) (by decide) cal_X10_isIn st_X10_isIn lk_RX6_19 rfl rfl (Nat.le_of_ble_eq_true rfl) dX6_holds_5 (fun r_1 μ_2 hb => ?_)
  exact r_zret (pc := 8) F hR hr dX6_holds_8 hb.1 hb.2
set_option maxHeartbeats 4000000 in
set_option maxRecDepth 100000 in
theorem c_X10_next {g : Wc} {l : Launch} (μ : Mem) (p0 : Int) (Post : Pst) (hb : wp_X10_next μ p0 Post) : MtC g l yX10_next cX10_next 2 (some .int) 2 [Rv 0, Iv p0] μ (QI g Post) := by
  intro hok
  refine enter (own := RX10) (by decide) rfl (Nat.le_of_ble_eq_true rfl) hok (fun X hl F hr hR => ?_)
  subst hl
  show V g X 2 μ [(0, Rv 0), (1, Iv p0)] 0 []
  unfold wp_X10_next at hb
  have hb := hb
  unfold b_X10_next_e at hb
  refine r_aload_n (pc := 0) 0 F dX10_next_0 rfl rfl ?_
  refine gf_RX10_10 (pc := 1) F dX10_next_1 ?_
  refine r_iload_n (pc := 4) 1 F dX10_next_4 rfl rfl ?_
  refine r_callI (pc := 5) (avs := [Iv p0]) (st := []) F (c_X9_has μ p0 _ hb) (by decide) cal_X9_has calv_X9_has lk_RX10_102 rfl rfl (Nat.le_of_ble_eq_true rfl) dX10_next_5 (fun r_1 μ_2 hb => ?_)
  refine r_if_eq (pc := 8) (tgt := 22) F dX10_next_8 (by decide) (fun c_3 => ?_) (fun c_3 => ?_)
  · have hb := hb.1 c_3
    refine r_bipush (pc := 22) F dX10_next_22 (inR_lit rfl) (by decide) ?_
    exact r_iret (pc := 24) F hR hr dX10_next_24 hb
  · have hb := hb.2 c_3
    refine r_aload_n (pc := 11) 0 F dX10_next_11 rfl rfl ?_
    refine gf_RX10_19 (pc := 12) F dX10_next_12 ?_
    refine r_iload_n (pc := 15) 1 F dX10_next_15 rfl rfl ?_
    refine r_callI (pc := 16) (avs := [Iv p0]) (st := []) F (c_X6_holds μ_2 p0 _ hb) (by decide) cal_X6_holds calv_X6_holds lk_RX10_159 rfl rfl (Nat.le_of_ble_eq_true rfl) dX10_next_16 (fun r_4 μ_5 hb => ?_)
    refine r_if_eq (pc := 19) (tgt := 25) F dX10_next_19 (by decide) (fun c_6 => ?_) (fun c_6 => ?_)
    · have hb := hb.1 c_6
      refine r_aload_n (pc := 25) 0 F dX10_next_25 rfl rfl ?_
      refine gf_RX10_19 (pc := 26) F dX10_next_26 ?_
      refine r_iload_n (pc := 29) 1 F dX10_next_29 rfl rfl ?_
      refine r_callI (pc := 30) (avs := [Iv p0]) (st := []) F (c_X6_add μ_5 p0 _ hb) (by decide) cal_X6_add calv_X6_add lk_RX10_162 rfl rfl (Nat.le_of_ble_eq_true rfl) dX10_next_30 (fun r_7 μ_8 hb => ?_)
      exact r_iret (pc := 33) F hR hr dX10_next_33 hb
    · have hb := hb.2 c_6
      refine r_bipush (pc := 22) F dX10_next_22 (inR_lit rfl) (by decide) ?_
      exact r_iret (pc := 24) F hR hr dX10_next_24 hb
set_option maxHeartbeats 4000000 in
set_option maxRecDepth 100000 in
theorem c_X10_onTime {g : Wc} {l : Launch} (μ : Mem) (Post : Pst) (hb : wp_X10_onTime μ Post) : MtC g l yX10_onTime cX10_onTime 1 (some .int) 3 [Rv 0] μ (QI g Post) := by
  intro hok
  refine enter (own := RX10) (by decide) rfl (Nat.le_of_ble_eq_true rfl) hok (fun X hl F hr hR => ?_)
  subst hl
  show V g X 1 μ [(0, Rv 0)] 0 []
  unfold wp_X10_onTime at hb
  have hb := hb
  unfold b_X10_onTime_e at hb
  refine r_aload_n (pc := 0) 0 F dX10_onTime_0 rfl rfl ?_
  refine gf_RX10_35 (pc := 1) F dX10_onTime_1 ?_
  refine r_callI (pc := 4) (avs := []) (st := []) F (c_X0_fewestLate μ _ hb) (by decide) cal_X0_fewestLate calv_X0_fewestLate lk_RX10_141 rfl rfl (Nat.le_of_ble_eq_true rfl) dX10_onTime_4 (fun r_1 μ_2 hb => ?_)
  exact r_iret (pc := 7) F hR hr dX10_onTime_7 hb
set_option maxHeartbeats 4000000 in
set_option maxRecDepth 100000 in
theorem c_X10_put {g : Wc} {l : Launch} (μ : Mem) (p0 : Int) (p1 : Int) (p2 : Int) (Post : Pst) (hb : wp_X10_put μ p0 p1 p2 Post) : MtC g l yX10_put cX10_put 5 (some .int) 2 [Rv 0, Iv p0, Iv p1, Iv p2] μ (QI g Post) := by
  intro hok
  refine enter (own := RX10) (by decide) rfl (Nat.le_of_ble_eq_true rfl) hok (fun X hl F hr hR => ?_)
  subst hl
  show V g X 5 μ [(0, Rv 0), (1, Iv p0), (2, Iv p1), (3, Iv p2)] 0 []
  unfold wp_X10_put at hb
  have hb := hb
  unfold b_X10_put_e at hb
  refine r_aload_n (pc := 0) 0 F dX10_put_0 rfl rfl ?_
  refine gf_RX10_10 (pc := 1) F dX10_put_1 ?_
  refine r_iload_n (pc := 4) 1 F dX10_put_4 rfl rfl ?_
  refine r_callI (pc := 5) (avs := [Iv p0]) (st := []) F (c_X9_has μ p0 _ hb) (by decide) cal_X9_has calv_X9_has lk_RX10_102 rfl rfl (Nat.le_of_ble_eq_true rfl) dX10_put_5 (fun r_1 μ_2 hb => ?_)
  refine r_if_eq (pc := 8) (tgt := 37) F dX10_put_8 (by decide) (fun c_3 => ?_) (fun c_3 => ?_)
  · have hb := hb.1 c_3
    refine r_bipush (pc := 37) F dX10_put_37 (inR_lit rfl) (by decide) ?_
    exact r_iret (pc := 39) F hR hr dX10_put_39 hb
  · have hb := hb.2 c_3
    refine r_iload_n (pc := 11) 2 F dX10_put_11 rfl rfl ?_
    refine r_iconst (pc := 12) F dX10_put_12 (inR_lit rfl) ?_
    refine r_iconst (pc := 13) F dX10_put_13 (inR_lit rfl) ?_
    refine r_callSI (pc := 14) (avs := [Iv p1, Iv 0, Iv 4]) (st := []) F (c_X10_isFrom μ_2 p1 0 4 _ hb) (by decide) cal_X10_isFrom st_X10_isFrom lk_RX10_90 rfl rfl (Nat.le_of_ble_eq_true rfl) dX10_put_14 (fun r_4 μ_5 hb => ?_)
    refine r_if_eq (pc := 17) (tgt := 37) F dX10_put_17 (by decide) (fun c_6 => ?_) (fun c_6 => ?_)
    · have hb := hb.1 c_6
      refine r_bipush (pc := 37) F dX10_put_37 (inR_lit rfl) (by decide) ?_
      exact r_iret (pc := 39) F hR hr dX10_put_39 hb
    · have hb := hb.2 c_6
      refine r_iload_n (pc := 20) 3 F dX10_put_20 rfl rfl ?_
      refine r_gets0 (pc := 21) F kg_RX10_83 dX10_put_21 ?_
      refine r_iload_n (pc := 24) 2 F dX10_put_24 rfl rfl ?_
      refine r_tald0 (pc := 25) F hb.1 dX10_put_25 ?_
      have hb := hb.2
      refine r_gets1 (pc := 26) F kg_RX10_87 dX10_put_26 ?_
      refine r_iload_n (pc := 29) 2 F dX10_put_29 rfl rfl ?_
      refine r_tald1 (pc := 30) F hb.1 dX10_put_30 ?_
      have hb := hb.2
      refine r_callSI (pc := 31) (avs := [Iv p2, Iv (stv 0 p1.toNat), Iv (stv 1 p1.toNat)]) (st := []) F (c_X10_isFrom μ_5 p2 (stv 0 p1.toNat) (stv 1 p1.toNat) _ hb) (by decide) cal_X10_isFrom st_X10_isFrom lk_RX10_90 rfl rfl (Nat.le_of_ble_eq_true rfl) dX10_put_31 (fun r_7 μ_8 hb => ?_)
      refine r_if_ne (pc := 34) (tgt := 40) F dX10_put_34 (by decide) (fun c_9 => ?_) (fun c_9 => ?_)
      · have hb := hb.1 c_9
        refine r_aload_n (pc := 40) 0 F dX10_put_40 rfl rfl ?_
        refine gf_RX10_10 (pc := 41) F dX10_put_41 ?_
        refine gf_RX10_106 (pc := 44) F dX10_put_44 ?_
        refine r_iload_n (pc := 47) 2 F dX10_put_47 rfl rfl ?_
        have hg_10 := hb.1
        have hb := hb.2
        refine r_aald (pc := 48) (n := 5) (d := 24) F (c := 12) (by decide) (by decide) rfl hg_10 dX10_put_48 ?_
        refine r_iload_n (pc := 49) 1 F dX10_put_49 rfl rfl ?_
        have hg_11 := hb.1
        have hb := hb.2
        refine r_iald (pc := 50) F (lr12 hg_10).1 (lr12 hg_10).2.1 (lr12 hg_10).2.2 hg_11 dX10_put_50 ?_
        refine V.nmI (fun x_12 ex_12 => ?_)
        have hb := hb x_12 ex_12
        refine r_istore (pc := 51) (lv' := [(4, Iv x_12), (0, Rv 0), (1, Iv p0), (2, Iv p1), (3, Iv p2)]) F dX10_put_51 (by decide) rfl ?_
        refine r_aload_n (pc := 53) 1 F dX10_put_53 rfl rfl ?_
        refine gf_RX10_10 (pc := 54) F dX10_put_54 ?_
        refine gf_RX10_106 (pc := 57) F dX10_put_57 ?_
        refine r_iload_n (pc := 60) 3 F dX10_put_60 rfl rfl ?_
        have hg_13 := hb.1
        have hb := hb.2
        refine r_aald (pc := 61) (n := 5) (d := 24) F (c := 12) (by decide) (by decide) rfl hg_13 dX10_put_61 ?_
        refine r_iload_n (pc := 62) 2 F dX10_put_62 rfl rfl ?_
        refine r_iload_n (pc := 63) 4 F dX10_put_63 rfl rfl ?_
        have hg_14 := hb.1
        have hb := hb.2
        refine r_iast (pc := 64) F (lr12 hg_13).1 (lr12 hg_13).2.1 (lr12 hg_13).2.2 hg_14 dX10_put_64 ?_
        refine V.nmM (fun μ_15 eμ_15 => ?_)
        have hb := hb μ_15 eμ_15
        refine r_iload (pc := 65) 0 F dX10_put_65 rfl ?_
        exact r_iret (pc := 67) F hR hr dX10_put_67 hb
      · have hb := hb.2 c_9
        refine r_bipush (pc := 37) F dX10_put_37 (inR_lit rfl) (by decide) ?_
        exact r_iret (pc := 39) F hR hr dX10_put_39 hb
set_option maxHeartbeats 4000000 in
set_option maxRecDepth 100000 in
theorem c_X8_add {g : Wc} {l : Launch} (μ : Mem) (p0 : Int) (p1 : Int) (p2 : Int) (Post : Pst) (hb : wp_X8_add μ p0 p1 p2 Post) : MtC g l yX8_add cX8_add 5 (some .int) 0 [Rv 9, Iv p0, Iv p1, Iv p2] μ (QI g Post) := by
  intro hok
  refine enter (own := RX8) (by decide) rfl (Nat.le_of_ble_eq_true rfl) hok (fun X hl F hr hR => ?_)
  subst hl
  show V g X 5 μ [(0, Rv 9), (1, Iv p0), (2, Iv p1), (3, Iv p2)] 0 []
  unfold wp_X8_add at hb
  have hb := hb
  unfold b_X8_add_e at hb
  refine r_aload_n (pc := 0) 0 F dX8_add_0 rfl rfl ?_
  refine gf_RX8_9 (pc := 1) F dX8_add_1 ?_
  refine r_iload_n (pc := 4) 1 F dX8_add_4 rfl rfl ?_
  have hg_1 := hb.1
  have hb := hb.2
  refine r_iald (pc := 5) F lc86.1 lc86.2.1 lc86.2.2 hg_1 dX8_add_5 ?_
  refine V.nmI (fun x_2 ex_2 => ?_)
  have hb := hb x_2 ex_2
  refine r_istore (pc := 6) (lv' := [(4, Iv x_2), (0, Rv 9), (1, Iv p0), (2, Iv p1), (3, Iv p2)]) F dX8_add_6 (by decide) rfl ?_
  refine r_aload_n (pc := 8) 1 F dX8_add_8 rfl rfl ?_
  refine gf_RX8_17 (pc := 9) F dX8_add_9 ?_
  refine r_iload_n (pc := 12) 2 F dX8_add_12 rfl rfl ?_
  have hg_3 := hb.1
  have hb := hb.2
  refine r_aald (pc := 13) (n := 2) (d := 64) F (c := 18) (by decide) (by decide) rfl hg_3 dX8_add_13 ?_
  refine r_iload (pc := 14) 0 F dX8_add_14 rfl ?_
  refine r_iload_n (pc := 16) 3 F dX8_add_16 rfl rfl ?_
  have hg_4 := hb.1
  have hb := hb.2
  refine r_iast (pc := 17) F (lr18 hg_3).1 (lr18 hg_3).2.1 (lr18 hg_3).2.2 hg_4 dX8_add_17 ?_
  refine V.nmM (fun μ_5 eμ_5 => ?_)
  have hb := hb μ_5 eμ_5
  refine r_aload_n (pc := 18) 1 F dX8_add_18 rfl rfl ?_
  refine gf_RX8_20 (pc := 19) F dX8_add_19 ?_
  refine r_iload_n (pc := 22) 2 F dX8_add_22 rfl rfl ?_
  have hg_6 := hb.1
  have hb := hb.2
  refine r_aald (pc := 23) (n := 2) (d := 66) F (c := 19) (by decide) (by decide) rfl hg_6 dX8_add_23 ?_
  refine r_iload (pc := 24) 0 F dX8_add_24 rfl ?_
  refine r_iload_n (pc := 26) 4 F dX8_add_26 rfl rfl ?_
  have hg_7 := hb.1
  have hb := hb.2
  refine r_iast (pc := 27) F (lr19 hg_6).1 (lr19 hg_6).2.1 (lr19 hg_6).2.2 hg_7 dX8_add_27 ?_
  refine V.nmM (fun μ_8 eμ_8 => ?_)
  have hb := hb μ_8 eμ_8
  refine r_aload_n (pc := 28) 1 F dX8_add_28 rfl rfl ?_
  refine gf_RX8_9 (pc := 29) F dX8_add_29 ?_
  refine r_iload_n (pc := 32) 2 F dX8_add_32 rfl rfl ?_
  refine r_dup2 (pc := 33) F dX8_add_33 rfl rfl ?_
  have hg_9 := hb.1
  have hb := hb.2
  refine r_iald (pc := 34) F lc86.1 lc86.2.1 lc86.2.2 hg_9 dX8_add_34 ?_
  refine r_iconst (pc := 35) F dX8_add_35 (inR_lit rfl) ?_
  refine r_iadd (pc := 36) F dX8_add_36 ?_
  have hg_10 := hb.1
  have hb := hb.2
  refine r_iast (pc := 37) F lc86.1 lc86.2.1 lc86.2.2 hg_10 dX8_add_37 ?_
  refine V.nmM (fun μ_11 eμ_11 => ?_)
  have hb := hb μ_11 eμ_11
  refine r_aload_n (pc := 38) 1 F dX8_add_38 rfl rfl ?_
  refine gf_RX8_9 (pc := 39) F dX8_add_39 ?_
  refine r_iload_n (pc := 42) 2 F dX8_add_42 rfl rfl ?_
  have hg_12 := hb.1
  have hb := hb.2
  refine r_iald (pc := 43) F lc86.1 lc86.2.1 lc86.2.2 hg_12 dX8_add_43 ?_
  exact r_iret (pc := 44) F hR hr dX8_add_44 hb
set_option maxHeartbeats 4000000 in
set_option maxRecDepth 100000 in
theorem c_X10_step {g : Wc} {l : Launch} (μ : Mem) (p0 : Int) (p1 : Int) (p2 : Int) (Post : Pst) (hb : wp_X10_step μ p0 p1 p2 Post) : MtC g l yX10_step cX10_step 4 (some .int) 1 [Rv 0, Iv p0, Iv p1, Iv p2] μ (QI g Post) := by
  intro hok
  refine enter (own := RX10) (by decide) rfl (Nat.le_of_ble_eq_true rfl) hok (fun X hl F hr hR => ?_)
  subst hl
  show V g X 4 μ [(0, Rv 0), (1, Iv p0), (2, Iv p1), (3, Iv p2)] 0 []
  unfold wp_X10_step at hb
  have hb := hb
  unfold b_X10_step_e at hb
  refine r_iload_n (pc := 0) 1 F dX10_step_0 rfl rfl ?_
  refine r_iconst (pc := 1) F dX10_step_1 (inR_lit rfl) ?_
  refine r_iconst (pc := 2) F dX10_step_2 (inR_lit rfl) ?_
  refine r_callSI (pc := 3) (avs := [Iv p0, Iv 0, Iv 1]) (st := []) F (c_X10_isFrom μ p0 0 1 _ hb) (by decide) cal_X10_isFrom st_X10_isFrom lk_RX10_90 rfl rfl (Nat.le_of_ble_eq_true rfl) dX10_step_3 (fun r_1 μ_2 hb => ?_)
  refine r_if_eq (pc := 6) (tgt := 28) F dX10_step_6 (by decide) (fun c_3 => ?_) (fun c_3 => ?_)
  · have hb := hb.1 c_3
    refine r_bipush (pc := 28) F dX10_step_28 (inR_lit rfl) (by decide) ?_
    exact r_iret (pc := 30) F hR hr dX10_step_30 hb
  · have hb := hb.2 c_3
    refine r_iload_n (pc := 9) 2 F dX10_step_9 rfl rfl ?_
    refine r_iconst (pc := 10) F dX10_step_10 (inR_lit rfl) ?_
    refine r_iconst (pc := 11) F dX10_step_11 (inR_lit rfl) ?_
    refine r_callSI (pc := 12) (avs := [Iv p1, Iv 0, Iv 5]) (st := []) F (c_X10_isFrom μ_2 p1 0 5 _ hb) (by decide) cal_X10_isFrom st_X10_isFrom lk_RX10_90 rfl rfl (Nat.le_of_ble_eq_true rfl) dX10_step_12 (fun r_4 μ_5 hb => ?_)
    refine r_if_eq (pc := 15) (tgt := 28) F dX10_step_15 (by decide) (fun c_6 => ?_) (fun c_6 => ?_)
    · have hb := hb.1 c_6
      refine r_bipush (pc := 28) F dX10_step_28 (inR_lit rfl) (by decide) ?_
      exact r_iret (pc := 30) F hR hr dX10_step_30 hb
    · have hb := hb.2 c_6
      refine r_iload_n (pc := 18) 3 F dX10_step_18 rfl rfl ?_
      refine r_iconst (pc := 19) F dX10_step_19 (inR_lit rfl) ?_
      refine r_bipush (pc := 20) F dX10_step_20 (inR_lit rfl) (by decide) ?_
      refine r_callSI (pc := 22) (avs := [Iv p2, Iv 1, Iv 20]) (st := []) F (c_X10_isFrom μ_5 p2 1 20 _ hb) (by decide) cal_X10_isFrom st_X10_isFrom lk_RX10_90 rfl rfl (Nat.le_of_ble_eq_true rfl) dX10_step_22 (fun r_7 μ_8 hb => ?_)
      refine r_if_ne (pc := 25) (tgt := 31) F dX10_step_25 (by decide) (fun c_9 => ?_) (fun c_9 => ?_)
      · have hb := hb.1 c_9
        refine r_aload_n (pc := 31) 0 F dX10_step_31 rfl rfl ?_
        refine gf_RX10_72 (pc := 32) F dX10_step_32 ?_
        refine gf_RX10_204 (pc := 35) F dX10_step_35 ?_
        refine r_iload_n (pc := 38) 1 F dX10_step_38 rfl rfl ?_
        have hg_10 := hb.1
        have hb := hb.2
        refine r_iald (pc := 39) F lc86.1 lc86.2.1 lc86.2.2 hg_10 dX10_step_39 ?_
        refine r_bipush (pc := 40) F dX10_step_40 (inR_lit rfl) (by decide) ?_
        refine r_icmp_lt (pc := 42) (tgt := 48) F dX10_step_42 (by decide) (fun c_11 => ?_) (fun c_11 => ?_)
        · have hb := hb.1 c_11
          refine r_aload_n (pc := 48) 0 F dX10_step_48 rfl rfl ?_
          refine gf_RX10_72 (pc := 49) F dX10_step_49 ?_
          refine r_iload_n (pc := 52) 1 F dX10_step_52 rfl rfl ?_
          refine r_iload_n (pc := 53) 2 F dX10_step_53 rfl rfl ?_
          refine r_iload_n (pc := 54) 3 F dX10_step_54 rfl rfl ?_
          refine r_callI (pc := 55) (avs := [Iv p0, Iv p1, Iv p2]) (st := []) F (c_X8_add μ_8 p0 p1 p2 _ hb) (by decide) cal_X8_add calv_X8_add lk_RX10_207 rfl rfl (Nat.le_of_ble_eq_true rfl) dX10_step_55 (fun r_12 μ_13 hb => ?_)
          exact r_iret (pc := 58) F hR hr dX10_step_58 hb
        · have hb := hb.2 c_11
          refine r_bipush (pc := 45) F dX10_step_45 (inR_lit rfl) (by decide) ?_
          exact r_iret (pc := 47) F hR hr dX10_step_47 hb
      · have hb := hb.2 c_9
        refine r_bipush (pc := 28) F dX10_step_28 (inR_lit rfl) (by decide) ?_
        exact r_iret (pc := 30) F hR hr dX10_step_30 hb
set_option maxHeartbeats 4000000 in
set_option maxRecDepth 100000 in
theorem c_X8_fewestTo {g : Wc} {l : Launch} (μ : Mem) (p0 : Int) (p1 : Int) (Post : Pst) (hb : wp_X8_fewestTo μ p0 p1 Post) : MtC g l yX8_fewestTo cX8_fewestTo 6 (some .int) 1 [Rv 9, Iv p0, Iv p1] μ (QI g Post) := by
  intro hok
  refine enter (own := RX8) (by decide) rfl (Nat.le_of_ble_eq_true rfl) hok (fun X hl F hr hR => ?_)
  subst hl
  show V g X 6 μ [(0, Rv 9), (1, Iv p0), (2, Iv p1)] 0 []
  unfold wp_X8_fewestTo at hb
  have K112 : ∀ (μ : Mem) (x1 : Int) (x2 : Int) (x4 : Nat) (x5 : Int), b_X8_fewestTo_112 Post μ x1 x2 x4 x5 → V g X 6 μ [(0, Rv 9), (1, Iv x1), (2, Iv x2), (4, Rv x4), (5, Iv x5)] 112 [] := by
    intro μ x1 x2 x4 x5 hb
    unfold b_X8_fewestTo_112 at hb
    refine r_iload_n (pc := 112) 1 F dX8_fewestTo_112 rfl rfl ?_
    refine r_if_le (pc := 113) (tgt := 158) F dX8_fewestTo_113 (by decide) (fun c_1 => ?_) (fun c_1 => ?_)
    · have hb := hb.1 c_1
      refine r_iload (pc := 158) 4 F dX8_fewestTo_158 rfl ?_
      exact r_iret (pc := 160) F hR hr dX8_fewestTo_160 hb
    · have hb := hb.2 c_1
      refine r_iload_n (pc := 116) 2 F dX8_fewestTo_116 rfl rfl ?_
      refine r_if_le (pc := 117) (tgt := 158) F dX8_fewestTo_117 (by decide) (fun c_2 => ?_) (fun c_2 => ?_)
      · have hb := hb.1 c_2
        refine r_iload (pc := 158) 4 F dX8_fewestTo_158 rfl ?_
        exact r_iret (pc := 160) F hR hr dX8_fewestTo_160 hb
      · have hb := hb.2 c_2
        refine r_aload_n (pc := 120) 0 F dX8_fewestTo_120 rfl rfl ?_
        refine gf_RX8_23 (pc := 121) F dX8_fewestTo_121 ?_
        refine r_iconst (pc := 124) F dX8_fewestTo_124 (inR_lit rfl) ?_
        refine r_aaldk (pc := 125) (e := 68) F (c := 20) (by decide) (by decide) rfl (by decide) ⟨by decide, by decide⟩ dX8_fewestTo_125 ?_
        refine r_iload_n (pc := 126) 1 F dX8_fewestTo_126 rfl rfl ?_
        refine r_iconst (pc := 127) F dX8_fewestTo_127 (inR_lit rfl) ?_
        refine r_isub (pc := 128) F dX8_fewestTo_128 ?_
        have hg_3 := hb.1
        have hb := hb.2
        refine r_iald (pc := 129) F lc68.1 lc68.2.1 lc68.2.2 hg_3 dX8_fewestTo_129 ?_
        refine r_aload_n (pc := 130) 0 F dX8_fewestTo_130 rfl rfl ?_
        refine gf_RX8_23 (pc := 131) F dX8_fewestTo_131 ?_
        refine r_iconst (pc := 134) F dX8_fewestTo_134 (inR_lit rfl) ?_
        refine r_aaldk (pc := 135) (e := 69) F (c := 20) (by decide) (by decide) rfl (by decide) ⟨by decide, by decide⟩ dX8_fewestTo_135 ?_
        refine r_iload_n (pc := 136) 2 F dX8_fewestTo_136 rfl rfl ?_
        refine r_iconst (pc := 137) F dX8_fewestTo_137 (inR_lit rfl) ?_
        refine r_isub (pc := 138) F dX8_fewestTo_138 ?_
        have hg_4 := hb.1
        have hb := hb.2
        refine r_iald (pc := 139) F lc69.1 lc69.2.1 lc69.2.2 hg_4 dX8_fewestTo_139 ?_
        refine r_icmp_eq (pc := 140) (tgt := 158) F dX8_fewestTo_140 (by decide) (fun c_5 => ?_) (fun c_5 => ?_)
        · have hb := hb.1 c_5
          refine r_iload (pc := 158) 4 F dX8_fewestTo_158 rfl ?_
          exact r_iret (pc := 160) F hR hr dX8_fewestTo_160 hb
        · have hb := hb.2 c_5
          refine r_iload (pc := 143) 4 F dX8_fewestTo_143 rfl ?_
          refine r_aload (pc := 145) 3 F dX8_fewestTo_145 rfl ?_
          refine r_iload_n (pc := 147) 2 F dX8_fewestTo_147 rfl rfl ?_
          refine r_iconst (pc := 148) F dX8_fewestTo_148 (inR_lit rfl) ?_
          refine r_isub (pc := 149) F dX8_fewestTo_149 ?_
          have hg_6 := hb.1
          have hb := hb.2
          refine r_iald (pc := 150) F hg_6.1 hg_6.2.1 rfl hg_6.2.2 dX8_fewestTo_150 ?_
          refine r_iconst (pc := 151) F dX8_fewestTo_151 (inR_lit rfl) ?_
          refine r_iadd (pc := 152) F dX8_fewestTo_152 ?_
          refine r_min (pc := 153) F (by first | decide | omega) lk_RX8_41 km_min.1 km_min.2.1 km_min.2.2 (Nat.le_of_ble_eq_true rfl) dX8_fewestTo_153 ?_
          refine V.nmI (fun x_7 ex_7 => ?_)
          have hb := hb x_7 ex_7
          refine r_istore (pc := 156) (lv' := [(5, Iv x_7), (0, Rv 9), (1, Iv x1), (2, Iv x2), (4, Rv x4)]) F dX8_fewestTo_156 (by decide) rfl ?_
          refine r_iload (pc := 158) 0 F dX8_fewestTo_158 rfl ?_
          exact r_iret (pc := 160) F hR hr dX8_fewestTo_160 hb
  have K73 : ∀ (μ : Mem) (x1 : Int) (x2 : Int) (x3 : Nat) (x4 : Nat) (x5 : Int), b_X8_fewestTo_73 Post μ x1 x2 x3 x4 x5 → V g X 6 μ [(0, Rv 9), (1, Iv x1), (2, Iv x2), (3, Rv x3), (4, Rv x4), (5, Iv x5)] 73 [] := by
    intro μ x1 x2 x3 x4 x5 hb
    unfold b_X8_fewestTo_73 at hb
    refine r_iload_n (pc := 73) 2 F dX8_fewestTo_73 rfl rfl ?_
    refine r_if_le (pc := 74) (tgt := 112) F dX8_fewestTo_74 (by decide) (fun c_8 => ?_) (fun c_8 => ?_)
    · have hb := hb.1 c_8
      exact V.sub [0, 1, 2, 4, 5] rfl (K112 μ x1 x2 x4 x5 hb)
    · have hb := hb.2 c_8
      refine r_aload_n (pc := 77) 0 F dX8_fewestTo_77 rfl rfl ?_
      refine gf_RX8_23 (pc := 78) F dX8_fewestTo_78 ?_
      refine r_iconst (pc := 81) F dX8_fewestTo_81 (inR_lit rfl) ?_
      refine r_aaldk (pc := 82) (e := 69) F (c := 20) (by decide) (by decide) rfl (by decide) ⟨by decide, by decide⟩ dX8_fewestTo_82 ?_
      refine r_iload_n (pc := 83) 2 F dX8_fewestTo_83 rfl rfl ?_
      refine r_iconst (pc := 84) F dX8_fewestTo_84 (inR_lit rfl) ?_
      refine r_isub (pc := 85) F dX8_fewestTo_85 ?_
      have hg_9 := hb.1
      have hb := hb.2
      refine r_iald (pc := 86) F lc69.1 lc69.2.1 lc69.2.2 hg_9 dX8_fewestTo_86 ?_
      refine r_aload_n (pc := 87) 0 F dX8_fewestTo_87 rfl rfl ?_
      refine gf_RX8_26 (pc := 88) F dX8_fewestTo_88 ?_
      refine r_iconst (pc := 91) F dX8_fewestTo_91 (inR_lit rfl) ?_
      refine r_aaldk (pc := 92) (e := 70) F (c := 21) (by decide) (by decide) rfl (by decide) ⟨by decide, by decide⟩ dX8_fewestTo_92 ?_
      refine r_iload_n (pc := 93) 1 F dX8_fewestTo_93 rfl rfl ?_
      have hg_10 := hb.1
      have hb := hb.2
      refine r_iald (pc := 94) F lc70.1 lc70.2.1 lc70.2.2 hg_10 dX8_fewestTo_94 ?_
      refine r_icmp_eq (pc := 95) (tgt := 112) F dX8_fewestTo_95 (by decide) (fun c_11 => ?_) (fun c_11 => ?_)
      · have hb := hb.1 c_11
        exact V.sub [0, 1, 2, 4, 5] rfl (K112 μ x1 x2 x4 x5 hb)
      · have hb := hb.2 c_11
        refine r_iload (pc := 98) 5 F dX8_fewestTo_98 rfl ?_
        refine r_aload_n (pc := 100) 3 F dX8_fewestTo_100 rfl rfl ?_
        refine r_iload_n (pc := 101) 2 F dX8_fewestTo_101 rfl rfl ?_
        refine r_iconst (pc := 102) F dX8_fewestTo_102 (inR_lit rfl) ?_
        refine r_isub (pc := 103) F dX8_fewestTo_103 ?_
        have hg_12 := hb.1
        have hb := hb.2
        refine r_iald (pc := 104) F hg_12.1 hg_12.2.1 rfl hg_12.2.2 dX8_fewestTo_104 ?_
        refine r_iconst (pc := 105) F dX8_fewestTo_105 (inR_lit rfl) ?_
        refine r_iadd (pc := 106) F dX8_fewestTo_106 ?_
        refine r_min (pc := 107) F (by first | decide | omega) lk_RX8_41 km_min.1 km_min.2.1 km_min.2.2 (Nat.le_of_ble_eq_true rfl) dX8_fewestTo_107 ?_
        refine V.nmI (fun x_13 ex_13 => ?_)
        have hb := hb x_13 ex_13
        refine r_istore (pc := 110) (lv' := [(5, Iv x_13), (0, Rv 9), (1, Iv x1), (2, Iv x2), (3, Rv x3), (4, Rv x4)]) F dX8_fewestTo_110 (by decide) rfl ?_
        exact V.sub [1, 2, 3, 5, 0] rfl (K112 μ x1 x2 x4 x_13 hb)
  have K10 : ∀ (μ : Mem) (x1 : Int) (x2 : Int), b_X8_fewestTo_10 Post μ x1 x2 → V g X 6 μ [(0, Rv 9), (1, Iv x1), (2, Iv x2)] 10 [] := by
    intro μ x1 x2 hb
    unfold b_X8_fewestTo_10 at hb
    refine r_aload_n (pc := 10) 0 F dX8_fewestTo_10 rfl rfl ?_
    refine gf_RX8_29 (pc := 11) F dX8_fewestTo_11 ?_
    refine r_iload_n (pc := 14) 1 F dX8_fewestTo_14 rfl rfl ?_
    refine r_iconst (pc := 15) F dX8_fewestTo_15 (inR_lit rfl) ?_
    refine r_iand (pc := 16) F dX8_fewestTo_16 ?_
    have hg_14 := hb.1
    have hb := hb.2
    refine r_aald (pc := 17) (n := 2) (d := 72) F (c := 22) (by decide) (by decide) rfl hg_14 dX8_fewestTo_17 ?_
    refine r_astore_n (pc := 18) (lv' := [(3, Rv (72 + (iand x1 1).toNat)), (0, Rv 9), (1, Iv x1), (2, Iv x2)]) F dX8_fewestTo_18 rfl (by decide) rfl ?_
    refine r_aload_n (pc := 19) 1 F dX8_fewestTo_19 rfl rfl ?_
    refine gf_RX8_29 (pc := 20) F dX8_fewestTo_20 ?_
    refine r_iload_n (pc := 23) 2 F dX8_fewestTo_23 rfl rfl ?_
    refine r_iconst (pc := 24) F dX8_fewestTo_24 (inR_lit rfl) ?_
    refine r_iadd (pc := 25) F dX8_fewestTo_25 ?_
    refine r_iconst (pc := 26) F dX8_fewestTo_26 (inR_lit rfl) ?_
    refine r_iand (pc := 27) F dX8_fewestTo_27 ?_
    have hg_15 := hb.1
    have hb := hb.2
    refine r_aald (pc := 28) (n := 2) (d := 72) F (c := 22) (by decide) (by decide) rfl hg_15 dX8_fewestTo_28 ?_
    refine r_astore (pc := 29) (lv' := [(4, Rv (72 + (iand (wrap (x1 + 1)) 1).toNat)), (3, Rv (72 + (iand x1 1).toNat)), (0, Rv 9), (1, Iv x1), (2, Iv x2)]) F dX8_fewestTo_29 (by decide) rfl ?_
    refine r_ldc (pc := 31) F kc_RX8_40 (x := 1000000000) (by decide) (inR_lit rfl) dX8_fewestTo_31 ?_
    refine r_istore (pc := 33) (lv' := [(5, Iv 1000000000), (4, Rv (72 + (iand (wrap (x1 + 1)) 1).toNat)), (3, Rv (72 + (iand x1 1).toNat)), (0, Rv 9), (1, Iv x1), (2, Iv x2)]) F dX8_fewestTo_33 (by decide) rfl ?_
    refine r_iload_n (pc := 35) 4 F dX8_fewestTo_35 rfl rfl ?_
    refine r_if_le (pc := 36) (tgt := 73) F dX8_fewestTo_36 (by decide) (fun c_16 => ?_) (fun c_16 => ?_)
    · have hb := hb.1 c_16
      exact V.sub [3, 4, 5, 2, 1, 0] rfl (K73 μ x1 x2 (72 + (iand x1 1).toNat) (72 + (iand (wrap (x1 + 1)) 1).toNat) 1000000000 hb)
    · have hb := hb.2 c_16
      refine r_aload_n (pc := 39) 3 F dX8_fewestTo_39 rfl rfl ?_
      refine gf_RX8_23 (pc := 40) F dX8_fewestTo_40 ?_
      refine r_iconst (pc := 43) F dX8_fewestTo_43 (inR_lit rfl) ?_
      refine r_aaldk (pc := 44) (e := 68) F (c := 20) (by decide) (by decide) rfl (by decide) ⟨by decide, by decide⟩ dX8_fewestTo_44 ?_
      refine r_iload_n (pc := 45) 4 F dX8_fewestTo_45 rfl rfl ?_
      refine r_iconst (pc := 46) F dX8_fewestTo_46 (inR_lit rfl) ?_
      refine r_isub (pc := 47) F dX8_fewestTo_47 ?_
      have hg_17 := hb.1
      have hb := hb.2
      refine r_iald (pc := 48) F lc68.1 lc68.2.1 lc68.2.2 hg_17 dX8_fewestTo_48 ?_
      refine r_aload_n (pc := 49) 3 F dX8_fewestTo_49 rfl rfl ?_
      refine gf_RX8_26 (pc := 50) F dX8_fewestTo_50 ?_
      refine r_iconst (pc := 53) F dX8_fewestTo_53 (inR_lit rfl) ?_
      refine r_aaldk (pc := 54) (e := 71) F (c := 21) (by decide) (by decide) rfl (by decide) ⟨by decide, by decide⟩ dX8_fewestTo_54 ?_
      refine r_iload_n (pc := 55) 5 F dX8_fewestTo_55 rfl rfl ?_
      have hg_18 := hb.1
      have hb := hb.2
      refine r_iald (pc := 56) F lc71.1 lc71.2.1 lc71.2.2 hg_18 dX8_fewestTo_56 ?_
      refine r_icmp_eq (pc := 57) (tgt := 73) F dX8_fewestTo_57 (by decide) (fun c_19 => ?_) (fun c_19 => ?_)
      · have hb := hb.1 c_19
        exact V.sub [3, 4, 5, 2, 1, 0] rfl (K73 μ x1 x2 (72 + (iand x1 1).toNat) (72 + (iand (wrap (x1 + 1)) 1).toNat) 1000000000 hb)
      · have hb := hb.2 c_19
        refine r_iload (pc := 60) 0 F dX8_fewestTo_60 rfl ?_
        refine r_aload (pc := 62) 1 F dX8_fewestTo_62 rfl ?_
        refine r_iload_n (pc := 64) 5 F dX8_fewestTo_64 rfl rfl ?_
        have hg_20 := hb.1
        have hb := hb.2
        refine r_iald (pc := 65) F (lr22 hg_15).1 (lr22 hg_15).2.1 (lr22 hg_15).2.2 hg_20 dX8_fewestTo_65 ?_
        refine r_iconst (pc := 66) F dX8_fewestTo_66 (inR_lit rfl) ?_
        refine r_iadd (pc := 67) F dX8_fewestTo_67 ?_
        refine r_min (pc := 68) F (by first | decide | omega) lk_RX8_41 km_min.1 km_min.2.1 km_min.2.2 (Nat.le_of_ble_eq_true rfl) dX8_fewestTo_68 ?_
        refine V.nmI (fun x_21 ex_21 => ?_)
        have hb := hb x_21 ex_21
        refine r_istore (pc := 71) (lv' := [(5, Iv x_21), (4, Rv (72 + (iand (wrap (x1 + 1)) 1).toNat)), (3, Rv (72 + (iand x1 1).toNat)), (0, Rv 9), (1, Iv x1), (2, Iv x2)]) F dX8_fewestTo_71 (by decide) rfl ?_
        exact V.sub [3, 4, 5, 2, 1, 0] rfl (K73 μ x1 x2 (72 + (iand x1 1).toNat) (72 + (iand (wrap (x1 + 1)) 1).toNat) x_21 hb)
  have hb := hb
  unfold b_X8_fewestTo_e at hb
  refine r_iload_n (pc := 0) 1 F dX8_fewestTo_0 rfl rfl ?_
  refine r_if_ne (pc := 1) (tgt := 10) F dX8_fewestTo_1 (by decide) (fun c_22 => ?_) (fun c_22 => ?_)
  · have hb := hb.1 c_22
    exact V.sub [0, 1, 2] rfl (K10 μ p0 p1 hb)
  · have hb := hb.2 c_22
    refine r_iload_n (pc := 4) 2 F dX8_fewestTo_4 rfl rfl ?_
    refine r_if_ne (pc := 5) (tgt := 10) F dX8_fewestTo_5 (by decide) (fun c_23 => ?_) (fun c_23 => ?_)
    · have hb := hb.1 c_23
      exact V.sub [0, 1, 2] rfl (K10 μ p0 p1 hb)
    · have hb := hb.2 c_23
      refine r_iconst (pc := 8) F dX8_fewestTo_8 (inR_lit rfl) ?_
      exact r_iret (pc := 9) F hR hr dX8_fewestTo_9 hb
set_option maxHeartbeats 4000000 in
set_option maxRecDepth 100000 in
theorem c_X8_layOut {g : Wc} {l : Launch} (μ : Mem) (p0 : Int) (Post : Pst) (hb : wp_X8_layOut μ p0 Post) : MtC g l yX8_layOut cX8_layOut 5 (some .int) 0 [Rv 9, Iv p0] μ (QI g Post) := by
  intro hok
  refine enter (own := RX8) (by decide) rfl (Nat.le_of_ble_eq_true rfl) hok (fun X hl F hr hR => ?_)
  subst hl
  show V g X 5 μ [(0, Rv 9), (1, Iv p0)] 0 []
  unfold wp_X8_layOut at hb
  obtain ⟨G13, g13, f13⟩ : ∃ G : Mem → Int → Int → Int → Prop, (∀ μ x1 x2 x3, G μ x1 x2 x3 → V g X 5 μ [(0, Rv 9), (1, Iv x1), (2, Iv x2), (3, Iv x3)] 13 []) ∧ (∀ μ x1 x2 x3, V g X 5 μ [(0, Rv 9), (1, Iv x1), (2, Iv x2), (3, Iv x3)] 13 [] → G μ x1 x2 x3) := ⟨fun μ x1 x2 x3 => V g X 5 μ [(0, Rv 9), (1, Iv x1), (2, Iv x2), (3, Iv x3)] 13 [], fun _ _ _ _ h => h, fun _ _ _ _ h => h⟩
  obtain ⟨G26, g26, f26⟩ : ∃ G : Mem → Int → Int → Int → Int → Prop, (∀ μ x1 x2 x3 x4, G μ x1 x2 x3 x4 → V g X 5 μ [(0, Rv 9), (1, Iv x1), (2, Iv x2), (3, Iv x3), (4, Iv x4)] 26 []) ∧ (∀ μ x1 x2 x3 x4, V g X 5 μ [(0, Rv 9), (1, Iv x1), (2, Iv x2), (3, Iv x3), (4, Iv x4)] 26 [] → G μ x1 x2 x3 x4) := ⟨fun μ x1 x2 x3 x4 => V g X 5 μ [(0, Rv 9), (1, Iv x1), (2, Iv x2), (3, Iv x3), (4, Iv x4)] 26 [], fun _ _ _ _ _ h => h, fun _ _ _ _ _ h => h⟩
  have K13 : ∀ (μ : Mem) (x1 : Int) (x2 : Int) (x3 : Int), b_X8_layOut_13 G13 G26 Post μ x1 x2 x3 → V g X 5 μ [(0, Rv 9), (1, Iv x1), (2, Iv x2), (3, Iv x3)] 13 [] := by
    intro μ x1 x2 x3 hb
    unfold b_X8_layOut_13 at hb
    refine r_iload_n (pc := 13) 3 F dX8_layOut_13 rfl rfl ?_
    refine r_aload_n (pc := 14) 0 F dX8_layOut_14 rfl rfl ?_
    refine gf_RX8_9 (pc := 15) F dX8_layOut_15 ?_
    refine r_iload_n (pc := 18) 1 F dX8_layOut_18 rfl rfl ?_
    have hg_1 := hb.1
    have hb := hb.2
    refine r_iald (pc := 19) F lc86.1 lc86.2.1 lc86.2.2 hg_1 dX8_layOut_19 ?_
    refine r_icmp_ge (pc := 20) (tgt := 95) F dX8_layOut_20 (by decide) (fun c_2 => ?_) (fun c_2 => ?_)
    · have hb := hb.1 c_2
      refine r_iload_n (pc := 95) 2 F dX8_layOut_95 rfl rfl ?_
      exact r_iret (pc := 96) F hR hr dX8_layOut_96 hb
    · have hb := hb.2 c_2
      refine r_iconst (pc := 23) F dX8_layOut_23 (inR_lit rfl) ?_
      refine r_istore (pc := 24) (lv' := [(4, Iv 0), (0, Rv 9), (1, Iv x1), (2, Iv x2), (3, Iv x3)]) F dX8_layOut_24 (by decide) rfl ?_
      exact V.sub [1, 2, 3, 4, 0] rfl (g26 μ x1 x2 x3 0 hb)
  have K26 : ∀ (μ : Mem) (x1 : Int) (x2 : Int) (x3 : Int) (x4 : Int), b_X8_layOut_26 G13 G26 Post μ x1 x2 x3 x4 → V g X 5 μ [(0, Rv 9), (1, Iv x1), (2, Iv x2), (3, Iv x3), (4, Iv x4)] 26 [] := by
    intro μ x1 x2 x3 x4 hb
    unfold b_X8_layOut_26 at hb
    refine r_iload (pc := 26) 4 F dX8_layOut_26 rfl ?_
    refine r_aload_n (pc := 28) 0 F dX8_layOut_28 rfl rfl ?_
    refine gf_RX8_20 (pc := 29) F dX8_layOut_29 ?_
    refine r_iload_n (pc := 32) 1 F dX8_layOut_32 rfl rfl ?_
    have hg_3 := hb.1
    have hb := hb.2
    refine r_aald (pc := 33) (n := 2) (d := 66) F (c := 19) (by decide) (by decide) rfl hg_3 dX8_layOut_33 ?_
    refine r_iload_n (pc := 34) 3 F dX8_layOut_34 rfl rfl ?_
    have hg_4 := hb.1
    have hb := hb.2
    refine r_iald (pc := 35) F (lr19 hg_3).1 (lr19 hg_3).2.1 (lr19 hg_3).2.2 hg_4 dX8_layOut_35 ?_
    refine r_icmp_ge (pc := 36) (tgt := 80) F dX8_layOut_36 (by decide) (fun c_5 => ?_) (fun c_5 => ?_)
    · have hb := hb.1 c_5
      refine r_aload_n (pc := 80) 0 F dX8_layOut_80 rfl rfl ?_
      refine gf_RX8_26 (pc := 81) F dX8_layOut_81 ?_
      refine r_iload_n (pc := 84) 1 F dX8_layOut_84 rfl rfl ?_
      have hg_6 := hb.1
      have hb := hb.2
      refine r_aald (pc := 85) (n := 2) (d := 70) F (c := 21) (by decide) (by decide) rfl hg_6 dX8_layOut_85 ?_
      refine r_iload_n (pc := 86) 2 F dX8_layOut_86 rfl rfl ?_
      refine r_iconst (pc := 87) F dX8_layOut_87 (inR_lit rfl) ?_
      have hg_7 := hb.1
      have hb := hb.2
      refine r_iast (pc := 88) F (lr21 hg_6).1 (lr21 hg_6).2.1 (lr21 hg_6).2.2 hg_7 dX8_layOut_88 ?_
      refine V.nmM (fun μ_8 eμ_8 => ?_)
      have hb := hb μ_8 eμ_8
      refine r_iincN (pc := 89) 3 (lf := fun x_9 => [(3, Iv x_9), (0, Rv 9), (1, Iv x1), (2, Iv x2), (4, Iv x4)]) F dX8_layOut_89 rfl (by decide) rfl (fun x_9 ex_9 => ?_)
      have hb := hb x_9 ex_9
      refine r_goto (pc := 92) (tgt := 13) F dX8_layOut_92 (by decide) ?_
      exact V.sub [1, 2, 3, 0] rfl (g13 μ_8 x1 x2 x_9 hb)
    · have hb := hb.2 c_5
      refine r_aload_n (pc := 39) 0 F dX8_layOut_39 rfl rfl ?_
      refine gf_RX8_23 (pc := 40) F dX8_layOut_40 ?_
      refine r_iload_n (pc := 43) 1 F dX8_layOut_43 rfl rfl ?_
      have hg_10 := hb.1
      have hb := hb.2
      refine r_aald (pc := 44) (n := 2) (d := 68) F (c := 20) (by decide) (by decide) rfl hg_10 dX8_layOut_44 ?_
      refine r_iload_n (pc := 45) 2 F dX8_layOut_45 rfl rfl ?_
      refine r_aload_n (pc := 46) 0 F dX8_layOut_46 rfl rfl ?_
      refine gf_RX8_17 (pc := 47) F dX8_layOut_47 ?_
      refine r_iload_n (pc := 50) 1 F dX8_layOut_50 rfl rfl ?_
      have hg_11 := hb.1
      have hb := hb.2
      refine r_aald (pc := 51) (n := 2) (d := 64) F (c := 18) (by decide) (by decide) rfl hg_11 dX8_layOut_51 ?_
      refine r_iload_n (pc := 52) 3 F dX8_layOut_52 rfl rfl ?_
      have hg_12 := hb.1
      have hb := hb.2
      refine r_iald (pc := 53) F (lr18 hg_11).1 (lr18 hg_11).2.1 (lr18 hg_11).2.2 hg_12 dX8_layOut_53 ?_
      have hg_13 := hb.1
      have hb := hb.2
      refine r_iast (pc := 54) F (lr20 hg_10).1 (lr20 hg_10).2.1 (lr20 hg_10).2.2 hg_13 dX8_layOut_54 ?_
      refine V.nmM (fun μ_14 eμ_14 => ?_)
      have hb := hb μ_14 eμ_14
      refine r_iincN (pc := 55) 2 (lf := fun x_15 => [(2, Iv x_15), (0, Rv 9), (1, Iv x1), (3, Iv x3), (4, Iv x4)]) F dX8_layOut_55 rfl (by decide) rfl (fun x_15 ex_15 => ?_)
      have hb := hb x_15 ex_15
      refine r_aload_n (pc := 58) 1 F dX8_layOut_58 rfl rfl ?_
      refine gf_RX8_26 (pc := 59) F dX8_layOut_59 ?_
      refine r_iload_n (pc := 62) 2 F dX8_layOut_62 rfl rfl ?_
      have hg_16 := hb.1
      have hb := hb.2
      refine r_aald (pc := 63) (n := 2) (d := 70) F (c := 21) (by decide) (by decide) rfl hg_16 dX8_layOut_63 ?_
      refine r_iload_n (pc := 64) 0 F dX8_layOut_64 rfl rfl ?_
      refine r_aload_n (pc := 65) 1 F dX8_layOut_65 rfl rfl ?_
      refine gf_RX8_17 (pc := 66) F dX8_layOut_66 ?_
      refine r_iload_n (pc := 69) 2 F dX8_layOut_69 rfl rfl ?_
      have hg_17 := hb.1
      have hb := hb.2
      refine r_aald (pc := 70) (n := 2) (d := 64) F (c := 18) (by decide) (by decide) rfl hg_17 dX8_layOut_70 ?_
      refine r_iload_n (pc := 71) 3 F dX8_layOut_71 rfl rfl ?_
      have hg_18 := hb.1
      have hb := hb.2
      refine r_iald (pc := 72) F (lr18 hg_17).1 (lr18 hg_17).2.1 (lr18 hg_17).2.2 hg_18 dX8_layOut_72 ?_
      have hg_19 := hb.1
      have hb := hb.2
      refine r_iast (pc := 73) F (lr21 hg_16).1 (lr21 hg_16).2.1 (lr21 hg_16).2.2 hg_19 dX8_layOut_73 ?_
      refine V.nmM (fun μ_20 eμ_20 => ?_)
      have hb := hb μ_20 eμ_20
      refine r_iincN (pc := 74) 4 (lf := fun x_21 => [(4, Iv x_21), (2, Iv x_15), (0, Rv 9), (1, Iv x1), (3, Iv x3)]) F dX8_layOut_74 rfl (by decide) rfl (fun x_21 ex_21 => ?_)
      have hb := hb x_21 ex_21
      refine r_goto (pc := 77) (tgt := 26) F dX8_layOut_77 (by decide) ?_
      exact V.sub [2, 3, 1, 4, 0] rfl (g26 μ_20 x1 x_15 x3 x_21 hb)
  have hb := hb G13 G26 (fun μ x1 x2 x3 hb => f13 μ x1 x2 x3 (K13 μ x1 x2 x3 hb)) (fun μ x1 x2 x3 x4 hb => f26 μ x1 x2 x3 x4 (K26 μ x1 x2 x3 x4 hb))
  unfold b_X8_layOut_e at hb
  refine r_iconst (pc := 0) F dX8_layOut_0 (inR_lit rfl) ?_
  refine r_istore_n (pc := 1) (lv' := [(2, Iv 0), (0, Rv 9), (1, Iv p0)]) F dX8_layOut_1 rfl (by decide) rfl ?_
  refine r_aload_n (pc := 2) 1 F dX8_layOut_2 rfl rfl ?_
  refine gf_RX8_26 (pc := 3) F dX8_layOut_3 ?_
  refine r_iload_n (pc := 6) 2 F dX8_layOut_6 rfl rfl ?_
  have hg_22 := hb.1
  have hb := hb.2
  refine r_aald (pc := 7) (n := 2) (d := 70) F (c := 21) (by decide) (by decide) rfl hg_22 dX8_layOut_7 ?_
  refine r_iconst (pc := 8) F dX8_layOut_8 (inR_lit rfl) ?_
  refine r_iconst (pc := 9) F dX8_layOut_9 (inR_lit rfl) ?_
  refine r_iastk (pc := 10) (k := 0) F (lr21 hg_22).1 (lr21 hg_22).2.1 (lr21 hg_22).2.2 rfl ⟨by decide, by decide⟩ dX8_layOut_10 ?_
  refine V.nmM (fun μ_23 eμ_23 => ?_)
  have hb := hb μ_23 eμ_23
  refine r_iconst (pc := 11) F dX8_layOut_11 (inR_lit rfl) ?_
  refine r_istore_n (pc := 12) (lv' := [(3, Iv 0), (2, Iv 0), (0, Rv 9), (1, Iv p0)]) F dX8_layOut_12 rfl (by decide) rfl ?_
  exact V.sub [2, 3, 1, 0] rfl (g13 μ_23 p0 0 0 hb)
set_option maxHeartbeats 4000000 in
set_option maxRecDepth 100000 in
theorem c_X8_fewestMinutes {g : Wc} {l : Launch} (μ : Mem) (Post : Pst) (hb : wp_X8_fewestMinutes μ Post) : MtC g l yX8_fewestMinutes cX8_fewestMinutes 5 (some .int) 2 [Rv 9] μ (QI g Post) := by
  intro hok
  refine enter (own := RX8) (by decide) rfl (Nat.le_of_ble_eq_true rfl) hok (fun X hl F hr hR => ?_)
  subst hl
  show V g X 5 μ [(0, Rv 9)] 0 []
  unfold wp_X8_fewestMinutes at hb
  obtain ⟨G14, g14, f14⟩ : ∃ G : Mem → Int → Int → Int → Prop, (∀ μ x1 x2 x3, G μ x1 x2 x3 → V g X 5 μ [(0, Rv 9), (1, Iv x1), (2, Iv x2), (3, Iv x3)] 14 []) ∧ (∀ μ x1 x2 x3, V g X 5 μ [(0, Rv 9), (1, Iv x1), (2, Iv x2), (3, Iv x3)] 14 [] → G μ x1 x2 x3) := ⟨fun μ x1 x2 x3 => V g X 5 μ [(0, Rv 9), (1, Iv x1), (2, Iv x2), (3, Iv x3)] 14 [], fun _ _ _ _ h => h, fun _ _ _ _ h => h⟩
  obtain ⟨G22, g22, f22⟩ : ∃ G : Mem → Int → Int → Int → Int → Prop, (∀ μ x1 x2 x3 x4, G μ x1 x2 x3 x4 → V g X 5 μ [(0, Rv 9), (1, Iv x1), (2, Iv x2), (3, Iv x3), (4, Iv x4)] 22 []) ∧ (∀ μ x1 x2 x3 x4, V g X 5 μ [(0, Rv 9), (1, Iv x1), (2, Iv x2), (3, Iv x3), (4, Iv x4)] 22 [] → G μ x1 x2 x3 x4) := ⟨fun μ x1 x2 x3 x4 => V g X 5 μ [(0, Rv 9), (1, Iv x1), (2, Iv x2), (3, Iv x3), (4, Iv x4)] 22 [], fun _ _ _ _ _ h => h, fun _ _ _ _ _ h => h⟩
  have K14 : ∀ (μ : Mem) (x1 : Int) (x2 : Int) (x3 : Int), b_X8_fewestMinutes_14 G14 G22 Post μ x1 x2 x3 → V g X 5 μ [(0, Rv 9), (1, Iv x1), (2, Iv x2), (3, Iv x3)] 14 [] := by
    intro μ x1 x2 x3 hb
    unfold b_X8_fewestMinutes_14 at hb
    refine r_iload_n (pc := 14) 3 F dX8_fewestMinutes_14 rfl rfl ?_
    refine r_iload_n (pc := 15) 1 F dX8_fewestMinutes_15 rfl rfl ?_
    refine r_icmp_gt (pc := 16) (tgt := 58) F dX8_fewestMinutes_16 (by decide) (fun c_1 => ?_) (fun c_1 => ?_)
    · have hb := hb.1 c_1
      refine r_aload_n (pc := 58) 0 F dX8_fewestMinutes_58 rfl rfl ?_
      refine gf_RX8_29 (pc := 59) F dX8_fewestMinutes_59 ?_
      refine r_iload_n (pc := 62) 1 F dX8_fewestMinutes_62 rfl rfl ?_
      refine r_iconst (pc := 63) F dX8_fewestMinutes_63 (inR_lit rfl) ?_
      refine r_iand (pc := 64) F dX8_fewestMinutes_64 ?_
      have hg_2 := hb.1
      have hb := hb.2
      refine r_aald (pc := 65) (n := 2) (d := 72) F (c := 22) (by decide) (by decide) rfl hg_2 dX8_fewestMinutes_65 ?_
      refine r_iload_n (pc := 66) 2 F dX8_fewestMinutes_66 rfl rfl ?_
      have hg_3 := hb.1
      have hb := hb.2
      refine r_iald (pc := 67) F (lr22 hg_2).1 (lr22 hg_2).2.1 (lr22 hg_2).2.2 hg_3 dX8_fewestMinutes_67 ?_
      exact r_iret (pc := 68) F hR hr dX8_fewestMinutes_68 hb
    · have hb := hb.2 c_1
      refine r_iconst (pc := 19) F dX8_fewestMinutes_19 (inR_lit rfl) ?_
      refine r_istore (pc := 20) (lv' := [(4, Iv 0), (0, Rv 9), (1, Iv x1), (2, Iv x2), (3, Iv x3)]) F dX8_fewestMinutes_20 (by decide) rfl ?_
      exact V.sub [1, 2, 3, 4, 0] rfl (g22 μ x1 x2 x3 0 hb)
  have K22 : ∀ (μ : Mem) (x1 : Int) (x2 : Int) (x3 : Int) (x4 : Int), b_X8_fewestMinutes_22 G14 G22 Post μ x1 x2 x3 x4 → V g X 5 μ [(0, Rv 9), (1, Iv x1), (2, Iv x2), (3, Iv x3), (4, Iv x4)] 22 [] := by
    intro μ x1 x2 x3 x4 hb
    unfold b_X8_fewestMinutes_22 at hb
    refine r_iload (pc := 22) 4 F dX8_fewestMinutes_22 rfl ?_
    refine r_iload_n (pc := 24) 2 F dX8_fewestMinutes_24 rfl rfl ?_
    refine r_icmp_gt (pc := 25) (tgt := 52) F dX8_fewestMinutes_25 (by decide) (fun c_4 => ?_) (fun c_4 => ?_)
    · have hb := hb.1 c_4
      refine r_iincN (pc := 52) 3 (lf := fun x_5 => [(3, Iv x_5), (0, Rv 9), (1, Iv x1), (2, Iv x2), (4, Iv x4)]) F dX8_fewestMinutes_52 rfl (by decide) rfl (fun x_5 ex_5 => ?_)
      have hb := hb x_5 ex_5
      refine r_goto (pc := 55) (tgt := 14) F dX8_fewestMinutes_55 (by decide) ?_
      exact V.sub [1, 2, 3, 0] rfl (g14 μ x1 x2 x_5 hb)
    · have hb := hb.2 c_4
      refine r_aload_n (pc := 28) 0 F dX8_fewestMinutes_28 rfl rfl ?_
      refine gf_RX8_29 (pc := 29) F dX8_fewestMinutes_29 ?_
      refine r_iload_n (pc := 32) 3 F dX8_fewestMinutes_32 rfl rfl ?_
      refine r_iconst (pc := 33) F dX8_fewestMinutes_33 (inR_lit rfl) ?_
      refine r_iand (pc := 34) F dX8_fewestMinutes_34 ?_
      have hg_6 := hb.1
      have hb := hb.2
      refine r_aald (pc := 35) (n := 2) (d := 72) F (c := 22) (by decide) (by decide) rfl hg_6 dX8_fewestMinutes_35 ?_
      refine r_iload (pc := 36) 4 F dX8_fewestMinutes_36 rfl ?_
      refine r_aload_n (pc := 38) 0 F dX8_fewestMinutes_38 rfl rfl ?_
      refine r_iload_n (pc := 39) 3 F dX8_fewestMinutes_39 rfl rfl ?_
      refine r_iload (pc := 40) 4 F dX8_fewestMinutes_40 rfl ?_
      refine r_callI (pc := 42) (avs := [Iv x3, Iv x4]) (st := [Iv x4, Rv (72 + (iand x3 1).toNat)]) F (c_X8_fewestTo μ x3 x4 _ hb) (by decide) cal_X8_fewestTo calv_X8_fewestTo lk_RX8_36 rfl rfl (Nat.le_of_ble_eq_true rfl) dX8_fewestMinutes_42 (fun r_7 μ_8 hb => ?_)
      have hg_9 := hb.1
      have hb := hb.2
      refine r_iast (pc := 45) F (lr22 hg_6).1 (lr22 hg_6).2.1 (lr22 hg_6).2.2 hg_9 dX8_fewestMinutes_45 ?_
      refine V.nmM (fun μ_10 eμ_10 => ?_)
      have hb := hb μ_10 eμ_10
      refine r_iincN (pc := 46) 4 (lf := fun x_11 => [(4, Iv x_11), (0, Rv 9), (1, Iv x1), (2, Iv x2), (3, Iv x3)]) F dX8_fewestMinutes_46 rfl (by decide) rfl (fun x_11 ex_11 => ?_)
      have hb := hb x_11 ex_11
      refine r_goto (pc := 49) (tgt := 22) F dX8_fewestMinutes_49 (by decide) ?_
      exact V.sub [1, 2, 3, 4, 0] rfl (g22 μ_10 x1 x2 x3 x_11 hb)
  have hb := hb G14 G22 (fun μ x1 x2 x3 hb => f14 μ x1 x2 x3 (K14 μ x1 x2 x3 hb)) (fun μ x1 x2 x3 x4 hb => f22 μ x1 x2 x3 x4 (K22 μ x1 x2 x3 x4 hb))
  unfold b_X8_fewestMinutes_e at hb
  refine r_aload_n (pc := 0) 0 F dX8_fewestMinutes_0 rfl rfl ?_
  refine r_iconst (pc := 1) F dX8_fewestMinutes_1 (inR_lit rfl) ?_
  refine r_callI (pc := 2) (avs := [Iv 0]) (st := []) F (c_X8_layOut μ 0 _ hb) (by decide) cal_X8_layOut calv_X8_layOut lk_RX8_32 rfl rfl (Nat.le_of_ble_eq_true rfl) dX8_fewestMinutes_2 (fun r_12 μ_13 hb => ?_)
  refine r_istore_n (pc := 5) (lv' := [(1, Iv r_12), (0, Rv 9)]) F dX8_fewestMinutes_5 rfl (by decide) rfl ?_
  refine r_aload_n (pc := 6) 1 F dX8_fewestMinutes_6 rfl rfl ?_
  refine r_iconst (pc := 7) F dX8_fewestMinutes_7 (inR_lit rfl) ?_
  refine r_callI (pc := 8) (avs := [Iv 1]) (st := []) F (c_X8_layOut μ_13 1 _ hb) (by decide) cal_X8_layOut calv_X8_layOut lk_RX8_32 rfl rfl (Nat.le_of_ble_eq_true rfl) dX8_fewestMinutes_8 (fun r_14 μ_15 hb => ?_)
  refine r_istore_n (pc := 11) (lv' := [(2, Iv r_14), (1, Iv r_12), (0, Rv 9)]) F dX8_fewestMinutes_11 rfl (by decide) rfl ?_
  refine r_iconst (pc := 12) F dX8_fewestMinutes_12 (inR_lit rfl) ?_
  refine r_istore_n (pc := 13) (lv' := [(3, Iv 0), (2, Iv r_14), (1, Iv r_12), (0, Rv 9)]) F dX8_fewestMinutes_13 rfl (by decide) rfl ?_
  exact V.sub [3, 2, 1, 0] rfl (g14 μ_15 r_12 r_14 0 hb)
set_option maxHeartbeats 4000000 in
set_option maxRecDepth 100000 in
theorem c_X10_walk {g : Wc} {l : Launch} (μ : Mem) (Post : Pst) (hb : wp_X10_walk μ Post) : MtC g l yX10_walk cX10_walk 1 (some .int) 3 [Rv 0] μ (QI g Post) := by
  intro hok
  refine enter (own := RX10) (by decide) rfl (Nat.le_of_ble_eq_true rfl) hok (fun X hl F hr hR => ?_)
  subst hl
  show V g X 1 μ [(0, Rv 0)] 0 []
  unfold wp_X10_walk at hb
  have hb := hb
  unfold b_X10_walk_e at hb
  refine r_aload_n (pc := 0) 0 F dX10_walk_0 rfl rfl ?_
  refine gf_RX10_72 (pc := 1) F dX10_walk_1 ?_
  refine r_callI (pc := 4) (avs := []) (st := []) F (c_X8_fewestMinutes μ _ hb) (by decide) cal_X8_fewestMinutes calv_X8_fewestMinutes lk_RX10_211 rfl rfl (Nat.le_of_ble_eq_true rfl) dX10_walk_4 (fun r_1 μ_2 hb => ?_)
  exact r_iret (pc := 7) F hR hr dX10_walk_7 hb
set_option maxHeartbeats 4000000 in
set_option maxRecDepth 100000 in
theorem c_X10_way {g : Wc} {l : Launch} (μ : Mem) (p0 : Int) (p1 : Int) (Post : Pst) (hb : wp_X10_way μ p0 p1 Post) : MtC g l yX10_way cX10_way 4 (some .int) 1 [Rv 0, Iv p0, Iv p1] μ (QI g Post) := by
  intro hok
  refine enter (own := RX10) (by decide) rfl (Nat.le_of_ble_eq_true rfl) hok (fun X hl F hr hR => ?_)
  subst hl
  show V g X 4 μ [(0, Rv 0), (1, Iv p0), (2, Iv p1)] 0 []
  unfold wp_X10_way at hb
  have hb := hb
  unfold b_X10_way_e at hb
  refine r_iload_n (pc := 0) 1 F dX10_way_0 rfl rfl ?_
  refine r_iconst (pc := 1) F dX10_way_1 (inR_lit rfl) ?_
  refine r_iconst (pc := 2) F dX10_way_2 (inR_lit rfl) ?_
  refine r_callSI (pc := 3) (avs := [Iv p0, Iv 1, Iv 3]) (st := []) F (c_X10_isFrom μ p0 1 3 _ hb) (by decide) cal_X10_isFrom st_X10_isFrom lk_RX10_90 rfl rfl (Nat.le_of_ble_eq_true rfl) dX10_way_3 (fun r_1 μ_2 hb => ?_)
  refine r_if_eq (pc := 6) (tgt := 19) F dX10_way_6 (by decide) (fun c_3 => ?_) (fun c_3 => ?_)
  · have hb := hb.1 c_3
    refine r_bipush (pc := 19) F dX10_way_19 (inR_lit rfl) (by decide) ?_
    exact r_iret (pc := 21) F hR hr dX10_way_21 hb
  · have hb := hb.2 c_3
    refine r_iload_n (pc := 9) 2 F dX10_way_9 rfl rfl ?_
    refine r_iconst (pc := 10) F dX10_way_10 (inR_lit rfl) ?_
    refine r_bipush (pc := 11) F dX10_way_11 (inR_lit rfl) (by decide) ?_
    refine r_callSI (pc := 13) (avs := [Iv p1, Iv 0, Iv 9]) (st := []) F (c_X10_isFrom μ_2 p1 0 9 _ hb) (by decide) cal_X10_isFrom st_X10_isFrom lk_RX10_90 rfl rfl (Nat.le_of_ble_eq_true rfl) dX10_way_13 (fun r_4 μ_5 hb => ?_)
    refine r_if_ne (pc := 16) (tgt := 22) F dX10_way_16 (by decide) (fun c_6 => ?_) (fun c_6 => ?_)
    · have hb := hb.1 c_6
      refine r_aload_n (pc := 22) 0 F dX10_way_22 rfl rfl ?_
      refine gf_RX10_49 (pc := 23) F dX10_way_23 ?_
      refine gf_RX10_184 (pc := 26) F dX10_way_26 ?_
      refine r_iload_n (pc := 29) 1 F dX10_way_29 rfl rfl ?_
      have hg_7 := hb.1
      have hb := hb.2
      refine r_iald (pc := 30) F lc82.1 lc82.2.1 lc82.2.2 hg_7 dX10_way_30 ?_
      refine V.nmI (fun x_8 ex_8 => ?_)
      have hb := hb x_8 ex_8
      refine r_istore_n (pc := 31) (lv' := [(3, Iv x_8), (0, Rv 0), (1, Iv p0), (2, Iv p1)]) F dX10_way_31 rfl (by decide) rfl ?_
      refine r_aload_n (pc := 32) 1 F dX10_way_32 rfl rfl ?_
      refine gf_RX10_49 (pc := 33) F dX10_way_33 ?_
      refine gf_RX10_184 (pc := 36) F dX10_way_36 ?_
      refine r_iload_n (pc := 39) 2 F dX10_way_39 rfl rfl ?_
      refine r_iload_n (pc := 40) 3 F dX10_way_40 rfl rfl ?_
      have hg_9 := hb.1
      have hb := hb.2
      refine r_iast (pc := 41) F lc82.1 lc82.2.1 lc82.2.2 hg_9 dX10_way_41 ?_
      refine V.nmM (fun μ_10 eμ_10 => ?_)
      have hb := hb μ_10 eμ_10
      refine r_iload_n (pc := 42) 0 F dX10_way_42 rfl rfl ?_
      exact r_iret (pc := 43) F hR hr dX10_way_43 hb
    · have hb := hb.2 c_6
      refine r_bipush (pc := 19) F dX10_way_19 (inR_lit rfl) (by decide) ?_
      exact r_iret (pc := 21) F hR hr dX10_way_21 hb
set_option maxHeartbeats 4000000 in
set_option maxRecDepth 100000 in
theorem c_X9_add {g : Wc} {l : Launch} (μ : Mem) (p0 : Int) (Post : Pst) (hb : wp_X9_add μ p0 Post) : MtC g l yX9_add cX9_add 4 (some .int) 1 [Rv 1, Iv p0] μ (QI g Post) := by
  intro hok
  refine enter (own := RX9) (by decide) rfl (Nat.le_of_ble_eq_true rfl) hok (fun X hl F hr hR => ?_)
  subst hl
  show V g X 4 μ [(0, Rv 1), (1, Iv p0)] 0 []
  unfold wp_X9_add at hb
  obtain ⟨G7, g7, f7⟩ : ∃ G : Mem → Int → Int → Int → Prop, (∀ μ x1 x2 x3, G μ x1 x2 x3 → V g X 4 μ [(0, Rv 1), (1, Iv x1), (2, Iv x2), (3, Iv x3)] 7 []) ∧ (∀ μ x1 x2 x3, V g X 4 μ [(0, Rv 1), (1, Iv x1), (2, Iv x2), (3, Iv x3)] 7 [] → G μ x1 x2 x3) := ⟨fun μ x1 x2 x3 => V g X 4 μ [(0, Rv 1), (1, Iv x1), (2, Iv x2), (3, Iv x3)] 7 [], fun _ _ _ _ h => h, fun _ _ _ _ h => h⟩
  have K7 : ∀ (μ : Mem) (x1 : Int) (x2 : Int) (x3 : Int), b_X9_add_7 G7 Post μ x1 x2 x3 → V g X 4 μ [(0, Rv 1), (1, Iv x1), (2, Iv x2), (3, Iv x3)] 7 [] := by
    intro μ x1 x2 x3 hb
    unfold b_X9_add_7 at hb
    refine r_iload_n (pc := 7) 3 F dX9_add_7 rfl rfl ?_
    refine r_iconst (pc := 8) F dX9_add_8 (inR_lit rfl) ?_
    refine r_icmp_ge (pc := 9) (tgt := 31) F dX9_add_9 (by decide) (fun c_1 => ?_) (fun c_1 => ?_)
    · have hb := hb.1 c_1
      refine r_aload_n (pc := 31) 0 F dX9_add_31 rfl rfl ?_
      refine gf_RX9_11 (pc := 32) F dX9_add_32 ?_
      refine r_iconst (pc := 35) F dX9_add_35 (inR_lit rfl) ?_
      refine r_aaldk (pc := 36) (e := 24) F (c := 12) (by decide) (by decide) rfl (by decide) ⟨by decide, by decide⟩ dX9_add_36 ?_
      refine r_iload_n (pc := 37) 2 F dX9_add_37 rfl rfl ?_
      refine r_iload_n (pc := 38) 1 F dX9_add_38 rfl rfl ?_
      have hg_2 := hb.1
      have hb := hb.2
      refine r_iast (pc := 39) F lc24.1 lc24.2.1 lc24.2.2 hg_2 dX9_add_39 ?_
      refine V.nmM (fun μ_3 eμ_3 => ?_)
      have hb := hb μ_3 eμ_3
      refine r_aload_n (pc := 40) 0 F dX9_add_40 rfl rfl ?_
      refine gf_RX9_23 (pc := 41) F dX9_add_41 ?_
      refine r_iload_n (pc := 44) 2 F dX9_add_44 rfl rfl ?_
      have hg_4 := hb.1
      have hb := hb.2
      refine r_aald (pc := 45) (n := 8) (d := 32) F (c := 14) (by decide) (by decide) rfl hg_4 dX9_add_45 ?_
      refine r_iconst (pc := 46) F dX9_add_46 (inR_lit rfl) ?_
      refine r_callSV (pc := 47) (avs := [Rv (32 + x2.toNat), Iv 1]) (st := []) F (c_J7_fill_53178 μ_3 (32 + x2.toNat) 1 _ hb) (by decide) cal_J7_fill_53178 st_J7_fill_53178 lk_RX9_33 rfl rfl (Nat.le_of_ble_eq_true rfl) dX9_add_47 (fun μ_6 hb => ?_)
      refine r_aload_n (pc := 50) 0 F dX9_add_50 rfl rfl ?_
      refine gf_RX9_23 (pc := 51) F dX9_add_51 ?_
      refine r_iload_n (pc := 54) 2 F dX9_add_54 rfl rfl ?_
      have hg_7 := hb.1
      have hb := hb.2
      refine r_aald (pc := 55) (n := 8) (d := 32) F (c := 14) (by decide) (by decide) rfl hg_7 dX9_add_55 ?_
      refine r_iconst (pc := 56) F dX9_add_56 (inR_lit rfl) ?_
      refine r_iload_n (pc := 57) 1 F dX9_add_57 rfl rfl ?_
      refine r_iastk (pc := 58) (k := 0) F (lr14 hg_7).1 (lr14 hg_7).2.1 (lr14 hg_7).2.2 rfl ⟨by decide, by decide⟩ dX9_add_58 ?_
      refine V.nmM (fun μ_8 eμ_8 => ?_)
      have hb := hb μ_8 eμ_8
      refine r_aload_n (pc := 59) 0 F dX9_add_59 rfl rfl ?_
      refine r_dup (pc := 60) F dX9_add_60 rfl ?_
      refine gf_RX9_26 (pc := 61) F dX9_add_61 ?_
      refine r_iconst (pc := 64) F dX9_add_64 (inR_lit rfl) ?_
      refine r_iadd (pc := 65) F dX9_add_65 ?_
      refine pf_RX9_26 (pc := 66) F dX9_add_66 ?_
      refine V.nmM (fun μ_9 eμ_9 => ?_)
      have hb := hb μ_9 eμ_9
      refine r_iload_n (pc := 69) 2 F dX9_add_69 rfl rfl ?_
      exact r_iret (pc := 70) F hR hr dX9_add_70 hb
    · have hb := hb.2 c_1
      refine r_aload_n (pc := 12) 0 F dX9_add_12 rfl rfl ?_
      refine gf_RX9_11 (pc := 13) F dX9_add_13 ?_
      refine r_iload_n (pc := 16) 3 F dX9_add_16 rfl rfl ?_
      have hg_10 := hb.1
      have hb := hb.2
      refine r_aald (pc := 17) (n := 5) (d := 24) F (c := 12) (by decide) (by decide) rfl hg_10 dX9_add_17 ?_
      refine r_iload_n (pc := 18) 2 F dX9_add_18 rfl rfl ?_
      refine r_gets2N (pc := 19) F kg_RX9_30 dX9_add_19 ?_
      refine r_iload_n (pc := 22) 3 F dX9_add_22 rfl rfl ?_
      refine r_tald2 (pc := 23) F hb.1 dX9_add_23 ?_
      have hb := hb.2
      have hg_11 := hb.1
      have hb := hb.2
      refine r_iast (pc := 24) F (lr12 hg_10).1 (lr12 hg_10).2.1 (lr12 hg_10).2.2 hg_11 dX9_add_24 ?_
      refine V.nmM (fun μ_12 eμ_12 => ?_)
      have hb := hb μ_12 eμ_12
      refine r_iincN (pc := 25) 3 (lf := fun x_13 => [(3, Iv x_13), (0, Rv 1), (1, Iv x1), (2, Iv x2)]) F dX9_add_25 rfl (by decide) rfl (fun x_13 ex_13 => ?_)
      have hb := hb x_13 ex_13
      refine r_goto (pc := 28) (tgt := 7) F dX9_add_28 (by decide) ?_
      exact V.sub [1, 2, 3, 0] rfl (g7 μ_12 x1 x2 x_13 hb)
  have hb := hb G7 (fun μ x1 x2 x3 hb => f7 μ x1 x2 x3 (K7 μ x1 x2 x3 hb))
  unfold b_X9_add_e at hb
  refine r_aload_n (pc := 0) 0 F dX9_add_0 rfl rfl ?_
  refine gf_RX9_26 (pc := 1) F dX9_add_1 ?_
  refine V.nmI (fun x_14 ex_14 => ?_)
  have hb := hb x_14 ex_14
  refine r_istore_n (pc := 4) (lv' := [(2, Iv x_14), (0, Rv 1), (1, Iv p0)]) F dX9_add_4 rfl (by decide) rfl ?_
  refine r_iconst (pc := 5) F dX9_add_5 (inR_lit rfl) ?_
  refine r_istore_n (pc := 6) (lv' := [(3, Iv 0), (2, Iv x_14), (0, Rv 1), (1, Iv p0)]) F dX9_add_6 rfl (by decide) rfl ?_
  exact V.sub [2, 3, 1, 0] rfl (g7 μ p0 x_14 0 hb)
