/-! Walks: X2_seek, X10_best, X1_endsAtLeast, X1_keepIfSooner, X4_roomAhead, X4_send, X1_extend, X4_timeBetween, X4_notSoonerBy, X4_notSooner, X1_seek, X10_bestRow. By program. -/
set_option maxHeartbeats 4000000 in
set_option maxRecDepth 100000 in
theorem c_X2_seek {g : Wc} {l : Launch} (μ : Mem) (p0 : Int) (Post : Pst) (hb : wp_X2_seek μ p0 Post) : MtC g l yX2_seek cX2_seek 2 none 15 [Rv 3, Iv p0] μ (QV g Post) := by
  intro hok
  refine enter (own := RX2) (by decide) rfl (Nat.le_of_ble_eq_true rfl) hok (fun X hl F hr hR => ?_)
  subst hl
  show V g X 2 μ [(0, Rv 3), (1, Iv p0)] 0 []
  unfold wp_X2_seek at hb
  have hb := hb
  unfold b_X2_seek_e at hb
  refine r_aload_n (pc := 0) 0 F dX2_seek_0 rfl rfl ?_
  refine r_iload_n (pc := 1) 1 F dX2_seek_1 rfl rfl ?_
  refine pf_RX2_28 (pc := 2) F dX2_seek_2 ?_
  refine V.nmM (fun μ_1 eμ_1 => ?_)
  have hb := hb μ_1 eμ_1
  refine r_aload_n (pc := 5) 0 F dX2_seek_5 rfl rfl ?_
  refine r_ldc (pc := 6) F kc_RX2_32 (x := 1000000000) (by decide) (inR_lit rfl) dX2_seek_6 ?_
  refine pf_RX2_33 (pc := 8) F dX2_seek_8 ?_
  refine V.nmM (fun μ_2 eμ_2 => ?_)
  have hb := hb μ_2 eμ_2
  refine r_aload_n (pc := 11) 0 F dX2_seek_11 rfl rfl ?_
  refine gf_RX2_18 (pc := 12) F dX2_seek_12 ?_
  refine r_ldc (pc := 15) F kc_RX2_32 (x := 1000000000) (by decide) (inR_lit rfl) dX2_seek_15 ?_
  refine r_callSV (pc := 17) (avs := [Rv 78, Iv 1000000000]) (st := []) F (c_J7_fill_53178 μ_2 78 1000000000 _ hb) (by decide) cal_J7_fill_53178 st_J7_fill_53178 lk_RX2_36 rfl rfl (Nat.le_of_ble_eq_true rfl) dX2_seek_17 (fun μ_4 hb => ?_)
  refine r_aload_n (pc := 20) 0 F dX2_seek_20 rfl rfl ?_
  refine gf_RX2_21 (pc := 21) F dX2_seek_21 ?_
  refine r_ldc (pc := 24) F kc_RX2_32 (x := 1000000000) (by decide) (inR_lit rfl) dX2_seek_24 ?_
  refine r_callSV (pc := 26) (avs := [Rv 79, Iv 1000000000]) (st := []) F (c_J7_fill_53178 μ_4 79 1000000000 _ hb) (by decide) cal_J7_fill_53178 st_J7_fill_53178 lk_RX2_36 rfl rfl (Nat.le_of_ble_eq_true rfl) dX2_seek_26 (fun μ_6 hb => ?_)
  refine r_aload_n (pc := 29) 0 F dX2_seek_29 rfl rfl ?_
  refine r_iconst (pc := 30) F dX2_seek_30 (inR_lit rfl) ?_
  refine r_iconst (pc := 31) F dX2_seek_31 (inR_lit rfl) ?_
  refine r_iconst (pc := 32) F dX2_seek_32 (inR_lit rfl) ?_
  refine r_iconst (pc := 33) F dX2_seek_33 (inR_lit rfl) ?_
  refine r_iconst (pc := 34) F dX2_seek_34 (inR_lit rfl) ?_
  refine r_callV (pc := 35) (avs := [Iv 0, Iv 0, Iv (-1), Iv 0, Iv 0]) (st := []) F (c_X2_extend 10 μ_6 0 0 (-1) 0 0 _ hb) (by decide) cal_X2_extend calv_X2_extend lk_RX2_42 rfl rfl (Nat.le_of_ble_eq_true rfl) dX2_seek_35 (fun μ_8 hb => ?_)
  exact r_vret (pc := 38) F hR hr dX2_seek_38 hb
set_option maxHeartbeats 4000000 in
set_option maxRecDepth 100000 in
theorem c_X10_best {g : Wc} {l : Launch} (μ : Mem) (p0 : Int) (p1 : Int) (Post : Pst) (hb : wp_X10_best μ p0 p1 Post) : MtC g l yX10_best cX10_best 3 (some .int) 16 [Rv 0, Iv p0, Iv p1] μ (QI g Post) := by
  intro hok
  refine enter (own := RX10) (by decide) rfl (Nat.le_of_ble_eq_true rfl) hok (fun X hl F hr hR => ?_)
  subst hl
  show V g X 3 μ [(0, Rv 0), (1, Iv p0), (2, Iv p1)] 0 []
  unfold wp_X10_best at hb
  have hb := hb
  unfold b_X10_best_e at hb
  refine r_iload_n (pc := 0) 1 F dX10_best_0 rfl rfl ?_
  refine r_iconst (pc := 1) F dX10_best_1 (inR_lit rfl) ?_
  refine r_iconst (pc := 2) F dX10_best_2 (inR_lit rfl) ?_
  refine r_callSI (pc := 3) (avs := [Iv p0, Iv 0, Iv 4]) (st := []) F (c_X10_isFrom μ p0 0 4 _ hb) (by decide) cal_X10_isFrom st_X10_isFrom lk_RX10_90 rfl rfl (Nat.le_of_ble_eq_true rfl) dX10_best_3 (fun r_1 μ_2 hb => ?_)
  refine r_if_eq (pc := 6) (tgt := 26) F dX10_best_6 (by decide) (fun c_3 => ?_) (fun c_3 => ?_)
  · have hb := hb.1 c_3
    refine r_bipush (pc := 26) F dX10_best_26 (inR_lit rfl) (by decide) ?_
    exact r_iret (pc := 28) F hR hr dX10_best_28 hb
  · have hb := hb.2 c_3
    refine r_iload_n (pc := 9) 2 F dX10_best_9 rfl rfl ?_
    refine r_iconst (pc := 10) F dX10_best_10 (inR_lit rfl) ?_
    refine r_aload_n (pc := 11) 0 F dX10_best_11 rfl rfl ?_
    refine gf_RX10_10 (pc := 12) F dX10_best_12 ?_
    refine gf_RX10_94 (pc := 15) F dX10_best_15 ?_
    refine r_iconst (pc := 18) F dX10_best_18 (inR_lit rfl) ?_
    refine r_isub (pc := 19) F dX10_best_19 ?_
    refine r_callSI (pc := 20) (avs := [Iv p1, Iv (-1), Iv (wrap ((μ_2 1 0) - 1))]) (st := []) F (c_X10_isFrom μ_2 p1 (-1) (wrap ((μ_2 1 0) - 1)) _ hb) (by decide) cal_X10_isFrom st_X10_isFrom lk_RX10_90 rfl rfl (Nat.le_of_ble_eq_true rfl) dX10_best_20 (fun r_4 μ_5 hb => ?_)
    refine r_if_ne (pc := 23) (tgt := 29) F dX10_best_23 (by decide) (fun c_6 => ?_) (fun c_6 => ?_)
    · have hb := hb.1 c_6
      refine r_aload_n (pc := 29) 0 F dX10_best_29 rfl rfl ?_
      refine gf_RX10_28 (pc := 30) F dX10_best_30 ?_
      refine r_iload_n (pc := 33) 1 F dX10_best_33 rfl rfl ?_
      refine r_callV (pc := 34) (avs := [Iv p0]) (st := []) F (c_X2_seek μ_5 p0 _ hb) (by decide) cal_X2_seek calv_X2_seek lk_RX10_124 rfl rfl (Nat.le_of_ble_eq_true rfl) dX10_best_34 (fun μ_8 hb => ?_)
      refine r_iload_n (pc := 37) 2 F dX10_best_37 rfl rfl ?_
      refine r_iconst (pc := 38) F dX10_best_38 (inR_lit rfl) ?_
      refine r_icmp_ne (pc := 39) (tgt := 52) F dX10_best_39 (by decide) (fun c_9 => ?_) (fun c_9 => ?_)
      · have hb := hb.1 c_9
        refine r_aload_n (pc := 52) 0 F dX10_best_52 rfl rfl ?_
        refine gf_RX10_28 (pc := 53) F dX10_best_53 ?_
        refine gf_RX10_131 (pc := 56) F dX10_best_56 ?_
        refine r_iload_n (pc := 59) 2 F dX10_best_59 rfl rfl ?_
        have hg_10 := hb.1
        have hb := hb.2
        refine r_iald (pc := 60) F lc76.1 lc76.2.1 lc76.2.2 hg_10 dX10_best_60 ?_
        exact r_iret (pc := 61) F hR hr dX10_best_61 hb
      · have hb := hb.2 c_9
        refine r_aload_n (pc := 42) 0 F dX10_best_42 rfl rfl ?_
        refine gf_RX10_28 (pc := 43) F dX10_best_43 ?_
        refine gf_RX10_128 (pc := 46) F dX10_best_46 ?_
        refine r_goto (pc := 49) (tgt := 61) F dX10_best_49 (by decide) ?_
        exact r_iret (pc := 61) F hR hr dX10_best_61 hb
    · have hb := hb.2 c_6
      refine r_bipush (pc := 26) F dX10_best_26 (inR_lit rfl) (by decide) ?_
      exact r_iret (pc := 28) F hR hr dX10_best_28 hb
set_option maxHeartbeats 4000000 in
set_option maxRecDepth 100000 in
theorem c_X1_endsAtLeast {g : Wc} {l : Launch} (μ : Mem) (p0 : Int) (p1 : Int) (p2 : Int) (Post : Pst) (hb : wp_X1_endsAtLeast μ p0 p1 p2 Post) : MtC g l yX1_endsAtLeast cX1_endsAtLeast 9 (some .int) 1 [Rv 7, Iv p0, Iv p1, Iv p2] μ (QI g Post) := by
  intro hok
  refine enter (own := RX1) (by decide) rfl (Nat.le_of_ble_eq_true rfl) hok (fun X hl F hr hR => ?_)
  subst hl
  show V g X 9 μ [(0, Rv 7), (1, Iv p0), (2, Iv p1), (3, Iv p2)] 0 []
  unfold wp_X1_endsAtLeast at hb
  obtain ⟨G19, g19, f19⟩ : ∃ G : Mem → Int → Int → Int → Int → Prop, (∀ μ x1 x2 x4 x5, G μ x1 x2 x4 x5 → V g X 9 μ [(0, Rv 7), (1, Iv x1), (2, Iv x2), (4, Iv x4), (5, Iv x5)] 19 []) ∧ (∀ μ x1 x2 x4 x5, V g X 9 μ [(0, Rv 7), (1, Iv x1), (2, Iv x2), (4, Iv x4), (5, Iv x5)] 19 [] → G μ x1 x2 x4 x5) := ⟨fun μ x1 x2 x4 x5 => V g X 9 μ [(0, Rv 7), (1, Iv x1), (2, Iv x2), (4, Iv x4), (5, Iv x5)] 19 [], fun _ _ _ _ _ h => h, fun _ _ _ _ _ h => h⟩
  obtain ⟨G52, g52, f52⟩ : ∃ G : Mem → Int → Int → Int → Int → Int → Int → Int → Prop, (∀ μ x1 x2 x4 x5 x6 x7 x8, G μ x1 x2 x4 x5 x6 x7 x8 → V g X 9 μ [(0, Rv 7), (1, Iv x1), (2, Iv x2), (4, Iv x4), (5, Iv x5), (6, Iv x6), (7, Iv x7), (8, Iv x8)] 52 []) ∧ (∀ μ x1 x2 x4 x5 x6 x7 x8, V g X 9 μ [(0, Rv 7), (1, Iv x1), (2, Iv x2), (4, Iv x4), (5, Iv x5), (6, Iv x6), (7, Iv x7), (8, Iv x8)] 52 [] → G μ x1 x2 x4 x5 x6 x7 x8) := ⟨fun μ x1 x2 x4 x5 x6 x7 x8 => V g X 9 μ [(0, Rv 7), (1, Iv x1), (2, Iv x2), (4, Iv x4), (5, Iv x5), (6, Iv x6), (7, Iv x7), (8, Iv x8)] 52 [], fun _ _ _ _ _ _ _ _ h => h, fun _ _ _ _ _ _ _ _ h => h⟩
  have K108 : ∀ (μ : Mem) (x1 : Int) (x2 : Int) (x4 : Int) (x5 : Int) (x6 : Int) (x7 : Int) (x8 : Int), b_X1_endsAtLeast_108 G19 G52 Post μ x1 x2 x4 x5 x6 x7 x8 → V g X 9 μ [(0, Rv 7), (1, Iv x1), (2, Iv x2), (4, Iv x4), (5, Iv x5), (6, Iv x6), (7, Iv x7), (8, Iv x8)] 108 [] := by
    intro μ x1 x2 x4 x5 x6 x7 x8 hb
    unfold b_X1_endsAtLeast_108 at hb
    refine r_iincN (pc := 108) 7 (lf := fun x_1 => [(8, Iv x_1), (0, Rv 7), (1, Iv x1), (2, Iv x2), (4, Iv x4), (5, Iv x5), (6, Iv x6), (7, Iv x7)]) F dX1_endsAtLeast_108 rfl (by decide) rfl (fun x_1 ex_1 => ?_)
    have hb := hb x_1 ex_1
    refine r_goto (pc := 111) (tgt := 52) F dX1_endsAtLeast_111 (by decide) ?_
    exact V.sub [1, 2, 3, 4, 5, 6, 7, 0] rfl (g52 μ x1 x2 x4 x5 x6 x7 x_1 hb)
  have K19 : ∀ (μ : Mem) (x1 : Int) (x2 : Int) (x4 : Int) (x5 : Int), b_X1_endsAtLeast_19 G19 G52 Post μ x1 x2 x4 x5 → V g X 9 μ [(0, Rv 7), (1, Iv x1), (2, Iv x2), (4, Iv x4), (5, Iv x5)] 19 [] := by
    intro μ x1 x2 x4 x5 hb
    unfold b_X1_endsAtLeast_19 at hb
    refine r_iload (pc := 19) 4 F dX1_endsAtLeast_19 rfl ?_
    refine r_aload_n (pc := 21) 0 F dX1_endsAtLeast_21 rfl rfl ?_
    refine gf_RX1_27 (pc := 22) F dX1_endsAtLeast_22 ?_
    refine gf_RX1_37 (pc := 25) F dX1_endsAtLeast_25 ?_
    refine r_icmp_ge (pc := 28) (tgt := 132) F dX1_endsAtLeast_28 (by decide) (fun c_2 => ?_) (fun c_2 => ?_)
    · have hb := hb.1 c_2
      refine r_iload (pc := 132) 3 F dX1_endsAtLeast_132 rfl ?_
      exact r_iret (pc := 134) F hR hr dX1_endsAtLeast_134 hb
    · have hb := hb.2 c_2
      refine r_aload_n (pc := 31) 0 F dX1_endsAtLeast_31 rfl rfl ?_
      refine gf_RX1_27 (pc := 32) F dX1_endsAtLeast_32 ?_
      refine gf_RX1_82 (pc := 35) F dX1_endsAtLeast_35 ?_
      refine r_iload_n (pc := 38) 1 F dX1_endsAtLeast_38 rfl rfl ?_
      have hg_3 := hb.1
      have hb := hb.2
      refine r_aald (pc := 39) (n := 8) (d := 48) F (c := 16) (by decide) (by decide) rfl hg_3 dX1_endsAtLeast_39 ?_
      refine r_iload (pc := 40) 4 F dX1_endsAtLeast_40 rfl ?_
      have hg_4 := hb.1
      have hb := hb.2
      refine r_iald (pc := 42) F (lr16 hg_3).1 (lr16 hg_3).2.1 (lr16 hg_3).2.2 hg_4 dX1_endsAtLeast_42 ?_
      refine V.nmI (fun x_5 ex_5 => ?_)
      have hb := hb x_5 ex_5
      refine r_istore (pc := 43) (lv' := [(6, Iv x_5), (0, Rv 7), (1, Iv x1), (2, Iv x2), (4, Iv x4), (5, Iv x5)]) F dX1_endsAtLeast_43 (by decide) rfl ?_
      refine r_ldc (pc := 45) F kc_RX1_50 (x := 1000000000) (by decide) (inR_lit rfl) dX1_endsAtLeast_45 ?_
      refine r_istore (pc := 47) (lv' := [(7, Iv 1000000000), (6, Iv x_5), (0, Rv 7), (1, Iv x1), (2, Iv x2), (4, Iv x4), (5, Iv x5)]) F dX1_endsAtLeast_47 (by decide) rfl ?_
      refine r_iconst (pc := 49) F dX1_endsAtLeast_49 (inR_lit rfl) ?_
      refine r_istore (pc := 50) (lv' := [(8, Iv 0), (7, Iv 1000000000), (6, Iv x_5), (0, Rv 7), (1, Iv x1), (2, Iv x2), (4, Iv x4), (5, Iv x5)]) F dX1_endsAtLeast_50 (by decide) rfl ?_
      exact V.sub [3, 4, 5, 6, 7, 2, 1, 0] rfl (g52 μ x1 x2 x4 x5 x_5 1000000000 0 hb)
  have K52 : ∀ (μ : Mem) (x1 : Int) (x2 : Int) (x4 : Int) (x5 : Int) (x6 : Int) (x7 : Int) (x8 : Int), b_X1_endsAtLeast_52 G19 G52 Post μ x1 x2 x4 x5 x6 x7 x8 → V g X 9 μ [(0, Rv 7), (1, Iv x1), (2, Iv x2), (4, Iv x4), (5, Iv x5), (6, Iv x6), (7, Iv x7), (8, Iv x8)] 52 [] := by
    intro μ x1 x2 x4 x5 x6 x7 x8 hb
    unfold b_X1_endsAtLeast_52 at hb
    refine r_iload (pc := 52) 7 F dX1_endsAtLeast_52 rfl ?_
    refine r_aload_n (pc := 54) 0 F dX1_endsAtLeast_54 rfl rfl ?_
    refine gf_RX1_23 (pc := 55) F dX1_endsAtLeast_55 ?_
    refine gf_RX1_31 (pc := 58) F dX1_endsAtLeast_58 ?_
    refine r_icmp_ge (pc := 61) (tgt := 114) F dX1_endsAtLeast_61 (by decide) (fun c_6 => ?_) (fun c_6 => ?_)
    · have hb := hb.1 c_6
      refine r_iload (pc := 114) 3 F dX1_endsAtLeast_114 rfl ?_
      refine r_iload (pc := 116) 5 F dX1_endsAtLeast_116 rfl ?_
      refine r_iload (pc := 118) 6 F dX1_endsAtLeast_118 rfl ?_
      refine r_iadd (pc := 120) F dX1_endsAtLeast_120 ?_
      refine r_max (pc := 121) F (by first | decide | omega) lk_RX1_93 km_max.1 km_max.2.1 km_max.2.2 (Nat.le_of_ble_eq_true rfl) dX1_endsAtLeast_121 ?_
      refine V.nmI (fun x_7 ex_7 => ?_)
      have hb := hb x_7 ex_7
      refine r_istore (pc := 124) (lv' := [(4, Iv x_7), (0, Rv 7), (1, Iv x1), (2, Iv x2), (5, Iv x5), (6, Iv x6), (7, Iv x7), (8, Iv x8)]) F dX1_endsAtLeast_124 (by decide) rfl ?_
      refine r_iincN (pc := 126) 4 (lf := fun x_8 => [(5, Iv x_8), (4, Iv x_7), (0, Rv 7), (1, Iv x1), (2, Iv x2), (6, Iv x6), (7, Iv x7), (8, Iv x8)]) F dX1_endsAtLeast_126 rfl (by decide) rfl (fun x_8 ex_8 => ?_)
      have hb := hb x_8 ex_8
      refine r_goto (pc := 129) (tgt := 19) F dX1_endsAtLeast_129 (by decide) ?_
      exact V.sub [2, 3, 4, 1, 0] rfl (g19 μ x1 x2 x_7 x_8 hb)
    · have hb := hb.2 c_6
      refine r_iload_n (pc := 64) 2 F dX1_endsAtLeast_64 rfl rfl ?_
      refine r_iload (pc := 65) 7 F dX1_endsAtLeast_65 rfl ?_
      refine r_callNI (pc := 67) (avs := [Iv x2, Iv x8]) (st := []) F (c_X10_isIn μ x2 x8 _ hb) (by decide) cal_X10_isIn st_X10_isIn lk_RX1_62 rfl rfl (Nat.le_of_ble_eq_true rfl) dX1_endsAtLeast_67 (fun r_9 μ_10 hb => ?_)
      refine r_if_ne (pc := 70) (tgt := 108) F dX1_endsAtLeast_70 (by decide) (fun c_11 => ?_) (fun c_11 => ?_)
      · have hb := hb.1 c_11
        exact V.sub [0, 1, 2, 3, 4, 5, 6, 7] rfl (K108 μ_10 x1 x2 x4 x5 x6 x7 x8 hb)
      · have hb := hb.2 c_11
        refine r_iload (pc := 73) 5 F dX1_endsAtLeast_73 rfl ?_
        refine r_aload_n (pc := 75) 0 F dX1_endsAtLeast_75 rfl rfl ?_
        refine gf_RX1_23 (pc := 76) F dX1_endsAtLeast_76 ?_
        refine gf_RX1_85 (pc := 79) F dX1_endsAtLeast_79 ?_
        refine r_iload (pc := 82) 7 F dX1_endsAtLeast_82 rfl ?_
        have hg_12 := hb.1
        have hb := hb.2
        refine r_aald (pc := 84) (n := 8) (d := 32) F (c := 14) (by decide) (by decide) rfl hg_12 dX1_endsAtLeast_84 ?_
        refine r_iload (pc := 85) 4 F dX1_endsAtLeast_85 rfl ?_
        have hg_13 := hb.1
        have hb := hb.2
        refine r_iald (pc := 87) F (lr14 hg_12).1 (lr14 hg_12).2.1 (lr14 hg_12).2.2 hg_13 dX1_endsAtLeast_87 ?_
        refine r_iadd (pc := 88) F dX1_endsAtLeast_88 ?_
        refine V.nmI (fun x_14 ex_14 => ?_)
        have hb := hb x_14 ex_14
        refine r_istore (pc := 89) (lv' := [(6, Iv x_14), (0, Rv 7), (1, Iv x1), (2, Iv x2), (4, Iv x4), (5, Iv x5), (7, Iv x7), (8, Iv x8)]) F dX1_endsAtLeast_89 (by decide) rfl ?_
        refine r_iload (pc := 91) 6 F dX1_endsAtLeast_91 rfl ?_
        refine r_aload_n (pc := 93) 1 F dX1_endsAtLeast_93 rfl rfl ?_
        refine gf_RX1_20 (pc := 94) F dX1_endsAtLeast_94 ?_
        refine r_iload (pc := 97) 7 F dX1_endsAtLeast_97 rfl ?_
        have hg_15 := hb.1
        have hb := hb.2
        refine r_aald (pc := 99) (n := 8) (d := 56) F (c := 17) (by decide) (by decide) rfl hg_15 dX1_endsAtLeast_99 ?_
        refine r_iload (pc := 100) 5 F dX1_endsAtLeast_100 rfl ?_
        have hg_16 := hb.1
        have hb := hb.2
        refine r_iald (pc := 102) F (lr17 hg_15).1 (lr17 hg_15).2.1 (lr17 hg_15).2.2 hg_16 dX1_endsAtLeast_102 ?_
        refine r_min (pc := 103) F (by first | decide | omega) lk_RX1_88 km_min.1 km_min.2.1 km_min.2.2 (Nat.le_of_ble_eq_true rfl) dX1_endsAtLeast_103 ?_
        refine V.nmI (fun x_17 ex_17 => ?_)
        have hb := hb x_17 ex_17
        refine r_istore (pc := 106) (lv' := [(7, Iv x_17), (6, Iv x_14), (0, Rv 7), (1, Iv x1), (2, Iv x2), (4, Iv x4), (5, Iv x5), (8, Iv x8)]) F dX1_endsAtLeast_106 (by decide) rfl ?_
        exact V.sub [2, 3, 4, 5, 6, 1, 0, 7] rfl (K108 μ_10 x1 x2 x4 x5 x_14 x_17 x8 hb)
  have hb := hb G19 G52 (fun μ x1 x2 x4 x5 hb => f19 μ x1 x2 x4 x5 (K19 μ x1 x2 x4 x5 hb)) (fun μ x1 x2 x4 x5 x6 x7 x8 hb => f52 μ x1 x2 x4 x5 x6 x7 x8 (K52 μ x1 x2 x4 x5 x6 x7 x8 hb))
  unfold b_X1_endsAtLeast_e at hb
  refine r_iload_n (pc := 0) 2 F dX1_endsAtLeast_0 rfl rfl ?_
  refine r_aload_n (pc := 1) 0 F dX1_endsAtLeast_1 rfl rfl ?_
  refine gf_RX1_23 (pc := 2) F dX1_endsAtLeast_2 ?_
  refine r_callI (pc := 5) (avs := []) (st := [Iv p1]) F (c_X9_all μ _ hb) (by decide) cal_X9_all calv_X9_all lk_RX1_79 rfl rfl (Nat.le_of_ble_eq_true rfl) dX1_endsAtLeast_5 (fun r_18 μ_19 hb => ?_)
  refine r_icmp_ne (pc := 8) (tgt := 13) F dX1_endsAtLeast_8 (by decide) (fun c_20 => ?_) (fun c_20 => ?_)
  · have hb := hb.1 c_20
    refine r_iload_n (pc := 13) 3 F dX1_endsAtLeast_13 rfl rfl ?_
    refine r_istore (pc := 14) (lv' := [(4, Iv p2), (0, Rv 7), (1, Iv p0), (2, Iv p1), (3, Iv p2)]) F dX1_endsAtLeast_14 (by decide) rfl ?_
    refine r_iconst (pc := 16) F dX1_endsAtLeast_16 (inR_lit rfl) ?_
    refine r_istore (pc := 17) (lv' := [(5, Iv 0), (4, Iv p2), (0, Rv 7), (1, Iv p0), (2, Iv p1), (3, Iv p2)]) F dX1_endsAtLeast_17 (by decide) rfl ?_
    exact V.sub [2, 3, 4, 1, 0] rfl (g19 μ_19 p0 p1 p2 0 hb)
  · have hb := hb.2 c_20
    refine r_iload_n (pc := 11) 3 F dX1_endsAtLeast_11 rfl rfl ?_
    exact r_iret (pc := 12) F hR hr dX1_endsAtLeast_12 hb
set_option maxHeartbeats 4000000 in
set_option maxRecDepth 100000 in
theorem c_X1_keepIfSooner {g : Wc} {l : Launch} (μ : Mem) (p0 : Int) (Post : Pst) (hb : wp_X1_keepIfSooner μ p0 Post) : MtC g l yX1_keepIfSooner cX1_keepIfSooner 2 none 1 [Rv 7, Iv p0] μ (QV g Post) := by
  intro hok
  refine enter (own := RX1) (by decide) rfl (Nat.le_of_ble_eq_true rfl) hok (fun X hl F hr hR => ?_)
  subst hl
  show V g X 2 μ [(0, Rv 7), (1, Iv p0)] 0 []
  unfold wp_X1_keepIfSooner at hb
  have hb := hb
  unfold b_X1_keepIfSooner_e at hb
  refine r_iload_n (pc := 0) 1 F dX1_keepIfSooner_0 rfl rfl ?_
  refine r_aload_n (pc := 1) 0 F dX1_keepIfSooner_1 rfl rfl ?_
  refine gf_RX1_51 (pc := 2) F dX1_keepIfSooner_2 ?_
  refine r_icmp_ge (pc := 5) (tgt := 33) F dX1_keepIfSooner_5 (by decide) (fun c_1 => ?_) (fun c_1 => ?_)
  · have hb := hb.1 c_1
    exact r_vret (pc := 33) F hR hr dX1_keepIfSooner_33 hb
  · have hb := hb.2 c_1
    refine r_aload_n (pc := 8) 0 F dX1_keepIfSooner_8 rfl rfl ?_
    refine r_iload_n (pc := 9) 1 F dX1_keepIfSooner_9 rfl rfl ?_
    refine pf_RX1_51 (pc := 10) F dX1_keepIfSooner_10 ?_
    refine V.nmM (fun μ_2 eμ_2 => ?_)
    have hb := hb μ_2 eμ_2
    refine r_aload_n (pc := 13) 0 F dX1_keepIfSooner_13 rfl rfl ?_
    refine gf_RX1_15 (pc := 14) F dX1_keepIfSooner_14 ?_
    refine r_iconst (pc := 17) F dX1_keepIfSooner_17 (inR_lit rfl) ?_
    refine r_aload_n (pc := 18) 0 F dX1_keepIfSooner_18 rfl rfl ?_
    refine gf_RX1_9 (pc := 19) F dX1_keepIfSooner_19 ?_
    refine r_iconst (pc := 22) F dX1_keepIfSooner_22 (inR_lit rfl) ?_
    refine r_aload_n (pc := 23) 0 F dX1_keepIfSooner_23 rfl rfl ?_
    refine gf_RX1_23 (pc := 24) F dX1_keepIfSooner_24 ?_
    refine gf_RX1_31 (pc := 27) F dX1_keepIfSooner_27 ?_
    refine r_copy (pc := 30) F (by first | decide | omega) lk_RX1_73 km_arraycopy.1 km_arraycopy.2.1 km_arraycopy.2.2 lc84.1 lc84.2.1 lc83.1 lc83.2.1 lc84.2.2 lc83.2.2 hb.1 (Nat.le_of_ble_eq_true rfl) dX1_keepIfSooner_30 ?_
    have hb := hb.2
    refine V.nmM (fun μ_3 eμ_3 => ?_)
    have hb := hb μ_3 eμ_3
    exact r_vret (pc := 33) F hR hr dX1_keepIfSooner_33 hb
set_option maxHeartbeats 4000000 in
set_option maxRecDepth 100000 in
theorem c_X4_roomAhead {g : Wc} {l : Launch} (μ : Mem) (p0 : Int) (p1 : Int) (Post : Pst) (hb : wp_X4_roomAhead μ p0 p1 Post) : MtC g l yX4_roomAhead cX4_roomAhead 4 (some .int) 0 [Rv 6, Iv p0, Iv p1] μ (QI g Post) := by
  intro hok
  refine enter (own := RX4) (by decide) rfl (Nat.le_of_ble_eq_true rfl) hok (fun X hl F hr hR => ?_)
  subst hl
  show V g X 4 μ [(0, Rv 6), (1, Iv p0), (2, Iv p1)] 0 []
  unfold wp_X4_roomAhead at hb
  have hb := hb
  unfold b_X4_roomAhead_e at hb
  refine r_iload_n (pc := 0) 1 F dX4_roomAhead_0 rfl rfl ?_
  refine r_aload_n (pc := 1) 0 F dX4_roomAhead_1 rfl rfl ?_
  refine gf_RX4_15 (pc := 2) F dX4_roomAhead_2 ?_
  refine r_iload_n (pc := 5) 2 F dX4_roomAhead_5 rfl rfl ?_
  have hg_1 := hb.1
  have hb := hb.2
  refine r_iald (pc := 6) F lc82.1 lc82.2.1 lc82.2.2 hg_1 dX4_roomAhead_6 ?_
  refine r_isub (pc := 7) F dX4_roomAhead_7 ?_
  refine V.nmI (fun x_2 ex_2 => ?_)
  have hb := hb x_2 ex_2
  refine r_istore_n (pc := 8) (lv' := [(3, Iv x_2), (0, Rv 6), (1, Iv p0), (2, Iv p1)]) F dX4_roomAhead_8 rfl (by decide) rfl ?_
  refine r_iload_n (pc := 9) 0 F dX4_roomAhead_9 rfl rfl ?_
  refine r_if_ge (pc := 10) (tgt := 17) F dX4_roomAhead_10 (by decide) (fun c_3 => ?_) (fun c_3 => ?_)
  · have hb := hb.1 c_3
    refine r_aload_n (pc := 17) 1 F dX4_roomAhead_17 rfl rfl ?_
    refine gf_RX4_21 (pc := 18) F dX4_roomAhead_18 ?_
    refine r_iload_n (pc := 21) 0 F dX4_roomAhead_21 rfl rfl ?_
    have hg_4 := hb.1
    have hb := hb.2
    refine r_aald (pc := 22) (n := 8) (d := 40) F (c := 15) (by decide) (by decide) rfl hg_4 dX4_roomAhead_22 ?_
    refine r_iload_n (pc := 23) 3 F dX4_roomAhead_23 rfl rfl ?_
    have hg_5 := hb.1
    have hb := hb.2
    refine r_iald (pc := 24) F (lr15 hg_4).1 (lr15 hg_4).2.1 (lr15 hg_4).2.2 hg_5 dX4_roomAhead_24 ?_
    exact r_iret (pc := 25) F hR hr dX4_roomAhead_25 hb
  · have hb := hb.2 c_3
    refine r_iconst (pc := 13) F dX4_roomAhead_13 (inR_lit rfl) ?_
    refine r_goto (pc := 14) (tgt := 25) F dX4_roomAhead_14 (by decide) ?_
    exact r_iret (pc := 25) F hR hr dX4_roomAhead_25 hb
set_option maxHeartbeats 4000000 in
set_option maxRecDepth 100000 in
theorem c_X4_send {g : Wc} {l : Launch} (μ : Mem) (p0 : Int) (p1 : Int) (Post : Pst) (hb : wp_X4_send μ p0 p1 Post) : MtC g l yX4_send cX4_send 6 (some .int) 1 [Rv 6, Iv p0, Iv p1] μ (QI g Post) := by
  intro hok
  refine enter (own := RX4) (by decide) rfl (Nat.le_of_ble_eq_true rfl) hok (fun X hl F hr hR => ?_)
  subst hl
  show V g X 6 μ [(0, Rv 6), (1, Iv p0), (2, Iv p1)] 0 []
  unfold wp_X4_send at hb
  obtain ⟨G5, g5, f5⟩ : ∃ G : Mem → Int → Int → Int → Int → Prop, (∀ μ x1 x2 x3 x4, G μ x1 x2 x3 x4 → V g X 6 μ [(0, Rv 6), (1, Iv x1), (2, Iv x2), (3, Iv x3), (4, Iv x4)] 5 []) ∧ (∀ μ x1 x2 x3 x4, V g X 6 μ [(0, Rv 6), (1, Iv x1), (2, Iv x2), (3, Iv x3), (4, Iv x4)] 5 [] → G μ x1 x2 x3 x4) := ⟨fun μ x1 x2 x3 x4 => V g X 6 μ [(0, Rv 6), (1, Iv x1), (2, Iv x2), (3, Iv x3), (4, Iv x4)] 5 [], fun _ _ _ _ _ h => h, fun _ _ _ _ _ h => h⟩
  have K77 : ∀ (μ : Mem) (x1 : Int) (x2 : Int) (x4 : Int), b_X4_send_77 G5 Post μ x1 x2 x4 → V g X 6 μ [(0, Rv 6), (1, Iv x1), (2, Iv x2), (4, Iv x4)] 77 [] := by
    intro μ x1 x2 x4 hb
    unfold b_X4_send_77 at hb
    refine r_aload_n (pc := 77) 0 F dX4_send_77 rfl rfl ?_
    refine gf_RX4_21 (pc := 78) F dX4_send_78 ?_
    refine r_iload_n (pc := 81) 1 F dX4_send_81 rfl rfl ?_
    have hg_1 := hb.1
    have hb := hb.2
    refine r_aald (pc := 82) (n := 8) (d := 40) F (c := 15) (by decide) (by decide) rfl hg_1 dX4_send_82 ?_
    refine r_iload (pc := 83) 3 F dX4_send_83 rfl ?_
    have hg_2 := hb.1
    have hb := hb.2
    refine r_iald (pc := 85) F (lr15 hg_1).1 (lr15 hg_1).2.1 (lr15 hg_1).2.2 hg_2 dX4_send_85 ?_
    refine r_aload_n (pc := 86) 0 F dX4_send_86 rfl rfl ?_
    refine gf_RX4_27 (pc := 87) F dX4_send_87 ?_
    refine gf_RX4_46 (pc := 90) F dX4_send_90 ?_
    refine r_iload_n (pc := 93) 2 F dX4_send_93 rfl rfl ?_
    have hg_3 := hb.1
    have hb := hb.2
    refine r_aald (pc := 94) (n := 8) (d := 32) F (c := 14) (by decide) (by decide) rfl hg_3 dX4_send_94 ?_
    refine r_iload (pc := 95) 3 F dX4_send_95 rfl ?_
    have hg_4 := hb.1
    have hb := hb.2
    refine r_iald (pc := 97) F (lr14 hg_3).1 (lr14 hg_3).2.1 (lr14 hg_3).2.2 hg_4 dX4_send_97 ?_
    refine r_iadd (pc := 98) F dX4_send_98 ?_
    refine V.nmI (fun x_5 ex_5 => ?_)
    have hb := hb x_5 ex_5
    refine r_istore_n (pc := 99) (lv' := [(3, Iv x_5), (0, Rv 6), (1, Iv x1), (2, Iv x2), (4, Iv x4)]) F dX4_send_99 rfl (by decide) rfl ?_
    refine r_iincN (pc := 100) 4 (lf := fun x_6 => [(4, Iv x_6), (3, Iv x_5), (0, Rv 6), (1, Iv x1), (2, Iv x2)]) F dX4_send_100 rfl (by decide) rfl (fun x_6 ex_6 => ?_)
    have hb := hb x_6 ex_6
    refine r_goto (pc := 103) (tgt := 5) F dX4_send_103 (by decide) ?_
    exact V.sub [2, 3, 4, 1, 0] rfl (g5 μ x1 x2 x_5 x_6 hb)
  have K33 : ∀ (μ : Mem) (x1 : Int) (x2 : Int) (x3 : Int) (x4 : Int) (s0 : Int), b_X4_send_33 G5 Post μ x1 x2 x3 x4 s0 → V g X 6 μ [(0, Rv 6), (1, Iv x1), (2, Iv x2), (3, Iv x3), (4, Iv x4)] 33 [Iv s0] := by
    intro μ x1 x2 x3 x4 s0 hb
    unfold b_X4_send_33 at hb
    refine r_istore (pc := 33) (lv' := [(5, Iv s0), (0, Rv 6), (1, Iv x1), (2, Iv x2), (3, Iv x3), (4, Iv x4)]) F dX4_send_33 (by decide) rfl ?_
    refine r_aload_n (pc := 35) 1 F dX4_send_35 rfl rfl ?_
    refine gf_RX4_21 (pc := 36) F dX4_send_36 ?_
    refine r_iload_n (pc := 39) 2 F dX4_send_39 rfl rfl ?_
    have hg_7 := hb.1
    have hb := hb.2
    refine r_aald (pc := 40) (n := 8) (d := 40) F (c := 15) (by decide) (by decide) rfl hg_7 dX4_send_40 ?_
    refine r_iload (pc := 41) 5 F dX4_send_41 rfl ?_
    refine r_iload_n (pc := 43) 4 F dX4_send_43 rfl rfl ?_
    refine r_iload (pc := 44) 0 F dX4_send_44 rfl ?_
    refine r_max (pc := 46) F (by first | decide | omega) lk_RX4_38 km_max.1 km_max.2.1 km_max.2.2 (Nat.le_of_ble_eq_true rfl) dX4_send_46 ?_
    have hg_8 := hb.1
    have hb := hb.2
    refine r_iast (pc := 49) F (lr15 hg_7).1 (lr15 hg_7).2.1 (lr15 hg_7).2.2 hg_8 dX4_send_49 ?_
    refine V.nmM (fun μ_9 eμ_9 => ?_)
    have hb := hb μ_9 eμ_9
    refine r_iload (pc := 50) 5 F dX4_send_50 rfl ?_
    refine r_if_le (pc := 52) (tgt := 77) F dX4_send_52 (by decide) (fun c_10 => ?_) (fun c_10 => ?_)
    · have hb := hb.1 c_10
      exact V.sub [1, 2, 3, 5] rfl (K77 μ_9 x1 x2 x4 hb)
    · have hb := hb.2 c_10
      refine r_aload_n (pc := 55) 1 F dX4_send_55 rfl rfl ?_
      refine gf_RX4_24 (pc := 56) F dX4_send_56 ?_
      refine r_iload_n (pc := 59) 2 F dX4_send_59 rfl rfl ?_
      have hg_11 := hb.1
      have hb := hb.2
      refine r_aald (pc := 60) (n := 8) (d := 48) F (c := 16) (by decide) (by decide) rfl hg_11 dX4_send_60 ?_
      refine r_iload (pc := 61) 5 F dX4_send_61 rfl ?_
      refine r_iconst (pc := 63) F dX4_send_63 (inR_lit rfl) ?_
      refine r_isub (pc := 64) F dX4_send_64 ?_
      refine r_iload_n (pc := 65) 4 F dX4_send_65 rfl rfl ?_
      refine r_aload_n (pc := 66) 1 F dX4_send_66 rfl rfl ?_
      refine r_iload_n (pc := 67) 2 F dX4_send_67 rfl rfl ?_
      refine r_iload (pc := 68) 5 F dX4_send_68 rfl ?_
      refine r_callI (pc := 70) (avs := [Iv x1, Iv x4]) (st := [Iv x3, Iv (wrap (x4 - 1)), Rv (48 + x1.toNat)]) F (c_X4_roomAhead μ_9 x1 x4 _ hb) (by decide) cal_X4_roomAhead calv_X4_roomAhead lk_RX4_43 rfl rfl (Nat.le_of_ble_eq_true rfl) dX4_send_70 (fun r_12 μ_13 hb => ?_)
      refine r_max (pc := 73) F (by first | decide | omega) lk_RX4_38 km_max.1 km_max.2.1 km_max.2.2 (Nat.le_of_ble_eq_true rfl) dX4_send_73 ?_
      have hg_14 := hb.1
      have hb := hb.2
      refine r_iast (pc := 76) F (lr16 hg_11).1 (lr16 hg_11).2.1 (lr16 hg_11).2.2 hg_14 dX4_send_76 ?_
      refine V.nmM (fun μ_15 eμ_15 => ?_)
      have hb := hb μ_15 eμ_15
      exact V.sub [1, 2, 3, 5] rfl (K77 μ_15 x1 x2 x4 hb)
  have K5 : ∀ (μ : Mem) (x1 : Int) (x2 : Int) (x3 : Int) (x4 : Int), b_X4_send_5 G5 Post μ x1 x2 x3 x4 → V g X 6 μ [(0, Rv 6), (1, Iv x1), (2, Iv x2), (3, Iv x3), (4, Iv x4)] 5 [] := by
    intro μ x1 x2 x3 x4 hb
    unfold b_X4_send_5 at hb
    refine r_iload (pc := 5) 4 F dX4_send_5 rfl ?_
    refine r_aload_n (pc := 7) 0 F dX4_send_7 rfl rfl ?_
    refine gf_RX4_9 (pc := 8) F dX4_send_8 ?_
    refine r_icmp_ge (pc := 11) (tgt := 106) F dX4_send_11 (by decide) (fun c_16 => ?_) (fun c_16 => ?_)
    · have hb := hb.1 c_16
      refine r_aload_n (pc := 106) 0 F dX4_send_106 rfl rfl ?_
      refine gf_RX4_24 (pc := 107) F dX4_send_107 ?_
      refine r_iload_n (pc := 110) 1 F dX4_send_110 rfl rfl ?_
      have hg_17 := hb.1
      have hb := hb.2
      refine r_aald (pc := 111) (n := 8) (d := 48) F (c := 16) (by decide) (by decide) rfl hg_17 dX4_send_111 ?_
      refine r_aload_n (pc := 112) 0 F dX4_send_112 rfl rfl ?_
      refine gf_RX4_9 (pc := 113) F dX4_send_113 ?_
      refine r_iconst (pc := 116) F dX4_send_116 (inR_lit rfl) ?_
      refine r_isub (pc := 117) F dX4_send_117 ?_
      refine r_iload_n (pc := 118) 3 F dX4_send_118 rfl rfl ?_
      have hg_18 := hb.1
      have hb := hb.2
      refine r_iast (pc := 119) F (lr16 hg_17).1 (lr16 hg_17).2.1 (lr16 hg_17).2.2 hg_18 dX4_send_119 ?_
      refine V.nmM (fun μ_19 eμ_19 => ?_)
      have hb := hb μ_19 eμ_19
      refine r_iload_n (pc := 120) 3 F dX4_send_120 rfl rfl ?_
      exact r_iret (pc := 121) F hR hr dX4_send_121 hb
    · have hb := hb.2 c_16
      refine r_iload_n (pc := 14) 1 F dX4_send_14 rfl rfl ?_
      refine r_if_ne (pc := 15) (tgt := 22) F dX4_send_15 (by decide) (fun c_20 => ?_) (fun c_20 => ?_)
      · have hb := hb.1 c_20
        refine r_aload_n (pc := 22) 0 F dX4_send_22 rfl rfl ?_
        refine gf_RX4_24 (pc := 23) F dX4_send_23 ?_
        refine r_iload_n (pc := 26) 1 F dX4_send_26 rfl rfl ?_
        refine r_iconst (pc := 27) F dX4_send_27 (inR_lit rfl) ?_
        refine r_isub (pc := 28) F dX4_send_28 ?_
        have hg_21 := hb.1
        have hb := hb.2
        refine r_aald (pc := 29) (n := 8) (d := 48) F (c := 16) (by decide) (by decide) rfl hg_21 dX4_send_29 ?_
        refine r_iload (pc := 30) 4 F dX4_send_30 rfl ?_
        have hg_22 := hb.1
        have hb := hb.2
        refine r_iald (pc := 32) F (lr16 hg_21).1 (lr16 hg_21).2.1 (lr16 hg_21).2.2 hg_22 dX4_send_32 ?_
        exact V.sub [0, 1, 2, 3, 4] rfl (K33 μ x1 x2 x3 x4 (μ (48 + (wrap (x1 - 1)).toNat) x4.toNat) hb)
      · have hb := hb.2 c_20
        refine r_iconst (pc := 18) F dX4_send_18 (inR_lit rfl) ?_
        refine r_goto (pc := 19) (tgt := 33) F dX4_send_19 (by decide) ?_
        exact V.sub [0, 1, 2, 3, 4] rfl (K33 μ x1 x2 x3 x4 0 hb)
  have hb := hb G5 (fun μ x1 x2 x3 x4 hb => f5 μ x1 x2 x3 x4 (K5 μ x1 x2 x3 x4 hb))
  unfold b_X4_send_e at hb
  refine r_iconst (pc := 0) F dX4_send_0 (inR_lit rfl) ?_
  refine r_istore_n (pc := 1) (lv' := [(3, Iv 0), (0, Rv 6), (1, Iv p0), (2, Iv p1)]) F dX4_send_1 rfl (by decide) rfl ?_
  refine r_iconst (pc := 2) F dX4_send_2 (inR_lit rfl) ?_
  refine r_istore (pc := 3) (lv' := [(4, Iv 0), (3, Iv 0), (0, Rv 6), (1, Iv p0), (2, Iv p1)]) F dX4_send_3 (by decide) rfl ?_
  exact V.sub [2, 3, 4, 1, 0] rfl (g5 μ p0 p1 0 0 hb)
set_option maxHeartbeats 4000000 in
set_option maxRecDepth 100000 in
theorem c_X1_extend {g : Wc} {l : Launch} : ∀ (d : Nat) (μ : Mem) (p0 : Int) (p1 : Int) (p2 : Int) (Post : Pst), wp_X1_extend d μ p0 p1 p2 Post → MtC g l yX1_extend cX1_extend 7 none (2 + d) [Rv 7, Iv p0, Iv p1, Iv p2] μ (QV g Post) := by
  intro d; induction d with
  | zero => intro μ p0 p1 p2 Post hb; exact hb.elim
  | succ d ih =>
  intro μ p0 p1 p2 Post hb hok
  refine enter (own := RX1) (by decide) rfl (Nat.le_of_ble_eq_true rfl) hok (fun X hl F hr hR => ?_)
  subst hl
  show V g X 7 μ [(0, Rv 7), (1, Iv p0), (2, Iv p1), (3, Iv p2)] 0 []
  obtain ⟨rc, hrc⟩ : ∃ z, z = wp_X1_extend d := ⟨_, rfl⟩
  unfold wp_X1_extend at hb
  rw [← hrc] at ih hb
  obtain ⟨G20, g20, f20⟩ : ∃ G : Mem → Int → Int → Int → Prop, (∀ μ x1 x2 x4, G μ x1 x2 x4 → V g X 7 μ [(0, Rv 7), (1, Iv x1), (2, Iv x2), (4, Iv x4)] 20 []) ∧ (∀ μ x1 x2 x4, V g X 7 μ [(0, Rv 7), (1, Iv x1), (2, Iv x2), (4, Iv x4)] 20 [] → G μ x1 x2 x4) := ⟨fun μ x1 x2 x4 => V g X 7 μ [(0, Rv 7), (1, Iv x1), (2, Iv x2), (4, Iv x4)] 20 [], fun _ _ _ _ h => h, fun _ _ _ _ h => h⟩
  have K110 : ∀ (μ : Mem) (x1 : Int) (x2 : Int) (x4 : Int), b_X1_extend_110 rc G20 Post μ x1 x2 x4 → V g X 7 μ [(0, Rv 7), (1, Iv x1), (2, Iv x2), (4, Iv x4)] 110 [] := by
    intro μ x1 x2 x4 hb
    unfold b_X1_extend_110 at hb
    refine r_iincN (pc := 110) 3 (lf := fun x_1 => [(4, Iv x_1), (0, Rv 7), (1, Iv x1), (2, Iv x2)]) F dX1_extend_110 rfl (by decide) rfl (fun x_1 ex_1 => ?_)
    have hb := hb x_1 ex_1
    refine r_goto (pc := 113) (tgt := 20) F dX1_extend_113 (by decide) ?_
    exact V.sub [1, 2, 3, 0] rfl (g20 μ x1 x2 x_1 hb)
  have K20 : ∀ (μ : Mem) (x1 : Int) (x2 : Int) (x4 : Int), b_X1_extend_20 rc G20 Post μ x1 x2 x4 → V g X 7 μ [(0, Rv 7), (1, Iv x1), (2, Iv x2), (4, Iv x4)] 20 [] := by
    intro μ x1 x2 x4 hb
    unfold b_X1_extend_20 at hb
    refine r_iload (pc := 20) 3 F dX1_extend_20 rfl ?_
    refine r_aload_n (pc := 22) 0 F dX1_extend_22 rfl rfl ?_
    refine gf_RX1_23 (pc := 23) F dX1_extend_23 ?_
    refine gf_RX1_31 (pc := 26) F dX1_extend_26 ?_
    refine r_icmp_ge (pc := 29) (tgt := 116) F dX1_extend_29 (by decide) (fun c_2 => ?_) (fun c_2 => ?_)
    · have hb := hb.1 c_2
      exact r_vret (pc := 116) F hR hr dX1_extend_116 hb
    · have hb := hb.2 c_2
      refine r_aload_n (pc := 32) 0 F dX1_extend_32 rfl rfl ?_
      refine gf_RX1_51 (pc := 33) F dX1_extend_33 ?_
      refine r_aload_n (pc := 36) 0 F dX1_extend_36 rfl rfl ?_
      refine gf_RX1_48 (pc := 37) F dX1_extend_37 ?_
      refine r_icmp_le (pc := 40) (tgt := 116) F dX1_extend_40 (by decide) (fun c_3 => ?_) (fun c_3 => ?_)
      · have hb := hb.1 c_3
        exact r_vret (pc := 116) F hR hr dX1_extend_116 hb
      · have hb := hb.2 c_3
        refine r_iload_n (pc := 43) 2 F dX1_extend_43 rfl rfl ?_
        refine r_iload (pc := 44) 3 F dX1_extend_44 rfl ?_
        refine r_callNI (pc := 46) (avs := [Iv x2, Iv x4]) (st := []) F (c_X10_isIn μ x2 x4 _ hb) (by omega) cal_X10_isIn st_X10_isIn lk_RX1_62 rfl rfl (Nat.le_of_ble_eq_true rfl) dX1_extend_46 (fun r_4 μ_5 hb => ?_)
        refine r_if_eq (pc := 49) (tgt := 55) F dX1_extend_49 (by decide) (fun c_6 => ?_) (fun c_6 => ?_)
        · have hb := hb.1 c_6
          refine r_iload_n (pc := 55) 2 F dX1_extend_55 rfl rfl ?_
          refine r_iconst (pc := 56) F dX1_extend_56 (inR_lit rfl) ?_
          refine r_iload (pc := 57) 3 F dX1_extend_57 rfl ?_
          refine r_ishl (pc := 59) F dX1_extend_59 ?_
          refine r_ior (pc := 60) F dX1_extend_60 ?_
          refine V.nmI (fun x_7 ex_7 => ?_)
          have hb := hb x_7 ex_7
          refine r_istore (pc := 61) (lv' := [(5, Iv x_7), (0, Rv 7), (1, Iv x1), (2, Iv x2), (4, Iv x4)]) F dX1_extend_61 (by decide) rfl ?_
          refine r_aload_n (pc := 63) 1 F dX1_extend_63 rfl rfl ?_
          refine gf_RX1_27 (pc := 64) F dX1_extend_64 ?_
          refine r_iload_n (pc := 67) 2 F dX1_extend_67 rfl rfl ?_
          refine r_iload (pc := 68) 4 F dX1_extend_68 rfl ?_
          refine r_callI (pc := 70) (avs := [Iv x1, Iv x4]) (st := []) F (c_X4_send μ_5 x1 x4 _ hb) (by omega) cal_X4_send calv_X4_send lk_RX1_66 rfl rfl (Nat.le_of_ble_eq_true rfl) dX1_extend_70 (fun r_8 μ_9 hb => ?_)
          refine r_istore (pc := 73) (lv' := [(6, Iv r_8), (5, Iv x_7), (0, Rv 7), (1, Iv x1), (2, Iv x2), (4, Iv x4)]) F dX1_extend_73 (by decide) rfl ?_
          refine r_aload_n (pc := 75) 2 F dX1_extend_75 rfl rfl ?_
          refine r_iload_n (pc := 76) 3 F dX1_extend_76 rfl rfl ?_
          refine r_iload (pc := 77) 1 F dX1_extend_77 rfl ?_
          refine r_iload (pc := 79) 0 F dX1_extend_79 rfl ?_
          refine r_callI (pc := 81) (avs := [Iv x1, Iv x_7, Iv r_8]) (st := []) F (c_X1_endsAtLeast μ_9 x1 x_7 r_8 _ hb) (by omega) cal_X1_endsAtLeast calv_X1_endsAtLeast lk_RX1_70 rfl rfl (Nat.le_of_ble_eq_true rfl) dX1_extend_81 (fun r_10 μ_11 hb => ?_)
          refine r_aload_n (pc := 84) 2 F dX1_extend_84 rfl rfl ?_
          refine gf_RX1_51 (pc := 85) F dX1_extend_85 ?_
          refine r_icmp_ge (pc := 88) (tgt := 110) F dX1_extend_88 (by decide) (fun c_12 => ?_) (fun c_12 => ?_)
          · have hb := hb.1 c_12
            exact V.sub [2, 3, 4, 5] rfl (K110 μ_11 x1 x2 x4 hb)
          · have hb := hb.2 c_12
            refine r_aload_n (pc := 91) 2 F dX1_extend_91 rfl rfl ?_
            refine gf_RX1_15 (pc := 92) F dX1_extend_92 ?_
            refine r_iload_n (pc := 95) 3 F dX1_extend_95 rfl rfl ?_
            refine r_iload (pc := 96) 5 F dX1_extend_96 rfl ?_
            have hg_13 := hb.1
            have hb := hb.2
            refine r_iast (pc := 98) F lc84.1 lc84.2.1 lc84.2.2 hg_13 dX1_extend_98 ?_
            refine V.nmM (fun μ_14 eμ_14 => ?_)
            have hb := hb μ_14 eμ_14
            refine r_aload_n (pc := 99) 2 F dX1_extend_99 rfl rfl ?_
            refine r_iload_n (pc := 100) 3 F dX1_extend_100 rfl rfl ?_
            refine r_iconst (pc := 101) F dX1_extend_101 (inR_lit rfl) ?_
            refine r_iadd (pc := 102) F dX1_extend_102 ?_
            refine r_iload (pc := 103) 1 F dX1_extend_103 rfl ?_
            refine r_iload (pc := 105) 0 F dX1_extend_105 rfl ?_
            refine r_callV (pc := 107) (avs := [Iv (wrap (x1 + 1)), Iv x_7, Iv r_8]) (st := []) F (ih μ_14 (wrap (x1 + 1)) x_7 r_8 _ hb) (by omega) cal_X1_extend calv_X1_extend lk_RX1_54 rfl rfl (Nat.le_of_ble_eq_true rfl) dX1_extend_107 (fun μ_16 hb => ?_)
            exact V.sub [2, 3, 4, 5] rfl (K110 μ_16 x1 x2 x4 hb)
        · have hb := hb.2 c_6
          refine r_goto (pc := 52) (tgt := 110) F dX1_extend_52 (by decide) ?_
          exact V.sub [0, 1, 2, 3] rfl (K110 μ_5 x1 x2 x4 hb)
  have hb := hb G20 (fun μ x1 x2 x4 hb => f20 μ x1 x2 x4 (K20 μ x1 x2 x4 hb))
  unfold b_X1_extend_e at hb
  refine r_iload_n (pc := 0) 1 F dX1_extend_0 rfl rfl ?_
  refine r_aload_n (pc := 1) 0 F dX1_extend_1 rfl rfl ?_
  refine gf_RX1_23 (pc := 2) F dX1_extend_2 ?_
  refine gf_RX1_31 (pc := 5) F dX1_extend_5 ?_
  refine r_icmp_lt (pc := 8) (tgt := 17) F dX1_extend_8 (by decide) (fun c_17 => ?_) (fun c_17 => ?_)
  · have hb := hb.1 c_17
    refine r_iconst (pc := 17) F dX1_extend_17 (inR_lit rfl) ?_
    refine r_istore (pc := 18) (lv' := [(4, Iv 0), (0, Rv 7), (1, Iv p0), (2, Iv p1), (3, Iv p2)]) F dX1_extend_18 (by decide) rfl ?_
    exact V.sub [1, 2, 3, 0] rfl (g20 μ p0 p1 0 hb)
  · have hb := hb.2 c_17
    refine r_aload_n (pc := 11) 0 F dX1_extend_11 rfl rfl ?_
    refine r_iload_n (pc := 12) 3 F dX1_extend_12 rfl rfl ?_
    refine r_callV (pc := 13) (avs := [Iv p2]) (st := []) F (c_X1_keepIfSooner μ p2 _ hb) (by omega) cal_X1_keepIfSooner calv_X1_keepIfSooner lk_RX1_58 rfl rfl (Nat.le_of_ble_eq_true rfl) dX1_extend_13 (fun μ_19 hb => ?_)
    exact r_vret (pc := 16) F hR hr dX1_extend_16 hb
set_option maxHeartbeats 4000000 in
set_option maxRecDepth 100000 in
theorem c_X4_timeBetween {g : Wc} {l : Launch} (μ : Mem) (p0 : Int) (p1 : Int) (p2 : Int) (Post : Pst) (hb : wp_X4_timeBetween μ p0 p1 p2 Post) : MtC g l yX4_timeBetween cX4_timeBetween 6 (some .int) 0 [Rv 6, Iv p0, Iv p1, Iv p2] μ (QI g Post) := by
  intro hok
  refine enter (own := RX4) (by decide) rfl (Nat.le_of_ble_eq_true rfl) hok (fun X hl F hr hR => ?_)
  subst hl
  show V g X 6 μ [(0, Rv 6), (1, Iv p0), (2, Iv p1), (3, Iv p2)] 0 []
  unfold wp_X4_timeBetween at hb
  obtain ⟨G6, g6, f6⟩ : ∃ G : Mem → Int → Int → Int → Int → Prop, (∀ μ x1 x3 x4 x5, G μ x1 x3 x4 x5 → V g X 6 μ [(0, Rv 6), (1, Iv x1), (3, Iv x3), (4, Iv x4), (5, Iv x5)] 6 []) ∧ (∀ μ x1 x3 x4 x5, V g X 6 μ [(0, Rv 6), (1, Iv x1), (3, Iv x3), (4, Iv x4), (5, Iv x5)] 6 [] → G μ x1 x3 x4 x5) := ⟨fun μ x1 x3 x4 x5 => V g X 6 μ [(0, Rv 6), (1, Iv x1), (3, Iv x3), (4, Iv x4), (5, Iv x5)] 6 [], fun _ _ _ _ _ h => h, fun _ _ _ _ _ h => h⟩
  have K6 : ∀ (μ : Mem) (x1 : Int) (x3 : Int) (x4 : Int) (x5 : Int), b_X4_timeBetween_6 G6 Post μ x1 x3 x4 x5 → V g X 6 μ [(0, Rv 6), (1, Iv x1), (3, Iv x3), (4, Iv x4), (5, Iv x5)] 6 [] := by
    intro μ x1 x3 x4 x5 hb
    unfold b_X4_timeBetween_6 at hb
    refine r_iload (pc := 6) 4 F dX4_timeBetween_6 rfl ?_
    refine r_iload_n (pc := 8) 2 F dX4_timeBetween_8 rfl rfl ?_
    refine r_icmp_ge (pc := 9) (tgt := 35) F dX4_timeBetween_9 (by decide) (fun c_1 => ?_) (fun c_1 => ?_)
    · have hb := hb.1 c_1
      refine r_iload (pc := 35) 3 F dX4_timeBetween_35 rfl ?_
      exact r_iret (pc := 37) F hR hr dX4_timeBetween_37 hb
    · have hb := hb.2 c_1
      refine r_iload (pc := 12) 3 F dX4_timeBetween_12 rfl ?_
      refine r_aload_n (pc := 14) 0 F dX4_timeBetween_14 rfl rfl ?_
      refine gf_RX4_27 (pc := 15) F dX4_timeBetween_15 ?_
      refine gf_RX4_46 (pc := 18) F dX4_timeBetween_18 ?_
      refine r_iload_n (pc := 21) 1 F dX4_timeBetween_21 rfl rfl ?_
      have hg_2 := hb.1
      have hb := hb.2
      refine r_aald (pc := 22) (n := 8) (d := 32) F (c := 14) (by decide) (by decide) rfl hg_2 dX4_timeBetween_22 ?_
      refine r_iload (pc := 23) 4 F dX4_timeBetween_23 rfl ?_
      have hg_3 := hb.1
      have hb := hb.2
      refine r_iald (pc := 25) F (lr14 hg_2).1 (lr14 hg_2).2.1 (lr14 hg_2).2.2 hg_3 dX4_timeBetween_25 ?_
      refine r_iadd (pc := 26) F dX4_timeBetween_26 ?_
      refine V.nmI (fun x_4 ex_4 => ?_)
      have hb := hb x_4 ex_4
      refine r_istore (pc := 27) (lv' := [(4, Iv x_4), (0, Rv 6), (1, Iv x1), (3, Iv x3), (5, Iv x5)]) F dX4_timeBetween_27 (by decide) rfl ?_
      refine r_iincN (pc := 29) 4 (lf := fun x_5 => [(5, Iv x_5), (4, Iv x_4), (0, Rv 6), (1, Iv x1), (3, Iv x3)]) F dX4_timeBetween_29 rfl (by decide) rfl (fun x_5 ex_5 => ?_)
      have hb := hb x_5 ex_5
      refine r_goto (pc := 32) (tgt := 6) F dX4_timeBetween_32 (by decide) ?_
      exact V.sub [2, 3, 4, 1, 0] rfl (g6 μ x1 x3 x_4 x_5 hb)
  have hb := hb G6 (fun μ x1 x3 x4 x5 hb => f6 μ x1 x3 x4 x5 (K6 μ x1 x3 x4 x5 hb))
  unfold b_X4_timeBetween_e at hb
  refine r_iconst (pc := 0) F dX4_timeBetween_0 (inR_lit rfl) ?_
  refine r_istore (pc := 1) (lv' := [(4, Iv 0), (0, Rv 6), (1, Iv p0), (2, Iv p1), (3, Iv p2)]) F dX4_timeBetween_1 (by decide) rfl ?_
  refine r_iload_n (pc := 3) 3 F dX4_timeBetween_3 rfl rfl ?_
  refine r_istore (pc := 4) (lv' := [(5, Iv p1), (4, Iv 0), (0, Rv 6), (1, Iv p0), (2, Iv p1), (3, Iv p2)]) F dX4_timeBetween_4 (by decide) rfl ?_
  exact V.sub [2, 3, 5, 1, 0] rfl (g6 μ p0 p2 0 p1 hb)
set_option maxHeartbeats 4000000 in
set_option maxRecDepth 100000 in
theorem c_X4_notSoonerBy {g : Wc} {l : Launch} (μ : Mem) (p0 : Int) (Post : Pst) (hb : wp_X4_notSoonerBy μ p0 Post) : MtC g l yX4_notSoonerBy cX4_notSoonerBy 6 (some .int) 1 [Rv 6, Iv p0] μ (QI g Post) := by
  intro hok
  refine enter (own := RX4) (by decide) rfl (Nat.le_of_ble_eq_true rfl) hok (fun X hl F hr hR => ?_)
  subst hl
  show V g X 6 μ [(0, Rv 6), (1, Iv p0)] 0 []
  unfold wp_X4_notSoonerBy at hb
  obtain ⟨G12, g12, f12⟩ : ∃ G : Mem → Int → Int → Int → Int → Int → Prop, (∀ μ x1 x2 x3 x4 x5, G μ x1 x2 x3 x4 x5 → V g X 6 μ [(0, Rv 6), (1, Iv x1), (2, Iv x2), (3, Iv x3), (4, Iv x4), (5, Iv x5)] 12 []) ∧ (∀ μ x1 x2 x3 x4 x5, V g X 6 μ [(0, Rv 6), (1, Iv x1), (2, Iv x2), (3, Iv x3), (4, Iv x4), (5, Iv x5)] 12 [] → G μ x1 x2 x3 x4 x5) := ⟨fun μ x1 x2 x3 x4 x5 => V g X 6 μ [(0, Rv 6), (1, Iv x1), (2, Iv x2), (3, Iv x3), (4, Iv x4), (5, Iv x5)] 12 [], fun _ _ _ _ _ _ h => h, fun _ _ _ _ _ _ h => h⟩
  have K12 : ∀ (μ : Mem) (x1 : Int) (x2 : Int) (x3 : Int) (x4 : Int) (x5 : Int), b_X4_notSoonerBy_12 G12 Post μ x1 x2 x3 x4 x5 → V g X 6 μ [(0, Rv 6), (1, Iv x1), (2, Iv x2), (3, Iv x3), (4, Iv x4), (5, Iv x5)] 12 [] := by
    intro μ x1 x2 x3 x4 x5 hb
    unfold b_X4_notSoonerBy_12 at hb
    refine r_iload (pc := 12) 5 F dX4_notSoonerBy_12 rfl ?_
    refine r_aload_n (pc := 14) 0 F dX4_notSoonerBy_14 rfl rfl ?_
    refine gf_RX4_27 (pc := 15) F dX4_notSoonerBy_15 ?_
    refine gf_RX4_31 (pc := 18) F dX4_notSoonerBy_18 ?_
    refine r_icmp_ge (pc := 21) (tgt := 78) F dX4_notSoonerBy_21 (by decide) (fun c_1 => ?_) (fun c_1 => ?_)
    · have hb := hb.1 c_1
      refine r_iload_n (pc := 78) 2 F dX4_notSoonerBy_78 rfl rfl ?_
      refine r_iload_n (pc := 79) 3 F dX4_notSoonerBy_79 rfl rfl ?_
      refine r_iadd (pc := 80) F dX4_notSoonerBy_80 ?_
      refine r_iload (pc := 81) 4 F dX4_notSoonerBy_81 rfl ?_
      refine r_iadd (pc := 83) F dX4_notSoonerBy_83 ?_
      exact r_iret (pc := 84) F hR hr dX4_notSoonerBy_84 hb
    · have hb := hb.2 c_1
      refine r_iload_n (pc := 24) 2 F dX4_notSoonerBy_24 rfl rfl ?_
      refine r_aload_n (pc := 25) 0 F dX4_notSoonerBy_25 rfl rfl ?_
      refine gf_RX4_27 (pc := 26) F dX4_notSoonerBy_26 ?_
      refine gf_RX4_46 (pc := 29) F dX4_notSoonerBy_29 ?_
      refine r_iload (pc := 32) 5 F dX4_notSoonerBy_32 rfl ?_
      have hg_2 := hb.1
      have hb := hb.2
      refine r_aald (pc := 34) (n := 8) (d := 32) F (c := 14) (by decide) (by decide) rfl hg_2 dX4_notSoonerBy_34 ?_
      refine r_iload_n (pc := 35) 1 F dX4_notSoonerBy_35 rfl rfl ?_
      have hg_3 := hb.1
      have hb := hb.2
      refine r_iald (pc := 36) F (lr14 hg_2).1 (lr14 hg_2).2.1 (lr14 hg_2).2.2 hg_3 dX4_notSoonerBy_36 ?_
      refine r_iadd (pc := 37) F dX4_notSoonerBy_37 ?_
      refine V.nmI (fun x_4 ex_4 => ?_)
      have hb := hb x_4 ex_4
      refine r_istore_n (pc := 38) (lv' := [(2, Iv x_4), (0, Rv 6), (1, Iv x1), (3, Iv x3), (4, Iv x4), (5, Iv x5)]) F dX4_notSoonerBy_38 rfl (by decide) rfl ?_
      refine r_iload_n (pc := 39) 3 F dX4_notSoonerBy_39 rfl rfl ?_
      refine r_aload_n (pc := 40) 1 F dX4_notSoonerBy_40 rfl rfl ?_
      refine r_iload (pc := 41) 5 F dX4_notSoonerBy_41 rfl ?_
      refine r_iconst (pc := 43) F dX4_notSoonerBy_43 (inR_lit rfl) ?_
      refine r_iload_n (pc := 44) 2 F dX4_notSoonerBy_44 rfl rfl ?_
      refine r_callI (pc := 45) (avs := [Iv x5, Iv 0, Iv x1]) (st := [Iv x3]) F (c_X4_timeBetween μ x5 0 x1 _ hb) (by decide) cal_X4_timeBetween calv_X4_timeBetween lk_RX4_54 rfl rfl (Nat.le_of_ble_eq_true rfl) dX4_notSoonerBy_45 (fun r_5 μ_6 hb => ?_)
      refine r_min (pc := 48) F (by first | decide | omega) lk_RX4_58 km_min.1 km_min.2.1 km_min.2.2 (Nat.le_of_ble_eq_true rfl) dX4_notSoonerBy_48 ?_
      refine V.nmI (fun x_7 ex_7 => ?_)
      have hb := hb x_7 ex_7
      refine r_istore_n (pc := 51) (lv' := [(3, Iv x_7), (2, Iv x_4), (0, Rv 6), (1, Iv x1), (4, Iv x4), (5, Iv x5)]) F dX4_notSoonerBy_51 rfl (by decide) rfl ?_
      refine r_iload (pc := 52) 4 F dX4_notSoonerBy_52 rfl ?_
      refine r_aload_n (pc := 54) 2 F dX4_notSoonerBy_54 rfl rfl ?_
      refine r_iload (pc := 55) 5 F dX4_notSoonerBy_55 rfl ?_
      refine r_iload_n (pc := 57) 3 F dX4_notSoonerBy_57 rfl rfl ?_
      refine r_iconst (pc := 58) F dX4_notSoonerBy_58 (inR_lit rfl) ?_
      refine r_iadd (pc := 59) F dX4_notSoonerBy_59 ?_
      refine r_aload_n (pc := 60) 2 F dX4_notSoonerBy_60 rfl rfl ?_
      refine gf_RX4_9 (pc := 61) F dX4_notSoonerBy_61 ?_
      refine r_callI (pc := 64) (avs := [Iv x5, Iv (wrap (x1 + 1)), Iv (μ_6 6 1)]) (st := [Iv x4]) F (c_X4_timeBetween μ_6 x5 (wrap (x1 + 1)) (μ_6 6 1) _ hb) (by decide) cal_X4_timeBetween calv_X4_timeBetween lk_RX4_54 rfl rfl (Nat.le_of_ble_eq_true rfl) dX4_notSoonerBy_64 (fun r_8 μ_9 hb => ?_)
      refine r_min (pc := 67) F (by first | decide | omega) lk_RX4_58 km_min.1 km_min.2.1 km_min.2.2 (Nat.le_of_ble_eq_true rfl) dX4_notSoonerBy_67 ?_
      refine V.nmI (fun x_10 ex_10 => ?_)
      have hb := hb x_10 ex_10
      refine r_istore (pc := 70) (lv' := [(4, Iv x_10), (3, Iv x_7), (2, Iv x_4), (0, Rv 6), (1, Iv x1), (5, Iv x5)]) F dX4_notSoonerBy_70 (by decide) rfl ?_
      refine r_iincN (pc := 72) 5 (lf := fun x_11 => [(5, Iv x_11), (4, Iv x_10), (3, Iv x_7), (2, Iv x_4), (0, Rv 6), (1, Iv x1)]) F dX4_notSoonerBy_72 rfl (by decide) rfl (fun x_11 ex_11 => ?_)
      have hb := hb x_11 ex_11
      refine r_goto (pc := 75) (tgt := 12) F dX4_notSoonerBy_75 (by decide) ?_
      exact V.sub [4, 5, 3, 2, 1, 0] rfl (g12 μ_9 x1 x_4 x_7 x_10 x_11 hb)
  have hb := hb G12 (fun μ x1 x2 x3 x4 x5 hb => f12 μ x1 x2 x3 x4 x5 (K12 μ x1 x2 x3 x4 x5 hb))
  unfold b_X4_notSoonerBy_e at hb
  refine r_iconst (pc := 0) F dX4_notSoonerBy_0 (inR_lit rfl) ?_
  refine r_istore_n (pc := 1) (lv' := [(2, Iv 0), (0, Rv 6), (1, Iv p0)]) F dX4_notSoonerBy_1 rfl (by decide) rfl ?_
  refine r_ldc (pc := 2) F kc_RX4_53 (x := 1000000000) (by decide) (inR_lit rfl) dX4_notSoonerBy_2 ?_
  refine r_istore_n (pc := 4) (lv' := [(3, Iv 1000000000), (2, Iv 0), (0, Rv 6), (1, Iv p0)]) F dX4_notSoonerBy_4 rfl (by decide) rfl ?_
  refine r_ldc (pc := 5) F kc_RX4_53 (x := 1000000000) (by decide) (inR_lit rfl) dX4_notSoonerBy_5 ?_
  refine r_istore (pc := 7) (lv' := [(4, Iv 1000000000), (3, Iv 1000000000), (2, Iv 0), (0, Rv 6), (1, Iv p0)]) F dX4_notSoonerBy_7 (by decide) rfl ?_
  refine r_iconst (pc := 9) F dX4_notSoonerBy_9 (inR_lit rfl) ?_
  refine r_istore (pc := 10) (lv' := [(5, Iv 0), (4, Iv 1000000000), (3, Iv 1000000000), (2, Iv 0), (0, Rv 6), (1, Iv p0)]) F dX4_notSoonerBy_10 (by decide) rfl ?_
  exact V.sub [4, 5, 3, 2, 1, 0] rfl (g12 μ p0 0 1000000000 1000000000 0 hb)
set_option maxHeartbeats 4000000 in
set_option maxRecDepth 100000 in
theorem c_X4_notSooner {g : Wc} {l : Launch} (μ : Mem) (Post : Pst) (hb : wp_X4_notSooner μ Post) : MtC g l yX4_notSooner cX4_notSooner 3 (some .int) 2 [Rv 6] μ (QI g Post) := by
  intro hok
  refine enter (own := RX4) (by decide) rfl (Nat.le_of_ble_eq_true rfl) hok (fun X hl F hr hR => ?_)
  subst hl
  show V g X 3 μ [(0, Rv 6)] 0 []
  unfold wp_X4_notSooner at hb
  obtain ⟨G4, g4, f4⟩ : ∃ G : Mem → Int → Int → Prop, (∀ μ x1 x2, G μ x1 x2 → V g X 3 μ [(0, Rv 6), (1, Iv x1), (2, Iv x2)] 4 []) ∧ (∀ μ x1 x2, V g X 3 μ [(0, Rv 6), (1, Iv x1), (2, Iv x2)] 4 [] → G μ x1 x2) := ⟨fun μ x1 x2 => V g X 3 μ [(0, Rv 6), (1, Iv x1), (2, Iv x2)] 4 [], fun _ _ _ h => h, fun _ _ _ h => h⟩
  have K4 : ∀ (μ : Mem) (x1 : Int) (x2 : Int), b_X4_notSooner_4 G4 Post μ x1 x2 → V g X 3 μ [(0, Rv 6), (1, Iv x1), (2, Iv x2)] 4 [] := by
    intro μ x1 x2 hb
    unfold b_X4_notSooner_4 at hb
    refine r_iload_n (pc := 4) 2 F dX4_notSooner_4 rfl rfl ?_
    refine r_aload_n (pc := 5) 0 F dX4_notSooner_5 rfl rfl ?_
    refine gf_RX4_9 (pc := 6) F dX4_notSooner_6 ?_
    refine r_icmp_ge (pc := 9) (tgt := 38) F dX4_notSooner_9 (by decide) (fun c_1 => ?_) (fun c_1 => ?_)
    · have hb := hb.1 c_1
      refine r_iload_n (pc := 38) 1 F dX4_notSooner_38 rfl rfl ?_
      exact r_iret (pc := 39) F hR hr dX4_notSooner_39 hb
    · have hb := hb.2 c_1
      refine r_aload_n (pc := 12) 0 F dX4_notSooner_12 rfl rfl ?_
      refine gf_RX4_27 (pc := 13) F dX4_notSooner_13 ?_
      refine gf_RX4_31 (pc := 16) F dX4_notSooner_16 ?_
      refine r_if_le (pc := 19) (tgt := 38) F dX4_notSooner_19 (by decide) (fun c_2 => ?_) (fun c_2 => ?_)
      · have hb := hb.1 c_2
        refine r_iload_n (pc := 38) 1 F dX4_notSooner_38 rfl rfl ?_
        exact r_iret (pc := 39) F hR hr dX4_notSooner_39 hb
      · have hb := hb.2 c_2
        refine r_iload_n (pc := 22) 1 F dX4_notSooner_22 rfl rfl ?_
        refine r_aload_n (pc := 23) 0 F dX4_notSooner_23 rfl rfl ?_
        refine r_iload_n (pc := 24) 2 F dX4_notSooner_24 rfl rfl ?_
        refine r_callI (pc := 25) (avs := [Iv x2]) (st := [Iv x1]) F (c_X4_notSoonerBy μ x2 _ hb) (by decide) cal_X4_notSoonerBy calv_X4_notSoonerBy lk_RX4_49 rfl rfl (Nat.le_of_ble_eq_true rfl) dX4_notSooner_25 (fun r_3 μ_4 hb => ?_)
        refine r_max (pc := 28) F (by first | decide | omega) lk_RX4_38 km_max.1 km_max.2.1 km_max.2.2 (Nat.le_of_ble_eq_true rfl) dX4_notSooner_28 ?_
        refine V.nmI (fun x_5 ex_5 => ?_)
        have hb := hb x_5 ex_5
        refine r_istore_n (pc := 31) (lv' := [(1, Iv x_5), (0, Rv 6), (2, Iv x2)]) F dX4_notSooner_31 rfl (by decide) rfl ?_
        refine r_iincN (pc := 32) 2 (lf := fun x_6 => [(2, Iv x_6), (1, Iv x_5), (0, Rv 6)]) F dX4_notSooner_32 rfl (by decide) rfl (fun x_6 ex_6 => ?_)
        have hb := hb x_6 ex_6
        refine r_goto (pc := 35) (tgt := 4) F dX4_notSooner_35 (by decide) ?_
        exact V.sub [2, 1, 0] rfl (g4 μ_4 x_5 x_6 hb)
  have hb := hb G4 (fun μ x1 x2 hb => f4 μ x1 x2 (K4 μ x1 x2 hb))
  unfold b_X4_notSooner_e at hb
  refine r_iconst (pc := 0) F dX4_notSooner_0 (inR_lit rfl) ?_
  refine r_istore_n (pc := 1) (lv' := [(1, Iv 0), (0, Rv 6)]) F dX4_notSooner_1 rfl (by decide) rfl ?_
  refine r_iconst (pc := 2) F dX4_notSooner_2 (inR_lit rfl) ?_
  refine r_istore_n (pc := 3) (lv' := [(2, Iv 0), (1, Iv 0), (0, Rv 6)]) F dX4_notSooner_3 rfl (by decide) rfl ?_
  exact V.sub [2, 1, 0] rfl (g4 μ 0 0 hb)
set_option maxHeartbeats 4000000 in
set_option maxRecDepth 100000 in
theorem c_X1_seek {g : Wc} {l : Launch} (μ : Mem) (Post : Pst) (hb : wp_X1_seek μ Post) : MtC g l yX1_seek cX1_seek 3 none 13 [Rv 7] μ (QV g Post) := by
  intro hok
  refine enter (own := RX1) (by decide) rfl (Nat.le_of_ble_eq_true rfl) hok (fun X hl F hr hR => ?_)
  subst hl
  show V g X 3 μ [(0, Rv 7)] 0 []
  unfold wp_X1_seek at hb
  obtain ⟨G2, g2, f2⟩ : ∃ G : Mem → Int → Prop, (∀ μ x1, G μ x1 → V g X 3 μ [(0, Rv 7), (1, Iv x1)] 2 []) ∧ (∀ μ x1, V g X 3 μ [(0, Rv 7), (1, Iv x1)] 2 [] → G μ x1) := ⟨fun μ x1 => V g X 3 μ [(0, Rv 7), (1, Iv x1)] 2 [], fun _ _ h => h, fun _ _ h => h⟩
  obtain ⟨G15, g15, f15⟩ : ∃ G : Mem → Int → Int → Prop, (∀ μ x1 x2, G μ x1 x2 → V g X 3 μ [(0, Rv 7), (1, Iv x1), (2, Iv x2)] 15 []) ∧ (∀ μ x1 x2, V g X 3 μ [(0, Rv 7), (1, Iv x1), (2, Iv x2)] 15 [] → G μ x1 x2) := ⟨fun μ x1 x2 => V g X 3 μ [(0, Rv 7), (1, Iv x1), (2, Iv x2)] 15 [], fun _ _ _ h => h, fun _ _ _ h => h⟩
  have K2 : ∀ (μ : Mem) (x1 : Int), b_X1_seek_2 G2 G15 Post μ x1 → V g X 3 μ [(0, Rv 7), (1, Iv x1)] 2 [] := by
    intro μ x1 hb
    unfold b_X1_seek_2 at hb
    refine r_iload_n (pc := 2) 1 F dX1_seek_2 rfl rfl ?_
    refine r_aload_n (pc := 3) 0 F dX1_seek_3 rfl rfl ?_
    refine gf_RX1_23 (pc := 4) F dX1_seek_4 ?_
    refine gf_RX1_31 (pc := 7) F dX1_seek_7 ?_
    refine r_icmp_ge (pc := 10) (tgt := 64) F dX1_seek_10 (by decide) (fun c_1 => ?_) (fun c_1 => ?_)
    · have hb := hb.1 c_1
      refine r_aload_n (pc := 64) 0 F dX1_seek_64 rfl rfl ?_
      refine r_aload_n (pc := 65) 0 F dX1_seek_65 rfl rfl ?_
      refine gf_RX1_27 (pc := 66) F dX1_seek_66 ?_
      refine r_callI (pc := 69) (avs := []) (st := [Rv 7]) F (c_X4_notSooner μ _ hb) (by decide) cal_X4_notSooner calv_X4_notSooner lk_RX1_44 rfl rfl (Nat.le_of_ble_eq_true rfl) dX1_seek_69 (fun r_2 μ_3 hb => ?_)
      refine pf_RX1_48 (pc := 72) F dX1_seek_72 ?_
      refine V.nmM (fun μ_4 eμ_4 => ?_)
      have hb := hb μ_4 eμ_4
      refine r_aload_n (pc := 75) 0 F dX1_seek_75 rfl rfl ?_
      refine r_ldc (pc := 76) F kc_RX1_50 (x := 1000000000) (by decide) (inR_lit rfl) dX1_seek_76 ?_
      refine pf_RX1_51 (pc := 78) F dX1_seek_78 ?_
      refine V.nmM (fun μ_5 eμ_5 => ?_)
      have hb := hb μ_5 eμ_5
      refine r_aload_n (pc := 81) 0 F dX1_seek_81 rfl rfl ?_
      refine r_iconst (pc := 82) F dX1_seek_82 (inR_lit rfl) ?_
      refine r_iconst (pc := 83) F dX1_seek_83 (inR_lit rfl) ?_
      refine r_iconst (pc := 84) F dX1_seek_84 (inR_lit rfl) ?_
      refine r_callV (pc := 85) (avs := [Iv 0, Iv 0, Iv 0]) (st := []) F (c_X1_extend 10 μ_5 0 0 0 _ hb) (by decide) cal_X1_extend calv_X1_extend lk_RX1_54 rfl rfl (Nat.le_of_ble_eq_true rfl) dX1_seek_85 (fun μ_7 hb => ?_)
      exact r_vret (pc := 88) F hR hr dX1_seek_88 hb
    · have hb := hb.2 c_1
      refine r_iconst (pc := 13) F dX1_seek_13 (inR_lit rfl) ?_
      refine r_istore_n (pc := 14) (lv' := [(2, Iv 0), (0, Rv 7), (1, Iv x1)]) F dX1_seek_14 rfl (by decide) rfl ?_
      exact V.sub [1, 2, 0] rfl (g15 μ x1 0 hb)
  have K15 : ∀ (μ : Mem) (x1 : Int) (x2 : Int), b_X1_seek_15 G2 G15 Post μ x1 x2 → V g X 3 μ [(0, Rv 7), (1, Iv x1), (2, Iv x2)] 15 [] := by
    intro μ x1 x2 hb
    unfold b_X1_seek_15 at hb
    refine r_iload_n (pc := 15) 2 F dX1_seek_15 rfl rfl ?_
    refine r_aload_n (pc := 16) 0 F dX1_seek_16 rfl rfl ?_
    refine gf_RX1_27 (pc := 17) F dX1_seek_17 ?_
    refine gf_RX1_37 (pc := 20) F dX1_seek_20 ?_
    refine r_icmp_ge (pc := 23) (tgt := 58) F dX1_seek_23 (by decide) (fun c_8 => ?_) (fun c_8 => ?_)
    · have hb := hb.1 c_8
      refine r_iincN (pc := 58) 1 (lf := fun x_9 => [(1, Iv x_9), (0, Rv 7), (2, Iv x2)]) F dX1_seek_58 rfl (by decide) rfl (fun x_9 ex_9 => ?_)
      have hb := hb x_9 ex_9
      refine r_goto (pc := 61) (tgt := 2) F dX1_seek_61 (by decide) ?_
      exact V.sub [1, 0] rfl (g2 μ x_9 hb)
    · have hb := hb.2 c_8
      refine r_aload_n (pc := 26) 0 F dX1_seek_26 rfl rfl ?_
      refine gf_RX1_20 (pc := 27) F dX1_seek_27 ?_
      refine r_iload_n (pc := 30) 1 F dX1_seek_30 rfl rfl ?_
      have hg_10 := hb.1
      have hb := hb.2
      refine r_aald (pc := 31) (n := 8) (d := 56) F (c := 17) (by decide) (by decide) rfl hg_10 dX1_seek_31 ?_
      refine r_iload_n (pc := 32) 2 F dX1_seek_32 rfl rfl ?_
      refine r_aload_n (pc := 33) 0 F dX1_seek_33 rfl rfl ?_
      refine gf_RX1_27 (pc := 34) F dX1_seek_34 ?_
      refine r_iload_n (pc := 37) 1 F dX1_seek_37 rfl rfl ?_
      refine r_iload_n (pc := 38) 2 F dX1_seek_38 rfl rfl ?_
      refine r_iconst (pc := 39) F dX1_seek_39 (inR_lit rfl) ?_
      refine r_iadd (pc := 40) F dX1_seek_40 ?_
      refine r_aload_n (pc := 41) 0 F dX1_seek_41 rfl rfl ?_
      refine gf_RX1_27 (pc := 42) F dX1_seek_42 ?_
      refine gf_RX1_37 (pc := 45) F dX1_seek_45 ?_
      refine r_callI (pc := 48) (avs := [Iv x1, Iv (wrap (x2 + 1)), Iv (μ 6 1)]) (st := [Iv x2, Rv (56 + x1.toNat)]) F (c_X4_timeBetween μ x1 (wrap (x2 + 1)) (μ 6 1) _ hb) (by decide) cal_X4_timeBetween calv_X4_timeBetween lk_RX1_40 rfl rfl (Nat.le_of_ble_eq_true rfl) dX1_seek_48 (fun r_11 μ_12 hb => ?_)
      have hg_13 := hb.1
      have hb := hb.2
      refine r_iast (pc := 51) F (lr17 hg_10).1 (lr17 hg_10).2.1 (lr17 hg_10).2.2 hg_13 dX1_seek_51 ?_
      refine V.nmM (fun μ_14 eμ_14 => ?_)
      have hb := hb μ_14 eμ_14
      refine r_iincN (pc := 52) 2 (lf := fun x_15 => [(2, Iv x_15), (0, Rv 7), (1, Iv x1)]) F dX1_seek_52 rfl (by decide) rfl (fun x_15 ex_15 => ?_)
      have hb := hb x_15 ex_15
      refine r_goto (pc := 55) (tgt := 15) F dX1_seek_55 (by decide) ?_
      exact V.sub [1, 2, 0] rfl (g15 μ_14 x1 x_15 hb)
  have hb := hb G2 G15 (fun μ x1 hb => f2 μ x1 (K2 μ x1 hb)) (fun μ x1 x2 hb => f15 μ x1 x2 (K15 μ x1 x2 hb))
  unfold b_X1_seek_e at hb
  refine r_iconst (pc := 0) F dX1_seek_0 (inR_lit rfl) ?_
  refine r_istore_n (pc := 1) (lv' := [(1, Iv 0), (0, Rv 7)]) F dX1_seek_1 rfl (by decide) rfl ?_
  exact V.sub [1, 0] rfl (g2 μ 0 hb)
set_option maxHeartbeats 4000000 in
set_option maxRecDepth 100000 in
theorem c_X10_bestRow {g : Wc} {l : Launch} (μ : Mem) (p0 : Int) (Post : Pst) (hb : wp_X10_bestRow μ p0 Post) : MtC g l yX10_bestRow cX10_bestRow 2 (some .int) 14 [Rv 0, Iv p0] μ (QI g Post) := by
  intro hok
  refine enter (own := RX10) (by decide) rfl (Nat.le_of_ble_eq_true rfl) hok (fun X hl F hr hR => ?_)
  subst hl
  show V g X 2 μ [(0, Rv 0), (1, Iv p0)] 0 []
  unfold wp_X10_bestRow at hb
  have hb := hb
  unfold b_X10_bestRow_e at hb
  refine r_iload_n (pc := 0) 1 F dX10_bestRow_0 rfl rfl ?_
  refine r_iconst (pc := 1) F dX10_bestRow_1 (inR_lit rfl) ?_
  refine r_aload_n (pc := 2) 0 F dX10_bestRow_2 rfl rfl ?_
  refine gf_RX10_10 (pc := 3) F dX10_bestRow_3 ?_
  refine gf_RX10_94 (pc := 6) F dX10_bestRow_6 ?_
  refine r_iconst (pc := 9) F dX10_bestRow_9 (inR_lit rfl) ?_
  refine r_isub (pc := 10) F dX10_bestRow_10 ?_
  refine r_callSI (pc := 11) (avs := [Iv p0, Iv (-1), Iv (wrap ((μ 1 0) - 1))]) (st := []) F (c_X10_isFrom μ p0 (-1) (wrap ((μ 1 0) - 1)) _ hb) (by decide) cal_X10_isFrom st_X10_isFrom lk_RX10_90 rfl rfl (Nat.le_of_ble_eq_true rfl) dX10_bestRow_11 (fun r_1 μ_2 hb => ?_)
  refine r_if_ne (pc := 14) (tgt := 20) F dX10_bestRow_14 (by decide) (fun c_3 => ?_) (fun c_3 => ?_)
  · have hb := hb.1 c_3
    refine r_aload_n (pc := 20) 0 F dX10_bestRow_20 rfl rfl ?_
    refine gf_RX10_58 (pc := 21) F dX10_bestRow_21 ?_
    refine r_callV (pc := 24) (avs := []) (st := []) F (c_X1_seek μ_2 _ hb) (by decide) cal_X1_seek calv_X1_seek lk_RX10_193 rfl rfl (Nat.le_of_ble_eq_true rfl) dX10_bestRow_24 (fun μ_5 hb => ?_)
    refine r_iload_n (pc := 27) 1 F dX10_bestRow_27 rfl rfl ?_
    refine r_iconst (pc := 28) F dX10_bestRow_28 (inR_lit rfl) ?_
    refine r_icmp_ne (pc := 29) (tgt := 42) F dX10_bestRow_29 (by decide) (fun c_6 => ?_) (fun c_6 => ?_)
    · have hb := hb.1 c_6
      refine r_aload_n (pc := 42) 0 F dX10_bestRow_42 rfl rfl ?_
      refine gf_RX10_58 (pc := 43) F dX10_bestRow_43 ?_
      refine gf_RX10_197 (pc := 46) F dX10_bestRow_46 ?_
      refine r_iload_n (pc := 49) 1 F dX10_bestRow_49 rfl rfl ?_
      have hg_7 := hb.1
      have hb := hb.2
      refine r_iald (pc := 50) F lc83.1 lc83.2.1 lc83.2.2 hg_7 dX10_bestRow_50 ?_
      exact r_iret (pc := 51) F hR hr dX10_bestRow_51 hb
    · have hb := hb.2 c_6
      refine r_aload_n (pc := 32) 0 F dX10_bestRow_32 rfl rfl ?_
      refine gf_RX10_58 (pc := 33) F dX10_bestRow_33 ?_
      refine gf_RX10_195 (pc := 36) F dX10_bestRow_36 ?_
      refine r_goto (pc := 39) (tgt := 51) F dX10_bestRow_39 (by decide) ?_
      exact r_iret (pc := 51) F hR hr dX10_bestRow_51 hb
  · have hb := hb.2 c_3
    refine r_bipush (pc := 17) F dX10_bestRow_17 (inR_lit rfl) (by decide) ?_
    exact r_iret (pc := 19) F hR hr dX10_bestRow_19 hb
