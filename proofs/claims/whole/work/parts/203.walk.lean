/-! Walks: X10_bound, X3_isSooner, X3_over, X3_findWhy, X3_begin, X3_workOn, X3_greatestLate, X10_broken, X5_lastEnd, X5_isShorterFirst, X5_goesAhead, X5_putInOrder, X10_byRule. By program. -/
set_option maxHeartbeats 4000000 in
set_option maxRecDepth 100000 in
theorem c_X10_bound {g : Wc} {l : Launch} (μ : Mem) (Post : Pst) (hb : wp_X10_bound μ Post) : MtC g l yX10_bound cX10_bound 1 (some .int) 3 [Rv 0] μ (QI g Post) := by
  intro hok
  refine enter (own := RX10) (by decide) rfl (Nat.le_of_ble_eq_true rfl) hok (fun X hl F hr hR => ?_)
  subst hl
  show V g X 1 μ [(0, Rv 0)] 0 []
  unfold wp_X10_bound at hb
  have hb := hb
  unfold b_X10_bound_e at hb
  refine r_aload_n (pc := 0) 0 F dX10_bound_0 rfl rfl ?_
  refine gf_RX10_49 (pc := 1) F dX10_bound_1 ?_
  refine r_callI (pc := 4) (avs := []) (st := []) F (c_X4_notSooner μ _ hb) (by decide) cal_X4_notSooner calv_X4_notSooner lk_RX10_198 rfl rfl (Nat.le_of_ble_eq_true rfl) dX10_bound_4 (fun r_1 μ_2 hb => ?_)
  exact r_iret (pc := 7) F hR hr dX10_bound_7 hb
set_option maxHeartbeats 4000000 in
set_option maxRecDepth 100000 in
theorem c_X3_isSooner {g : Wc} {l : Launch} (μ : Mem) (p0 : Int) (p1 : Int) (Post : Pst) (hb : wp_X3_isSooner μ p0 p1 Post) : MtC g l yX3_isSooner cX3_isSooner 3 (some .boolean) 0 [Rv 5, Iv p0, Iv p1] μ (QI g Post) := by
  intro hok
  refine enter (own := RX3) (by decide) rfl (Nat.le_of_ble_eq_true rfl) hok (fun X hl F hr hR => ?_)
  subst hl
  show V g X 3 μ [(0, Rv 5), (1, Iv p0), (2, Iv p1)] 0 []
  unfold wp_X3_isSooner at hb
  have hb := hb
  unfold b_X3_isSooner_e at hb
  refine r_iload_n (pc := 0) 1 F dX3_isSooner_0 rfl rfl ?_
  refine r_aload_n (pc := 1) 0 F dX3_isSooner_1 rfl rfl ?_
  refine gf_RX3_52 (pc := 2) F dX3_isSooner_2 ?_
  refine r_icmp_lt (pc := 5) (tgt := 24) F dX3_isSooner_5 (by decide) (fun c_1 => ?_) (fun c_1 => ?_)
  · have hb := hb.1 c_1
    refine r_iconst (pc := 24) F dX3_isSooner_24 (inR_lit rfl) ?_
    refine r_goto (pc := 25) (tgt := 29) F dX3_isSooner_25 (by decide) ?_
    exact r_zret (pc := 29) F hR hr dX3_isSooner_29 (Or.inr rfl) hb
  · have hb := hb.2 c_1
    refine r_iload_n (pc := 8) 1 F dX3_isSooner_8 rfl rfl ?_
    refine r_aload_n (pc := 9) 0 F dX3_isSooner_9 rfl rfl ?_
    refine gf_RX3_52 (pc := 10) F dX3_isSooner_10 ?_
    refine r_icmp_ne (pc := 13) (tgt := 28) F dX3_isSooner_13 (by decide) (fun c_2 => ?_) (fun c_2 => ?_)
    · have hb := hb.1 c_2
      refine r_iconst (pc := 28) F dX3_isSooner_28 (inR_lit rfl) ?_
      exact r_zret (pc := 29) F hR hr dX3_isSooner_29 (Or.inl rfl) hb
    · have hb := hb.2 c_2
      refine r_iload_n (pc := 16) 2 F dX3_isSooner_16 rfl rfl ?_
      refine r_aload_n (pc := 17) 0 F dX3_isSooner_17 rfl rfl ?_
      refine gf_RX3_55 (pc := 18) F dX3_isSooner_18 ?_
      refine r_icmp_ge (pc := 21) (tgt := 28) F dX3_isSooner_21 (by decide) (fun c_3 => ?_) (fun c_3 => ?_)
      · have hb := hb.1 c_3
        refine r_iconst (pc := 28) F dX3_isSooner_28 (inR_lit rfl) ?_
        exact r_zret (pc := 29) F hR hr dX3_isSooner_29 (Or.inl rfl) hb
      · have hb := hb.2 c_3
        refine r_iconst (pc := 24) F dX3_isSooner_24 (inR_lit rfl) ?_
        refine r_goto (pc := 25) (tgt := 29) F dX3_isSooner_25 (by decide) ?_
        exact r_zret (pc := 29) F hR hr dX3_isSooner_29 (Or.inr rfl) hb
set_option maxHeartbeats 4000000 in
set_option maxRecDepth 100000 in
theorem c_X3_over {g : Wc} {l : Launch} (μ : Mem) (p0 : Int) (p1 : Int) (Post : Pst) (hb : wp_X3_over μ p0 p1 Post) : MtC g l yX3_over cX3_over 5 (some .int) 0 [Rv 5, Iv p0, Iv p1] μ (QI g Post) := by
  intro hok
  refine enter (own := RX3) (by decide) rfl (Nat.le_of_ble_eq_true rfl) hok (fun X hl F hr hR => ?_)
  subst hl
  show V g X 5 μ [(0, Rv 5), (1, Iv p0), (2, Iv p1)] 0 []
  unfold wp_X3_over at hb
  obtain ⟨G5, g5, f5⟩ : ∃ G : Mem → Int → Int → Int → Int → Prop, (∀ μ x1 x2 x3 x4, G μ x1 x2 x3 x4 → V g X 5 μ [(0, Rv 5), (1, Iv x1), (2, Iv x2), (3, Iv x3), (4, Iv x4)] 5 []) ∧ (∀ μ x1 x2 x3 x4, V g X 5 μ [(0, Rv 5), (1, Iv x1), (2, Iv x2), (3, Iv x3), (4, Iv x4)] 5 [] → G μ x1 x2 x3 x4) := ⟨fun μ x1 x2 x3 x4 => V g X 5 μ [(0, Rv 5), (1, Iv x1), (2, Iv x2), (3, Iv x3), (4, Iv x4)] 5 [], fun _ _ _ _ _ h => h, fun _ _ _ _ _ h => h⟩
  have K64 : ∀ (μ : Mem) (x1 : Int) (x2 : Int) (x3 : Int) (x4 : Int), b_X3_over_64 G5 Post μ x1 x2 x3 x4 → V g X 5 μ [(0, Rv 5), (1, Iv x1), (2, Iv x2), (3, Iv x3), (4, Iv x4)] 64 [] := by
    intro μ x1 x2 x3 x4 hb
    unfold b_X3_over_64 at hb
    refine r_iincN (pc := 64) 4 (lf := fun x_1 => [(4, Iv x_1), (0, Rv 5), (1, Iv x1), (2, Iv x2), (3, Iv x3)]) F dX3_over_64 rfl (by decide) rfl (fun x_1 ex_1 => ?_)
    have hb := hb x_1 ex_1
    refine r_goto (pc := 67) (tgt := 5) F dX3_over_67 (by decide) ?_
    exact V.sub [1, 2, 3, 4, 0] rfl (g5 μ x1 x2 x3 x_1 hb)
  have K5 : ∀ (μ : Mem) (x1 : Int) (x2 : Int) (x3 : Int) (x4 : Int), b_X3_over_5 G5 Post μ x1 x2 x3 x4 → V g X 5 μ [(0, Rv 5), (1, Iv x1), (2, Iv x2), (3, Iv x3), (4, Iv x4)] 5 [] := by
    intro μ x1 x2 x3 x4 hb
    unfold b_X3_over_5 at hb
    refine r_iload (pc := 5) 4 F dX3_over_5 rfl ?_
    refine r_aload_n (pc := 7) 0 F dX3_over_7 rfl rfl ?_
    refine gf_RX3_15 (pc := 8) F dX3_over_8 ?_
    refine gf_RX3_22 (pc := 11) F dX3_over_11 ?_
    refine r_icmp_ge (pc := 14) (tgt := 70) F dX3_over_14 (by decide) (fun c_2 => ?_) (fun c_2 => ?_)
    · have hb := hb.1 c_2
      refine r_iload_n (pc := 70) 3 F dX3_over_70 rfl rfl ?_
      refine r_if_ne (pc := 71) (tgt := 79) F dX3_over_71 (by decide) (fun c_3 => ?_) (fun c_3 => ?_)
      · have hb := hb.1 c_3
        refine r_iload_n (pc := 79) 1 F dX3_over_79 rfl rfl ?_
        refine r_iload_n (pc := 80) 3 F dX3_over_80 rfl rfl ?_
        refine r_iadd (pc := 81) F dX3_over_81 ?_
        refine r_iload_n (pc := 82) 2 F dX3_over_82 rfl rfl ?_
        refine r_isub (pc := 83) F dX3_over_83 ?_
        exact r_iret (pc := 84) F hR hr dX3_over_84 hb
      · have hb := hb.2 c_3
        refine r_ldc (pc := 74) F kc_RX3_51 (x := (-1000000000)) (by decide) (inR_lit rfl) dX3_over_74 ?_
        refine r_goto (pc := 76) (tgt := 84) F dX3_over_76 (by decide) ?_
        exact r_iret (pc := 84) F hR hr dX3_over_84 hb
    · have hb := hb.2 c_2
      refine r_aload_n (pc := 17) 0 F dX3_over_17 rfl rfl ?_
      refine gf_RX3_15 (pc := 18) F dX3_over_18 ?_
      refine gf_RX3_41 (pc := 21) F dX3_over_21 ?_
      refine r_iconst (pc := 24) F dX3_over_24 (inR_lit rfl) ?_
      refine r_aaldk (pc := 25) (e := 25) F (c := 12) (by decide) (by decide) rfl (by decide) ⟨by decide, by decide⟩ dX3_over_25 ?_
      refine r_iload (pc := 26) 4 F dX3_over_26 rfl ?_
      have hg_4 := hb.1
      have hb := hb.2
      refine r_iald (pc := 28) F lc25.1 lc25.2.1 lc25.2.2 hg_4 dX3_over_28 ?_
      refine r_iload_n (pc := 29) 1 F dX3_over_29 rfl rfl ?_
      refine r_icmp_lt (pc := 30) (tgt := 64) F dX3_over_30 (by decide) (fun c_5 => ?_) (fun c_5 => ?_)
      · have hb := hb.1 c_5
        exact V.sub [0, 1, 2, 3, 4] rfl (K64 μ x1 x2 x3 x4 hb)
      · have hb := hb.2 c_5
        refine r_aload_n (pc := 33) 0 F dX3_over_33 rfl rfl ?_
        refine gf_RX3_15 (pc := 34) F dX3_over_34 ?_
        refine gf_RX3_41 (pc := 37) F dX3_over_37 ?_
        refine r_iconst (pc := 40) F dX3_over_40 (inR_lit rfl) ?_
        refine r_aaldk (pc := 41) (e := 26) F (c := 12) (by decide) (by decide) rfl (by decide) ⟨by decide, by decide⟩ dX3_over_41 ?_
        refine r_iload (pc := 42) 4 F dX3_over_42 rfl ?_
        have hg_6 := hb.1
        have hb := hb.2
        refine r_iald (pc := 44) F lc26.1 lc26.2.1 lc26.2.2 hg_6 dX3_over_44 ?_
        refine r_iload_n (pc := 45) 2 F dX3_over_45 rfl rfl ?_
        refine r_icmp_gt (pc := 46) (tgt := 64) F dX3_over_46 (by decide) (fun c_7 => ?_) (fun c_7 => ?_)
        · have hb := hb.1 c_7
          exact V.sub [0, 1, 2, 3, 4] rfl (K64 μ x1 x2 x3 x4 hb)
        · have hb := hb.2 c_7
          refine r_iload_n (pc := 49) 3 F dX3_over_49 rfl rfl ?_
          refine r_aload_n (pc := 50) 0 F dX3_over_50 rfl rfl ?_
          refine gf_RX3_15 (pc := 51) F dX3_over_51 ?_
          refine gf_RX3_41 (pc := 54) F dX3_over_54 ?_
          refine r_iconst (pc := 57) F dX3_over_57 (inR_lit rfl) ?_
          refine r_aaldk (pc := 58) (e := 24) F (c := 12) (by decide) (by decide) rfl (by decide) ⟨by decide, by decide⟩ dX3_over_58 ?_
          refine r_iload (pc := 59) 4 F dX3_over_59 rfl ?_
          have hg_8 := hb.1
          have hb := hb.2
          refine r_iald (pc := 61) F lc24.1 lc24.2.1 lc24.2.2 hg_8 dX3_over_61 ?_
          refine r_iadd (pc := 62) F dX3_over_62 ?_
          refine V.nmI (fun x_9 ex_9 => ?_)
          have hb := hb x_9 ex_9
          refine r_istore_n (pc := 63) (lv' := [(3, Iv x_9), (0, Rv 5), (1, Iv x1), (2, Iv x2), (4, Iv x4)]) F dX3_over_63 rfl (by decide) rfl ?_
          exact V.sub [1, 2, 3, 0, 4] rfl (K64 μ x1 x2 x_9 x4 hb)
  have hb := hb G5 (fun μ x1 x2 x3 x4 hb => f5 μ x1 x2 x3 x4 (K5 μ x1 x2 x3 x4 hb))
  unfold b_X3_over_e at hb
  refine r_iconst (pc := 0) F dX3_over_0 (inR_lit rfl) ?_
  refine r_istore_n (pc := 1) (lv' := [(3, Iv 0), (0, Rv 5), (1, Iv p0), (2, Iv p1)]) F dX3_over_1 rfl (by decide) rfl ?_
  refine r_iconst (pc := 2) F dX3_over_2 (inR_lit rfl) ?_
  refine r_istore (pc := 3) (lv' := [(4, Iv 0), (3, Iv 0), (0, Rv 5), (1, Iv p0), (2, Iv p1)]) F dX3_over_3 (by decide) rfl ?_
  exact V.sub [2, 3, 4, 1, 0] rfl (g5 μ p0 p1 0 0 hb)
set_option maxHeartbeats 4000000 in
set_option maxRecDepth 100000 in
theorem c_X3_findWhy {g : Wc} {l : Launch} (μ : Mem) (Post : Pst) (hb : wp_X3_findWhy μ Post) : MtC g l yX3_findWhy cX3_findWhy 7 none 1 [Rv 5] μ (QV g Post) := by
  intro hok
  refine enter (own := RX3) (by decide) rfl (Nat.le_of_ble_eq_true rfl) hok (fun X hl F hr hR => ?_)
  subst hl
  show V g X 7 μ [(0, Rv 5)] 0 []
  unfold wp_X3_findWhy at hb
  obtain ⟨G15, g15, f15⟩ : ∃ G : Mem → Int → Int → Prop, (∀ μ x1 x2, G μ x1 x2 → V g X 7 μ [(0, Rv 5), (1, Iv x1), (2, Iv x2)] 15 []) ∧ (∀ μ x1 x2, V g X 7 μ [(0, Rv 5), (1, Iv x1), (2, Iv x2)] 15 [] → G μ x1 x2) := ⟨fun μ x1 x2 => V g X 7 μ [(0, Rv 5), (1, Iv x1), (2, Iv x2)] 15 [], fun _ _ _ h => h, fun _ _ _ h => h⟩
  obtain ⟨G28, g28, f28⟩ : ∃ G : Mem → Int → Int → Int → Prop, (∀ μ x1 x2 x3, G μ x1 x2 x3 → V g X 7 μ [(0, Rv 5), (1, Iv x1), (2, Iv x2), (3, Iv x3)] 28 []) ∧ (∀ μ x1 x2 x3, V g X 7 μ [(0, Rv 5), (1, Iv x1), (2, Iv x2), (3, Iv x3)] 28 [] → G μ x1 x2 x3) := ⟨fun μ x1 x2 x3 => V g X 7 μ [(0, Rv 5), (1, Iv x1), (2, Iv x2), (3, Iv x3)] 28 [], fun _ _ _ _ h => h, fun _ _ _ _ h => h⟩
  have K113 : ∀ (μ : Mem) (x1 : Int) (x2 : Int) (x3 : Int), b_X3_findWhy_113 G15 G28 Post μ x1 x2 x3 → V g X 7 μ [(0, Rv 5), (1, Iv x1), (2, Iv x2), (3, Iv x3)] 113 [] := by
    intro μ x1 x2 x3 hb
    unfold b_X3_findWhy_113 at hb
    refine r_iincN (pc := 113) 3 (lf := fun x_1 => [(3, Iv x_1), (0, Rv 5), (1, Iv x1), (2, Iv x2)]) F dX3_findWhy_113 rfl (by decide) rfl (fun x_1 ex_1 => ?_)
    have hb := hb x_1 ex_1
    refine r_goto (pc := 116) (tgt := 28) F dX3_findWhy_116 (by decide) ?_
    exact V.sub [1, 2, 3, 0] rfl (g28 μ x1 x2 x_1 hb)
  have K98 : ∀ (μ : Mem) (x2 : Int) (x3 : Int) (x4 : Int) (x5 : Int) (x6 : Int), b_X3_findWhy_98 G15 G28 Post μ x2 x3 x4 x5 x6 → V g X 7 μ [(0, Rv 5), (2, Iv x2), (3, Iv x3), (4, Iv x4), (5, Iv x5), (6, Iv x6)] 98 [] := by
    intro μ x2 x3 x4 x5 x6 hb
    unfold b_X3_findWhy_98 at hb
    refine r_iload (pc := 98) 5 F dX3_findWhy_98 rfl ?_
    refine r_istore_n (pc := 100) (lv' := [(1, Iv x6), (0, Rv 5), (2, Iv x2), (3, Iv x3), (4, Iv x4), (5, Iv x5), (6, Iv x6)]) F dX3_findWhy_100 rfl (by decide) rfl ?_
    refine r_aload_n (pc := 101) 1 F dX3_findWhy_101 rfl rfl ?_
    refine r_iload (pc := 102) 4 F dX3_findWhy_102 rfl ?_
    refine pf_RX3_52 (pc := 104) F dX3_findWhy_104 ?_
    refine V.nmM (fun μ_2 eμ_2 => ?_)
    have hb := hb μ_2 eμ_2
    refine r_aload_n (pc := 107) 1 F dX3_findWhy_107 rfl rfl ?_
    refine r_iload (pc := 108) 5 F dX3_findWhy_108 rfl ?_
    refine pf_RX3_55 (pc := 110) F dX3_findWhy_110 ?_
    refine V.nmM (fun μ_3 eμ_3 => ?_)
    have hb := hb μ_3 eμ_3
    exact V.sub [1, 0, 2, 3] rfl (K113 μ_3 x6 x2 x3 hb)
  have K15 : ∀ (μ : Mem) (x1 : Int) (x2 : Int), b_X3_findWhy_15 G15 G28 Post μ x1 x2 → V g X 7 μ [(0, Rv 5), (1, Iv x1), (2, Iv x2)] 15 [] := by
    intro μ x1 x2 hb
    unfold b_X3_findWhy_15 at hb
    refine r_iload_n (pc := 15) 2 F dX3_findWhy_15 rfl rfl ?_
    refine r_aload_n (pc := 16) 0 F dX3_findWhy_16 rfl rfl ?_
    refine gf_RX3_15 (pc := 17) F dX3_findWhy_17 ?_
    refine gf_RX3_22 (pc := 20) F dX3_findWhy_20 ?_
    refine r_icmp_ge (pc := 23) (tgt := 125) F dX3_findWhy_23 (by decide) (fun c_4 => ?_) (fun c_4 => ?_)
    · have hb := hb.1 c_4
      exact r_vret (pc := 125) F hR hr dX3_findWhy_125 hb
    · have hb := hb.2 c_4
      refine r_iconst (pc := 26) F dX3_findWhy_26 (inR_lit rfl) ?_
      refine r_istore_n (pc := 27) (lv' := [(3, Iv 0), (0, Rv 5), (1, Iv x1), (2, Iv x2)]) F dX3_findWhy_27 rfl (by decide) rfl ?_
      exact V.sub [1, 2, 3, 0] rfl (g28 μ x1 x2 0 hb)
  have K28 : ∀ (μ : Mem) (x1 : Int) (x2 : Int) (x3 : Int), b_X3_findWhy_28 G15 G28 Post μ x1 x2 x3 → V g X 7 μ [(0, Rv 5), (1, Iv x1), (2, Iv x2), (3, Iv x3)] 28 [] := by
    intro μ x1 x2 x3 hb
    unfold b_X3_findWhy_28 at hb
    refine r_iload_n (pc := 28) 3 F dX3_findWhy_28 rfl rfl ?_
    refine r_aload_n (pc := 29) 0 F dX3_findWhy_29 rfl rfl ?_
    refine gf_RX3_15 (pc := 30) F dX3_findWhy_30 ?_
    refine gf_RX3_22 (pc := 33) F dX3_findWhy_33 ?_
    refine r_icmp_ge (pc := 36) (tgt := 119) F dX3_findWhy_36 (by decide) (fun c_5 => ?_) (fun c_5 => ?_)
    · have hb := hb.1 c_5
      refine r_iincN (pc := 119) 2 (lf := fun x_6 => [(2, Iv x_6), (0, Rv 5), (1, Iv x1), (3, Iv x3)]) F dX3_findWhy_119 rfl (by decide) rfl (fun x_6 ex_6 => ?_)
      have hb := hb x_6 ex_6
      refine r_goto (pc := 122) (tgt := 15) F dX3_findWhy_122 (by decide) ?_
      exact V.sub [1, 2, 0] rfl (g15 μ x1 x_6 hb)
    · have hb := hb.2 c_5
      refine r_aload_n (pc := 39) 0 F dX3_findWhy_39 rfl rfl ?_
      refine gf_RX3_15 (pc := 40) F dX3_findWhy_40 ?_
      refine gf_RX3_41 (pc := 43) F dX3_findWhy_43 ?_
      refine r_iconst (pc := 46) F dX3_findWhy_46 (inR_lit rfl) ?_
      refine r_aaldk (pc := 47) (e := 25) F (c := 12) (by decide) (by decide) rfl (by decide) ⟨by decide, by decide⟩ dX3_findWhy_47 ?_
      refine r_iload_n (pc := 48) 2 F dX3_findWhy_48 rfl rfl ?_
      have hg_7 := hb.1
      have hb := hb.2
      refine r_iald (pc := 49) F lc25.1 lc25.2.1 lc25.2.2 hg_7 dX3_findWhy_49 ?_
      refine V.nmI (fun x_8 ex_8 => ?_)
      have hb := hb x_8 ex_8
      refine r_istore (pc := 50) (lv' := [(4, Iv x_8), (0, Rv 5), (1, Iv x1), (2, Iv x2), (3, Iv x3)]) F dX3_findWhy_50 (by decide) rfl ?_
      refine r_aload_n (pc := 52) 1 F dX3_findWhy_52 rfl rfl ?_
      refine gf_RX3_15 (pc := 53) F dX3_findWhy_53 ?_
      refine gf_RX3_41 (pc := 56) F dX3_findWhy_56 ?_
      refine r_iconst (pc := 59) F dX3_findWhy_59 (inR_lit rfl) ?_
      refine r_aaldk (pc := 60) (e := 26) F (c := 12) (by decide) (by decide) rfl (by decide) ⟨by decide, by decide⟩ dX3_findWhy_60 ?_
      refine r_iload_n (pc := 61) 4 F dX3_findWhy_61 rfl rfl ?_
      have hg_9 := hb.1
      have hb := hb.2
      refine r_iald (pc := 62) F lc26.1 lc26.2.1 lc26.2.2 hg_9 dX3_findWhy_62 ?_
      refine V.nmI (fun x_10 ex_10 => ?_)
      have hb := hb x_10 ex_10
      refine r_istore (pc := 63) (lv' := [(5, Iv x_10), (4, Iv x_8), (0, Rv 5), (1, Iv x1), (2, Iv x2), (3, Iv x3)]) F dX3_findWhy_63 (by decide) rfl ?_
      refine r_aload_n (pc := 65) 2 F dX3_findWhy_65 rfl rfl ?_
      refine r_iload (pc := 66) 1 F dX3_findWhy_66 rfl ?_
      refine r_iload (pc := 68) 0 F dX3_findWhy_68 rfl ?_
      refine r_callI (pc := 70) (avs := [Iv x_8, Iv x_10]) (st := []) F (c_X3_over μ x_8 x_10 _ hb) (by decide) cal_X3_over calv_X3_over lk_RX3_58 rfl rfl (Nat.le_of_ble_eq_true rfl) dX3_findWhy_70 (fun r_11 μ_12 hb => ?_)
      refine r_istore (pc := 73) (lv' := [(6, Iv r_11), (5, Iv x_10), (4, Iv x_8), (0, Rv 5), (1, Iv x1), (2, Iv x2), (3, Iv x3)]) F dX3_findWhy_73 (by decide) rfl ?_
      refine r_iload (pc := 75) 0 F dX3_findWhy_75 rfl ?_
      refine r_iload_n (pc := 77) 4 F dX3_findWhy_77 rfl rfl ?_
      refine r_icmp_gt (pc := 78) (tgt := 98) F dX3_findWhy_78 (by decide) (fun c_13 => ?_) (fun c_13 => ?_)
      · have hb := hb.1 c_13
        exact V.sub [3, 5, 6, 2, 1, 0] rfl (K98 μ_12 x2 x3 x_8 x_10 r_11 hb)
      · have hb := hb.2 c_13
        refine r_iload (pc := 81) 0 F dX3_findWhy_81 rfl ?_
        refine r_iload_n (pc := 83) 4 F dX3_findWhy_83 rfl rfl ?_
        refine r_icmp_ne (pc := 84) (tgt := 113) F dX3_findWhy_84 (by decide) (fun c_14 => ?_) (fun c_14 => ?_)
        · have hb := hb.1 c_14
          exact V.sub [3, 4, 5, 6] rfl (K113 μ_12 x1 x2 x3 hb)
        · have hb := hb.2 c_14
          refine r_aload_n (pc := 87) 3 F dX3_findWhy_87 rfl rfl ?_
          refine r_iload (pc := 88) 2 F dX3_findWhy_88 rfl ?_
          refine r_iload (pc := 90) 1 F dX3_findWhy_90 rfl ?_
          refine r_callI (pc := 92) (avs := [Iv x_8, Iv x_10]) (st := []) F (c_X3_isSooner μ_12 x_8 x_10 _ hb) (by decide) cal_X3_isSooner calv_X3_isSooner lk_RX3_61 rfl rfl (Nat.le_of_ble_eq_true rfl) dX3_findWhy_92 (fun r_15 μ_16 hb => ?_)
          refine r_if_eq (pc := 95) (tgt := 113) F dX3_findWhy_95 (by decide) (fun c_17 => ?_) (fun c_17 => ?_)
          · have hb := hb.1 c_17
            exact V.sub [3, 4, 5, 6] rfl (K113 μ_16 x1 x2 x3 hb)
          · have hb := hb.2 c_17
            exact V.sub [3, 5, 6, 2, 1, 0] rfl (K98 μ_16 x2 x3 x_8 x_10 r_11 hb)
  have hb := hb G15 G28 (fun μ x1 x2 hb => f15 μ x1 x2 (K15 μ x1 x2 hb)) (fun μ x1 x2 x3 hb => f28 μ x1 x2 x3 (K28 μ x1 x2 x3 hb))
  unfold b_X3_findWhy_e at hb
  refine r_ldc (pc := 0) F kc_RX3_51 (x := (-1000000000)) (by decide) (inR_lit rfl) dX3_findWhy_0 ?_
  refine r_istore_n (pc := 2) (lv' := [(1, Iv (-1000000000)), (0, Rv 5)]) F dX3_findWhy_2 rfl (by decide) rfl ?_
  refine r_aload_n (pc := 3) 1 F dX3_findWhy_3 rfl rfl ?_
  refine r_iconst (pc := 4) F dX3_findWhy_4 (inR_lit rfl) ?_
  refine pf_RX3_52 (pc := 5) F dX3_findWhy_5 ?_
  refine V.nmM (fun μ_18 eμ_18 => ?_)
  have hb := hb μ_18 eμ_18
  refine r_aload_n (pc := 8) 1 F dX3_findWhy_8 rfl rfl ?_
  refine r_iconst (pc := 9) F dX3_findWhy_9 (inR_lit rfl) ?_
  refine pf_RX3_55 (pc := 10) F dX3_findWhy_10 ?_
  refine V.nmM (fun μ_19 eμ_19 => ?_)
  have hb := hb μ_19 eμ_19
  refine r_iconst (pc := 13) F dX3_findWhy_13 (inR_lit rfl) ?_
  refine r_istore_n (pc := 14) (lv' := [(2, Iv 0), (1, Iv (-1000000000)), (0, Rv 5)]) F dX3_findWhy_14 rfl (by decide) rfl ?_
  exact V.sub [2, 1, 0] rfl (g15 μ_19 (-1000000000) 0 hb)
set_option maxHeartbeats 4000000 in
set_option maxRecDepth 100000 in
theorem c_X3_begin {g : Wc} {l : Launch} (μ : Mem) (Post : Pst) (hb : wp_X3_begin μ Post) : MtC g l yX3_begin cX3_begin 1 none 1 [Rv 5] μ (QV g Post) := by
  intro hok
  refine enter (own := RX3) (by decide) rfl (Nat.le_of_ble_eq_true rfl) hok (fun X hl F hr hR => ?_)
  subst hl
  show V g X 1 μ [(0, Rv 5)] 0 []
  unfold wp_X3_begin at hb
  have hb := hb
  unfold b_X3_begin_e at hb
  refine r_aload_n (pc := 0) 0 F dX3_begin_0 rfl rfl ?_
  refine gf_RX3_15 (pc := 1) F dX3_begin_1 ?_
  refine gf_RX3_41 (pc := 4) F dX3_begin_4 ?_
  refine r_iconst (pc := 7) F dX3_begin_7 (inR_lit rfl) ?_
  refine r_aaldk (pc := 8) (e := 24) F (c := 12) (by decide) (by decide) rfl (by decide) ⟨by decide, by decide⟩ dX3_begin_8 ?_
  refine r_iconst (pc := 9) F dX3_begin_9 (inR_lit rfl) ?_
  refine r_aload_n (pc := 10) 0 F dX3_begin_10 rfl rfl ?_
  refine gf_RX3_9 (pc := 11) F dX3_begin_11 ?_
  refine r_iconst (pc := 14) F dX3_begin_14 (inR_lit rfl) ?_
  refine r_aload_n (pc := 15) 0 F dX3_begin_15 rfl rfl ?_
  refine gf_RX3_15 (pc := 16) F dX3_begin_16 ?_
  refine gf_RX3_22 (pc := 19) F dX3_begin_19 ?_
  refine r_copy (pc := 22) F (by first | decide | omega) lk_RX3_45 km_arraycopy.1 km_arraycopy.2.1 km_arraycopy.2.2 lc24.1 lc24.2.1 lc81.1 lc81.2.1 lc24.2.2 lc81.2.2 hb.1 (Nat.le_of_ble_eq_true rfl) dX3_begin_22 ?_
  have hb := hb.2
  refine V.nmM (fun μ_1 eμ_1 => ?_)
  have hb := hb μ_1 eμ_1
  exact r_vret (pc := 25) F hR hr dX3_begin_25 hb
set_option maxHeartbeats 4000000 in
set_option maxRecDepth 100000 in
theorem c_X3_workOn {g : Wc} {l : Launch} (μ : Mem) (p0 : Int) (Post : Pst) (hb : wp_X3_workOn μ p0 Post) : MtC g l yX3_workOn cX3_workOn 6 (some .int) 0 [Rv 5, Iv p0] μ (QI g Post) := by
  intro hok
  refine enter (own := RX3) (by decide) rfl (Nat.le_of_ble_eq_true rfl) hok (fun X hl F hr hR => ?_)
  subst hl
  show V g X 6 μ [(0, Rv 5), (1, Iv p0)] 0 []
  unfold wp_X3_workOn at hb
  obtain ⟨G15, g15, f15⟩ : ∃ G : Mem → Int → Nat → Int → Int → Prop, (∀ μ x1 x2 x3 x4, G μ x1 x2 x3 x4 → V g X 6 μ [(0, Rv 5), (1, Iv x1), (2, Rv x2), (3, Iv x3), (4, Iv x4)] 15 []) ∧ (∀ μ x1 x2 x3 x4, V g X 6 μ [(0, Rv 5), (1, Iv x1), (2, Rv x2), (3, Iv x3), (4, Iv x4)] 15 [] → G μ x1 x2 x3 x4) := ⟨fun μ x1 x2 x3 x4 => V g X 6 μ [(0, Rv 5), (1, Iv x1), (2, Rv x2), (3, Iv x3), (4, Iv x4)] 15 [], fun _ _ _ _ _ h => h, fun _ _ _ _ _ h => h⟩
  have K83 : ∀ (μ : Mem) (x1 : Int) (x2 : Nat) (x3 : Int) (x4 : Int), b_X3_workOn_83 G15 Post μ x1 x2 x3 x4 → V g X 6 μ [(0, Rv 5), (1, Iv x1), (2, Rv x2), (3, Iv x3), (4, Iv x4)] 83 [] := by
    intro μ x1 x2 x3 x4 hb
    unfold b_X3_workOn_83 at hb
    refine r_iincN (pc := 83) 4 (lf := fun x_1 => [(4, Iv x_1), (0, Rv 5), (1, Iv x1), (2, Rv x2), (3, Iv x3)]) F dX3_workOn_83 rfl (by decide) rfl (fun x_1 ex_1 => ?_)
    have hb := hb x_1 ex_1
    refine r_goto (pc := 86) (tgt := 15) F dX3_workOn_86 (by decide) ?_
    exact V.sub [1, 2, 3, 4, 0] rfl (g15 μ x1 x2 x3 x_1 hb)
  have K80 : ∀ (μ : Mem) (x1 : Int) (x2 : Nat) (x4 : Int), b_X3_workOn_80 G15 Post μ x1 x2 x4 → V g X 6 μ [(0, Rv 5), (1, Iv x1), (2, Rv x2), (4, Iv x4)] 80 [] := by
    intro μ x1 x2 x4 hb
    unfold b_X3_workOn_80 at hb
    refine r_iload (pc := 80) 3 F dX3_workOn_80 rfl ?_
    refine r_istore_n (pc := 82) (lv' := [(3, Iv x4), (0, Rv 5), (1, Iv x1), (2, Rv x2), (4, Iv x4)]) F dX3_workOn_82 rfl (by decide) rfl ?_
    exact V.sub [1, 2, 3, 0, 4] rfl (K83 μ x1 x2 x4 x4 hb)
  have K58 : ∀ (μ : Mem) (x1 : Int) (x2 : Nat) (x3 : Int) (x4 : Int) (s0 : Int), b_X3_workOn_58 G15 Post μ x1 x2 x3 x4 s0 → V g X 6 μ [(0, Rv 5), (1, Iv x1), (2, Rv x2), (3, Iv x3), (4, Iv x4)] 58 [Iv s0] := by
    intro μ x1 x2 x3 x4 s0 hb
    unfold b_X3_workOn_58 at hb
    refine r_istore (pc := 58) (lv' := [(5, Iv s0), (0, Rv 5), (1, Iv x1), (2, Rv x2), (3, Iv x3), (4, Iv x4)]) F dX3_workOn_58 (by decide) rfl ?_
    refine r_iload (pc := 60) 0 F dX3_workOn_60 rfl ?_
    refine r_if_eq (pc := 62) (tgt := 83) F dX3_workOn_62 (by decide) (fun c_2 => ?_) (fun c_2 => ?_)
    · have hb := hb.1 c_2
      exact V.sub [1, 2, 3, 4, 5] rfl (K83 μ x1 x2 x3 x4 hb)
    · have hb := hb.2 c_2
      refine r_iload_n (pc := 65) 4 F dX3_workOn_65 rfl rfl ?_
      refine r_iconst (pc := 66) F dX3_workOn_66 (inR_lit rfl) ?_
      refine r_icmp_eq (pc := 67) (tgt := 80) F dX3_workOn_67 (by decide) (fun c_3 => ?_) (fun c_3 => ?_)
      · have hb := hb.1 c_3
        exact V.sub [1, 2, 3, 5] rfl (K80 μ x1 x2 x4 hb)
      · have hb := hb.2 c_3
        refine r_aload_n (pc := 70) 3 F dX3_workOn_70 rfl rfl ?_
        refine r_iload (pc := 71) 5 F dX3_workOn_71 rfl ?_
        have hg_4 := hb.1
        have hb := hb.2
        refine r_iald (pc := 73) F hg_4.1 hg_4.2.1 rfl hg_4.2.2 dX3_workOn_73 ?_
        refine r_aload_n (pc := 74) 3 F dX3_workOn_74 rfl rfl ?_
        refine r_iload_n (pc := 75) 4 F dX3_workOn_75 rfl rfl ?_
        have hg_5 := hb.1
        have hb := hb.2
        refine r_iald (pc := 76) F hg_5.1 hg_5.2.1 rfl hg_5.2.2 dX3_workOn_76 ?_
        refine r_icmp_ge (pc := 77) (tgt := 83) F dX3_workOn_77 (by decide) (fun c_6 => ?_) (fun c_6 => ?_)
        · have hb := hb.1 c_6
          exact V.sub [1, 2, 3, 4, 5] rfl (K83 μ x1 x2 x3 x4 hb)
        · have hb := hb.2 c_6
          exact V.sub [1, 2, 3, 5] rfl (K80 μ x1 x2 x4 hb)
  have K57 : ∀ (μ : Mem) (x1 : Int) (x2 : Nat) (x3 : Int) (x4 : Int), b_X3_workOn_57 G15 Post μ x1 x2 x3 x4 → V g X 6 μ [(0, Rv 5), (1, Iv x1), (2, Rv x2), (3, Iv x3), (4, Iv x4)] 57 [] := by
    intro μ x1 x2 x3 x4 hb
    unfold b_X3_workOn_57 at hb
    refine r_iconst (pc := 57) F dX3_workOn_57 (inR_lit rfl) ?_
    exact V.sub [0, 1, 2, 3, 4] rfl (K58 μ x1 x2 x3 x4 0 hb)
  have K15 : ∀ (μ : Mem) (x1 : Int) (x2 : Nat) (x3 : Int) (x4 : Int), b_X3_workOn_15 G15 Post μ x1 x2 x3 x4 → V g X 6 μ [(0, Rv 5), (1, Iv x1), (2, Rv x2), (3, Iv x3), (4, Iv x4)] 15 [] := by
    intro μ x1 x2 x3 x4 hb
    unfold b_X3_workOn_15 at hb
    refine r_iload (pc := 15) 4 F dX3_workOn_15 rfl ?_
    refine r_aload_n (pc := 17) 0 F dX3_workOn_17 rfl rfl ?_
    refine gf_RX3_15 (pc := 18) F dX3_workOn_18 ?_
    refine gf_RX3_22 (pc := 21) F dX3_workOn_21 ?_
    refine r_icmp_ge (pc := 24) (tgt := 89) F dX3_workOn_24 (by decide) (fun c_7 => ?_) (fun c_7 => ?_)
    · have hb := hb.1 c_7
      refine r_iload_n (pc := 89) 3 F dX3_workOn_89 rfl rfl ?_
      refine r_iconst (pc := 90) F dX3_workOn_90 (inR_lit rfl) ?_
      refine r_icmp_eq (pc := 91) (tgt := 104) F dX3_workOn_91 (by decide) (fun c_8 => ?_) (fun c_8 => ?_)
      · have hb := hb.1 c_8
        refine r_iload_n (pc := 104) 3 F dX3_workOn_104 rfl rfl ?_
        exact r_iret (pc := 105) F hR hr dX3_workOn_105 hb
      · have hb := hb.2 c_8
        refine r_aload_n (pc := 94) 0 F dX3_workOn_94 rfl rfl ?_
        refine gf_RX3_9 (pc := 95) F dX3_workOn_95 ?_
        refine r_iload_n (pc := 98) 3 F dX3_workOn_98 rfl rfl ?_
        refine r_dup2 (pc := 99) F dX3_workOn_99 rfl rfl ?_
        have hg_9 := hb.1
        have hb := hb.2
        refine r_iald (pc := 100) F lc81.1 lc81.2.1 lc81.2.2 hg_9 dX3_workOn_100 ?_
        refine r_iconst (pc := 101) F dX3_workOn_101 (inR_lit rfl) ?_
        refine r_isub (pc := 102) F dX3_workOn_102 ?_
        have hg_10 := hb.1
        have hb := hb.2
        refine r_iast (pc := 103) F lc81.1 lc81.2.1 lc81.2.2 hg_10 dX3_workOn_103 ?_
        refine V.nmM (fun μ_11 eμ_11 => ?_)
        have hb := hb μ_11 eμ_11
        refine r_iload_n (pc := 104) 3 F dX3_workOn_104 rfl rfl ?_
        exact r_iret (pc := 105) F hR hr dX3_workOn_105 hb
    · have hb := hb.2 c_7
      refine r_aload_n (pc := 27) 0 F dX3_workOn_27 rfl rfl ?_
      refine gf_RX3_9 (pc := 28) F dX3_workOn_28 ?_
      refine r_iload (pc := 31) 4 F dX3_workOn_31 rfl ?_
      have hg_12 := hb.1
      have hb := hb.2
      refine r_iald (pc := 33) F lc81.1 lc81.2.1 lc81.2.2 hg_12 dX3_workOn_33 ?_
      refine r_if_le (pc := 34) (tgt := 57) F dX3_workOn_34 (by decide) (fun c_13 => ?_) (fun c_13 => ?_)
      · have hb := hb.1 c_13
        exact V.sub [0, 1, 2, 3, 4] rfl (K57 μ x1 x2 x3 x4 hb)
      · have hb := hb.2 c_13
        refine r_aload_n (pc := 37) 0 F dX3_workOn_37 rfl rfl ?_
        refine gf_RX3_15 (pc := 38) F dX3_workOn_38 ?_
        refine gf_RX3_41 (pc := 41) F dX3_workOn_41 ?_
        refine r_iconst (pc := 44) F dX3_workOn_44 (inR_lit rfl) ?_
        refine r_aaldk (pc := 45) (e := 25) F (c := 12) (by decide) (by decide) rfl (by decide) ⟨by decide, by decide⟩ dX3_workOn_45 ?_
        refine r_iload (pc := 46) 4 F dX3_workOn_46 rfl ?_
        have hg_14 := hb.1
        have hb := hb.2
        refine r_iald (pc := 48) F lc25.1 lc25.2.1 lc25.2.2 hg_14 dX3_workOn_48 ?_
        refine r_iload_n (pc := 49) 1 F dX3_workOn_49 rfl rfl ?_
        refine r_icmp_gt (pc := 50) (tgt := 57) F dX3_workOn_50 (by decide) (fun c_15 => ?_) (fun c_15 => ?_)
        · have hb := hb.1 c_15
          exact V.sub [0, 1, 2, 3, 4] rfl (K57 μ x1 x2 x3 x4 hb)
        · have hb := hb.2 c_15
          refine r_iconst (pc := 53) F dX3_workOn_53 (inR_lit rfl) ?_
          refine r_goto (pc := 54) (tgt := 58) F dX3_workOn_54 (by decide) ?_
          exact V.sub [0, 1, 2, 3, 4] rfl (K58 μ x1 x2 x3 x4 1 hb)
  have hb := hb G15 (fun μ x1 x2 x3 x4 hb => f15 μ x1 x2 x3 x4 (K15 μ x1 x2 x3 x4 hb))
  unfold b_X3_workOn_e at hb
  refine r_aload_n (pc := 0) 0 F dX3_workOn_0 rfl rfl ?_
  refine gf_RX3_15 (pc := 1) F dX3_workOn_1 ?_
  refine gf_RX3_41 (pc := 4) F dX3_workOn_4 ?_
  refine r_iconst (pc := 7) F dX3_workOn_7 (inR_lit rfl) ?_
  refine r_aaldk (pc := 8) (e := 26) F (c := 12) (by decide) (by decide) rfl (by decide) ⟨by decide, by decide⟩ dX3_workOn_8 ?_
  refine r_astore_n (pc := 9) (lv' := [(2, Rv 26), (0, Rv 5), (1, Iv p0)]) F dX3_workOn_9 rfl (by decide) rfl ?_
  refine r_iconst (pc := 10) F dX3_workOn_10 (inR_lit rfl) ?_
  refine r_istore_n (pc := 11) (lv' := [(3, Iv (-1)), (2, Rv 26), (0, Rv 5), (1, Iv p0)]) F dX3_workOn_11 rfl (by decide) rfl ?_
  refine r_iconst (pc := 12) F dX3_workOn_12 (inR_lit rfl) ?_
  refine r_istore (pc := 13) (lv' := [(4, Iv 0), (3, Iv (-1)), (2, Rv 26), (0, Rv 5), (1, Iv p0)]) F dX3_workOn_13 (by decide) rfl ?_
  exact V.sub [3, 4, 2, 1, 0] rfl (g15 μ p0 26 (-1) 0 hb)
set_option maxHeartbeats 4000000 in
set_option maxRecDepth 100000 in
theorem c_X3_greatestLate {g : Wc} {l : Launch} (μ : Mem) (Post : Pst) (hb : wp_X3_greatestLate μ Post) : MtC g l yX3_greatestLate cX3_greatestLate 5 (some .int) 2 [Rv 5] μ (QI g Post) := by
  intro hok
  refine enter (own := RX3) (by decide) rfl (Nat.le_of_ble_eq_true rfl) hok (fun X hl F hr hR => ?_)
  subst hl
  show V g X 5 μ [(0, Rv 5)] 0 []
  unfold wp_X3_greatestLate at hb
  obtain ⟨G16, g16, f16⟩ : ∃ G : Mem → Int → Int → Int → Prop, (∀ μ x1 x2 x3, G μ x1 x2 x3 → V g X 5 μ [(0, Rv 5), (1, Iv x1), (2, Iv x2), (3, Iv x3)] 16 []) ∧ (∀ μ x1 x2 x3, V g X 5 μ [(0, Rv 5), (1, Iv x1), (2, Iv x2), (3, Iv x3)] 16 [] → G μ x1 x2 x3) := ⟨fun μ x1 x2 x3 => V g X 5 μ [(0, Rv 5), (1, Iv x1), (2, Iv x2), (3, Iv x3)] 16 [], fun _ _ _ _ h => h, fun _ _ _ _ h => h⟩
  have K70 : ∀ (μ : Mem) (x1 : Int) (x2 : Int) (x3 : Int), b_X3_greatestLate_70 G16 Post μ x1 x2 x3 → V g X 5 μ [(0, Rv 5), (1, Iv x1), (2, Iv x2), (3, Iv x3)] 70 [] := by
    intro μ x1 x2 x3 hb
    unfold b_X3_greatestLate_70 at hb
    refine r_iincN (pc := 70) 3 (lf := fun x_1 => [(3, Iv x_1), (0, Rv 5), (1, Iv x1), (2, Iv x2)]) F dX3_greatestLate_70 rfl (by decide) rfl (fun x_1 ex_1 => ?_)
    have hb := hb x_1 ex_1
    refine r_goto (pc := 73) (tgt := 16) F dX3_greatestLate_73 (by decide) ?_
    exact V.sub [1, 2, 3, 0] rfl (g16 μ x1 x2 x_1 hb)
  have K16 : ∀ (μ : Mem) (x1 : Int) (x2 : Int) (x3 : Int), b_X3_greatestLate_16 G16 Post μ x1 x2 x3 → V g X 5 μ [(0, Rv 5), (1, Iv x1), (2, Iv x2), (3, Iv x3)] 16 [] := by
    intro μ x1 x2 x3 hb
    unfold b_X3_greatestLate_16 at hb
    refine r_iload_n (pc := 16) 3 F dX3_greatestLate_16 rfl rfl ?_
    refine r_sipush (pc := 17) F dX3_greatestLate_17 (inR_lit rfl) (by decide) ?_
    refine r_icmp_gt (pc := 20) (tgt := 76) F dX3_greatestLate_20 (by decide) (fun c_2 => ?_) (fun c_2 => ?_)
    · have hb := hb.1 c_2
      refine r_iload_n (pc := 76) 1 F dX3_greatestLate_76 rfl rfl ?_
      exact r_iret (pc := 77) F hR hr dX3_greatestLate_77 hb
    · have hb := hb.2 c_2
      refine r_iload_n (pc := 23) 2 F dX3_greatestLate_23 rfl rfl ?_
      refine r_if_le (pc := 24) (tgt := 76) F dX3_greatestLate_24 (by decide) (fun c_3 => ?_) (fun c_3 => ?_)
      · have hb := hb.1 c_3
        refine r_iload_n (pc := 76) 1 F dX3_greatestLate_76 rfl rfl ?_
        exact r_iret (pc := 77) F hR hr dX3_greatestLate_77 hb
      · have hb := hb.2 c_3
        refine r_aload_n (pc := 27) 0 F dX3_greatestLate_27 rfl rfl ?_
        refine r_iload_n (pc := 28) 3 F dX3_greatestLate_28 rfl rfl ?_
        refine r_callI (pc := 29) (avs := [Iv x3]) (st := []) F (c_X3_workOn μ x3 _ hb) (by decide) cal_X3_workOn calv_X3_workOn lk_RX3_28 rfl rfl (Nat.le_of_ble_eq_true rfl) dX3_greatestLate_29 (fun r_4 μ_5 hb => ?_)
        refine r_istore (pc := 32) (lv' := [(4, Iv r_4), (0, Rv 5), (1, Iv x1), (2, Iv x2), (3, Iv x3)]) F dX3_greatestLate_32 (by decide) rfl ?_
        refine r_iload (pc := 34) 0 F dX3_greatestLate_34 rfl ?_
        refine r_iconst (pc := 36) F dX3_greatestLate_36 (inR_lit rfl) ?_
        refine r_icmp_eq (pc := 37) (tgt := 70) F dX3_greatestLate_37 (by decide) (fun c_6 => ?_) (fun c_6 => ?_)
        · have hb := hb.1 c_6
          exact V.sub [1, 2, 3, 4] rfl (K70 μ_5 x1 x2 x3 hb)
        · have hb := hb.2 c_6
          refine r_aload_n (pc := 40) 1 F dX3_greatestLate_40 rfl rfl ?_
          refine gf_RX3_9 (pc := 41) F dX3_greatestLate_41 ?_
          refine r_iload (pc := 44) 0 F dX3_greatestLate_44 rfl ?_
          have hg_7 := hb.1
          have hb := hb.2
          refine r_iald (pc := 46) F lc81.1 lc81.2.1 lc81.2.2 hg_7 dX3_greatestLate_46 ?_
          refine r_if_ne (pc := 47) (tgt := 70) F dX3_greatestLate_47 (by decide) (fun c_8 => ?_) (fun c_8 => ?_)
          · have hb := hb.1 c_8
            exact V.sub [1, 2, 3, 4] rfl (K70 μ_5 x1 x2 x3 hb)
          · have hb := hb.2 c_8
            refine r_iload_n (pc := 50) 2 F dX3_greatestLate_50 rfl rfl ?_
            refine r_aload_n (pc := 51) 1 F dX3_greatestLate_51 rfl rfl ?_
            refine gf_RX3_15 (pc := 52) F dX3_greatestLate_52 ?_
            refine r_iload (pc := 55) 0 F dX3_greatestLate_55 rfl ?_
            refine r_iload_n (pc := 57) 4 F dX3_greatestLate_57 rfl rfl ?_
            refine r_iconst (pc := 58) F dX3_greatestLate_58 (inR_lit rfl) ?_
            refine r_iadd (pc := 59) F dX3_greatestLate_59 ?_
            refine r_callI (pc := 60) (avs := [Iv r_4, Iv (wrap (x3 + 1))]) (st := [Iv x1]) F (c_X9_late μ_5 r_4 (wrap (x3 + 1)) _ hb) (by decide) cal_X9_late calv_X9_late lk_RX3_32 rfl rfl (Nat.le_of_ble_eq_true rfl) dX3_greatestLate_60 (fun r_9 μ_10 hb => ?_)
            refine r_max (pc := 63) F (by first | decide | omega) lk_RX3_36 km_max.1 km_max.2.1 km_max.2.2 (Nat.le_of_ble_eq_true rfl) dX3_greatestLate_63 ?_
            refine V.nmI (fun x_11 ex_11 => ?_)
            have hb := hb x_11 ex_11
            refine r_istore_n (pc := 66) (lv' := [(1, Iv x_11), (4, Iv r_4), (0, Rv 5), (2, Iv x2), (3, Iv x3)]) F dX3_greatestLate_66 rfl (by decide) rfl ?_
            refine r_iincN (pc := 67) 3 (lf := fun x_12 => [(2, Iv x_12), (1, Iv x_11), (4, Iv r_4), (0, Rv 5), (3, Iv x3)]) F dX3_greatestLate_67 rfl (by decide) rfl (fun x_12 ex_12 => ?_)
            have hb := hb x_12 ex_12
            exact V.sub [3, 1, 0, 4] rfl (K70 μ_10 x_11 x_12 x3 hb)
  have hb := hb G16 (fun μ x1 x2 x3 hb => f16 μ x1 x2 x3 (K16 μ x1 x2 x3 hb))
  unfold b_X3_greatestLate_e at hb
  refine r_aload_n (pc := 0) 0 F dX3_greatestLate_0 rfl rfl ?_
  refine r_callV (pc := 1) (avs := []) (st := []) F (c_X3_begin μ _ hb) (by decide) cal_X3_begin calv_X3_begin lk_RX3_19 rfl rfl (Nat.le_of_ble_eq_true rfl) dX3_greatestLate_1 (fun μ_14 hb => ?_)
  refine r_iconst (pc := 4) F dX3_greatestLate_4 (inR_lit rfl) ?_
  refine r_istore_n (pc := 5) (lv' := [(1, Iv 0), (0, Rv 5)]) F dX3_greatestLate_5 rfl (by decide) rfl ?_
  refine r_aload_n (pc := 6) 1 F dX3_greatestLate_6 rfl rfl ?_
  refine gf_RX3_15 (pc := 7) F dX3_greatestLate_7 ?_
  refine gf_RX3_22 (pc := 10) F dX3_greatestLate_10 ?_
  refine V.nmI (fun x_15 ex_15 => ?_)
  have hb := hb x_15 ex_15
  refine r_istore_n (pc := 13) (lv' := [(2, Iv x_15), (1, Iv 0), (0, Rv 5)]) F dX3_greatestLate_13 rfl (by decide) rfl ?_
  refine r_iconst (pc := 14) F dX3_greatestLate_14 (inR_lit rfl) ?_
  refine r_istore_n (pc := 15) (lv' := [(3, Iv 0), (2, Iv x_15), (1, Iv 0), (0, Rv 5)]) F dX3_greatestLate_15 rfl (by decide) rfl ?_
  exact V.sub [3, 2, 1, 0] rfl (g16 μ_14 0 x_15 0 hb)
set_option maxHeartbeats 4000000 in
set_option maxRecDepth 100000 in
theorem c_X10_broken {g : Wc} {l : Launch} (μ : Mem) (p0 : Int) (Post : Pst) (hb : wp_X10_broken μ p0 Post) : MtC g l yX10_broken cX10_broken 3 (some .int) 3 [Rv 0, Iv p0] μ (QI g Post) := by
  intro hok
  refine enter (own := RX10) (by decide) rfl (Nat.le_of_ble_eq_true rfl) hok (fun X hl F hr hR => ?_)
  subst hl
  show V g X 3 μ [(0, Rv 0), (1, Iv p0)] 0 []
  unfold wp_X10_broken at hb
  have hb := hb
  unfold b_X10_broken_e at hb
  refine r_iload_n (pc := 0) 1 F dX10_broken_0 rfl rfl ?_
  refine r_iconst (pc := 1) F dX10_broken_1 (inR_lit rfl) ?_
  refine r_iconst (pc := 2) F dX10_broken_2 (inR_lit rfl) ?_
  refine r_callSI (pc := 3) (avs := [Iv p0, Iv 0, Iv 2]) (st := []) F (c_X10_isFrom μ p0 0 2 _ hb) (by decide) cal_X10_isFrom st_X10_isFrom lk_RX10_90 rfl rfl (Nat.le_of_ble_eq_true rfl) dX10_broken_3 (fun r_1 μ_2 hb => ?_)
  refine r_if_ne (pc := 6) (tgt := 12) F dX10_broken_6 (by decide) (fun c_3 => ?_) (fun c_3 => ?_)
  · have hb := hb.1 c_3
    refine r_aload_n (pc := 12) 0 F dX10_broken_12 rfl rfl ?_
    refine gf_RX10_42 (pc := 13) F dX10_broken_13 ?_
    refine r_callI (pc := 16) (avs := []) (st := []) F (c_X3_greatestLate μ_2 _ hb) (by decide) cal_X3_greatestLate calv_X3_greatestLate lk_RX10_145 rfl rfl (Nat.le_of_ble_eq_true rfl) dX10_broken_16 (fun r_4 μ_5 hb => ?_)
    refine r_istore_n (pc := 19) (lv' := [(2, Iv r_4), (0, Rv 0), (1, Iv p0)]) F dX10_broken_19 rfl (by decide) rfl ?_
    refine r_iload_n (pc := 20) 2 F dX10_broken_20 rfl rfl ?_
    refine r_if_ne (pc := 21) (tgt := 26) F dX10_broken_21 (by decide) (fun c_6 => ?_) (fun c_6 => ?_)
    · have hb := hb.1 c_6
      refine r_iload_n (pc := 26) 0 F dX10_broken_26 rfl rfl ?_
      refine r_if_ne (pc := 27) (tgt := 32) F dX10_broken_27 (by decide) (fun c_7 => ?_) (fun c_7 => ?_)
      · have hb := hb.1 c_7
        refine r_aload_n (pc := 32) 1 F dX10_broken_32 rfl rfl ?_
        refine gf_RX10_42 (pc := 33) F dX10_broken_33 ?_
        refine r_callV (pc := 36) (avs := []) (st := []) F (c_X3_findWhy μ_5 _ hb) (by decide) cal_X3_findWhy calv_X3_findWhy lk_RX10_147 rfl rfl (Nat.le_of_ble_eq_true rfl) dX10_broken_36 (fun μ_9 hb => ?_)
        refine r_iload_n (pc := 39) 2 F dX10_broken_39 rfl rfl ?_
        refine r_iconst (pc := 40) F dX10_broken_40 (inR_lit rfl) ?_
        refine r_icmp_ne (pc := 41) (tgt := 54) F dX10_broken_41 (by decide) (fun c_10 => ?_) (fun c_10 => ?_)
        · have hb := hb.1 c_10
          refine r_aload_n (pc := 54) 1 F dX10_broken_54 rfl rfl ?_
          refine gf_RX10_42 (pc := 55) F dX10_broken_55 ?_
          refine gf_RX10_153 (pc := 58) F dX10_broken_58 ?_
          exact r_iret (pc := 61) F hR hr dX10_broken_61 hb
        · have hb := hb.2 c_10
          refine r_aload_n (pc := 44) 1 F dX10_broken_44 rfl rfl ?_
          refine gf_RX10_42 (pc := 45) F dX10_broken_45 ?_
          refine gf_RX10_150 (pc := 48) F dX10_broken_48 ?_
          refine r_goto (pc := 51) (tgt := 61) F dX10_broken_51 (by decide) ?_
          exact r_iret (pc := 61) F hR hr dX10_broken_61 hb
      · have hb := hb.2 c_7
        refine r_iconst (pc := 30) F dX10_broken_30 (inR_lit rfl) ?_
        exact r_iret (pc := 31) F hR hr dX10_broken_31 hb
    · have hb := hb.2 c_6
      refine r_iload_n (pc := 24) 0 F dX10_broken_24 rfl rfl ?_
      exact r_iret (pc := 25) F hR hr dX10_broken_25 hb
  · have hb := hb.2 c_3
    refine r_bipush (pc := 9) F dX10_broken_9 (inR_lit rfl) (by decide) ?_
    exact r_iret (pc := 11) F hR hr dX10_broken_11 hb
set_option maxHeartbeats 4000000 in
set_option maxRecDepth 100000 in
theorem c_X5_lastEnd {g : Wc} {l : Launch} (μ : Mem) (Post : Pst) (hb : wp_X5_lastEnd μ Post) : MtC g l yX5_lastEnd cX5_lastEnd 4 (some .int) 1 [Rv 8] μ (QI g Post) := by
  intro hok
  refine enter (own := RX5) (by decide) rfl (Nat.le_of_ble_eq_true rfl) hok (fun X hl F hr hR => ?_)
  subst hl
  show V g X 4 μ [(0, Rv 8)] 0 []
  unfold wp_X5_lastEnd at hb
  obtain ⟨G6, g6, f6⟩ : ∃ G : Mem → Int → Int → Int → Prop, (∀ μ x1 x2 x3, G μ x1 x2 x3 → V g X 4 μ [(0, Rv 8), (1, Iv x1), (2, Iv x2), (3, Iv x3)] 6 []) ∧ (∀ μ x1 x2 x3, V g X 4 μ [(0, Rv 8), (1, Iv x1), (2, Iv x2), (3, Iv x3)] 6 [] → G μ x1 x2 x3) := ⟨fun μ x1 x2 x3 => V g X 4 μ [(0, Rv 8), (1, Iv x1), (2, Iv x2), (3, Iv x3)] 6 [], fun _ _ _ _ h => h, fun _ _ _ _ h => h⟩
  have K6 : ∀ (μ : Mem) (x1 : Int) (x2 : Int) (x3 : Int), b_X5_lastEnd_6 G6 Post μ x1 x2 x3 → V g X 4 μ [(0, Rv 8), (1, Iv x1), (2, Iv x2), (3, Iv x3)] 6 [] := by
    intro μ x1 x2 x3 hb
    unfold b_X5_lastEnd_6 at hb
    refine r_iload_n (pc := 6) 3 F dX5_lastEnd_6 rfl rfl ?_
    refine r_aload_n (pc := 7) 0 F dX5_lastEnd_7 rfl rfl ?_
    refine gf_RX5_15 (pc := 8) F dX5_lastEnd_8 ?_
    refine gf_RX5_19 (pc := 11) F dX5_lastEnd_11 ?_
    refine r_icmp_ge (pc := 14) (tgt := 65) F dX5_lastEnd_14 (by decide) (fun c_1 => ?_) (fun c_1 => ?_)
    · have hb := hb.1 c_1
      refine r_iload_n (pc := 65) 2 F dX5_lastEnd_65 rfl rfl ?_
      exact r_iret (pc := 66) F hR hr dX5_lastEnd_66 hb
    · have hb := hb.2 c_1
      refine r_iload_n (pc := 17) 1 F dX5_lastEnd_17 rfl rfl ?_
      refine r_aload_n (pc := 18) 0 F dX5_lastEnd_18 rfl rfl ?_
      refine gf_RX5_15 (pc := 19) F dX5_lastEnd_19 ?_
      refine gf_RX5_33 (pc := 22) F dX5_lastEnd_22 ?_
      refine r_aload_n (pc := 25) 0 F dX5_lastEnd_25 rfl rfl ?_
      refine gf_RX5_9 (pc := 26) F dX5_lastEnd_26 ?_
      refine r_iload_n (pc := 29) 3 F dX5_lastEnd_29 rfl rfl ?_
      have hg_2 := hb.1
      have hb := hb.2
      refine r_iald (pc := 30) F lc85.1 lc85.2.1 lc85.2.2 hg_2 dX5_lastEnd_30 ?_
      have hg_3 := hb.1
      have hb := hb.2
      refine r_aald (pc := 31) (n := 8) (d := 32) F (c := 14) (by decide) (by decide) rfl hg_3 dX5_lastEnd_31 ?_
      refine r_iconst (pc := 32) F dX5_lastEnd_32 (inR_lit rfl) ?_
      refine r_ialdk (pc := 33) (k := 0) F (lr14 hg_3).1 (lr14 hg_3).2.1 (lr14 hg_3).2.2 rfl ⟨by decide, by decide⟩ dX5_lastEnd_33 ?_
      refine r_iadd (pc := 34) F dX5_lastEnd_34 ?_
      refine V.nmI (fun x_4 ex_4 => ?_)
      have hb := hb x_4 ex_4
      refine r_istore_n (pc := 35) (lv' := [(1, Iv x_4), (0, Rv 8), (2, Iv x2), (3, Iv x3)]) F dX5_lastEnd_35 rfl (by decide) rfl ?_
      refine r_iload_n (pc := 36) 0 F dX5_lastEnd_36 rfl rfl ?_
      refine r_iload_n (pc := 37) 2 F dX5_lastEnd_37 rfl rfl ?_
      refine r_max (pc := 38) F (by first | decide | omega) lk_RX5_37 km_max.1 km_max.2.1 km_max.2.2 (Nat.le_of_ble_eq_true rfl) dX5_lastEnd_38 ?_
      refine r_aload_n (pc := 41) 1 F dX5_lastEnd_41 rfl rfl ?_
      refine gf_RX5_15 (pc := 42) F dX5_lastEnd_42 ?_
      refine gf_RX5_33 (pc := 45) F dX5_lastEnd_45 ?_
      refine r_aload_n (pc := 48) 1 F dX5_lastEnd_48 rfl rfl ?_
      refine gf_RX5_9 (pc := 49) F dX5_lastEnd_49 ?_
      refine r_iload_n (pc := 52) 3 F dX5_lastEnd_52 rfl rfl ?_
      have hg_5 := hb.1
      have hb := hb.2
      refine r_iald (pc := 53) F lc85.1 lc85.2.1 lc85.2.2 hg_5 dX5_lastEnd_53 ?_
      have hg_6 := hb.1
      have hb := hb.2
      refine r_aald (pc := 54) (n := 8) (d := 32) F (c := 14) (by decide) (by decide) rfl hg_6 dX5_lastEnd_54 ?_
      refine r_iconst (pc := 55) F dX5_lastEnd_55 (inR_lit rfl) ?_
      refine r_ialdk (pc := 56) (k := 1) F (lr14 hg_6).1 (lr14 hg_6).2.1 (lr14 hg_6).2.2 rfl ⟨by decide, by decide⟩ dX5_lastEnd_56 ?_
      refine r_iadd (pc := 57) F dX5_lastEnd_57 ?_
      refine V.nmI (fun x_7 ex_7 => ?_)
      have hb := hb x_7 ex_7
      refine r_istore_n (pc := 58) (lv' := [(2, Iv x_7), (1, Iv x_4), (0, Rv 8), (3, Iv x3)]) F dX5_lastEnd_58 rfl (by decide) rfl ?_
      refine r_iincN (pc := 59) 3 (lf := fun x_8 => [(3, Iv x_8), (2, Iv x_7), (1, Iv x_4), (0, Rv 8)]) F dX5_lastEnd_59 rfl (by decide) rfl (fun x_8 ex_8 => ?_)
      have hb := hb x_8 ex_8
      refine r_goto (pc := 62) (tgt := 6) F dX5_lastEnd_62 (by decide) ?_
      exact V.sub [3, 2, 1, 0] rfl (g6 μ x_4 x_7 x_8 hb)
  have hb := hb G6 (fun μ x1 x2 x3 hb => f6 μ x1 x2 x3 (K6 μ x1 x2 x3 hb))
  unfold b_X5_lastEnd_e at hb
  refine r_iconst (pc := 0) F dX5_lastEnd_0 (inR_lit rfl) ?_
  refine r_istore_n (pc := 1) (lv' := [(1, Iv 0), (0, Rv 8)]) F dX5_lastEnd_1 rfl (by decide) rfl ?_
  refine r_iconst (pc := 2) F dX5_lastEnd_2 (inR_lit rfl) ?_
  refine r_istore_n (pc := 3) (lv' := [(2, Iv 0), (1, Iv 0), (0, Rv 8)]) F dX5_lastEnd_3 rfl (by decide) rfl ?_
  refine r_iconst (pc := 4) F dX5_lastEnd_4 (inR_lit rfl) ?_
  refine r_istore_n (pc := 5) (lv' := [(3, Iv 0), (2, Iv 0), (1, Iv 0), (0, Rv 8)]) F dX5_lastEnd_5 rfl (by decide) rfl ?_
  exact V.sub [3, 2, 1, 0] rfl (g6 μ 0 0 0 hb)
set_option maxHeartbeats 4000000 in
set_option maxRecDepth 100000 in
theorem c_X5_isShorterFirst {g : Wc} {l : Launch} (μ : Mem) (p0 : Int) (Post : Pst) (hb : wp_X5_isShorterFirst μ p0 Post) : MtC g l yX5_isShorterFirst cX5_isShorterFirst 2 (some .boolean) 0 [Rv 8, Iv p0] μ (QI g Post) := by
  intro hok
  refine enter (own := RX5) (by decide) rfl (Nat.le_of_ble_eq_true rfl) hok (fun X hl F hr hR => ?_)
  subst hl
  show V g X 2 μ [(0, Rv 8), (1, Iv p0)] 0 []
  unfold wp_X5_isShorterFirst at hb
  have hb := hb
  unfold b_X5_isShorterFirst_e at hb
  refine r_aload_n (pc := 0) 0 F dX5_isShorterFirst_0 rfl rfl ?_
  refine gf_RX5_15 (pc := 1) F dX5_isShorterFirst_1 ?_
  refine gf_RX5_33 (pc := 4) F dX5_isShorterFirst_4 ?_
  refine r_iload_n (pc := 7) 1 F dX5_isShorterFirst_7 rfl rfl ?_
  have hg_1 := hb.1
  have hb := hb.2
  refine r_aald (pc := 8) (n := 8) (d := 32) F (c := 14) (by decide) (by decide) rfl hg_1 dX5_isShorterFirst_8 ?_
  refine r_iconst (pc := 9) F dX5_isShorterFirst_9 (inR_lit rfl) ?_
  refine r_ialdk (pc := 10) (k := 0) F (lr14 hg_1).1 (lr14 hg_1).2.1 (lr14 hg_1).2.2 rfl ⟨by decide, by decide⟩ dX5_isShorterFirst_10 ?_
  refine r_aload_n (pc := 11) 0 F dX5_isShorterFirst_11 rfl rfl ?_
  refine gf_RX5_15 (pc := 12) F dX5_isShorterFirst_12 ?_
  refine gf_RX5_33 (pc := 15) F dX5_isShorterFirst_15 ?_
  refine r_iload_n (pc := 18) 1 F dX5_isShorterFirst_18 rfl rfl ?_
  have hg_2 := hb.1
  have hb := hb.2
  refine r_aald (pc := 19) (n := 8) (d := 32) F (c := 14) (by decide) (by decide) rfl hg_2 dX5_isShorterFirst_19 ?_
  refine r_iconst (pc := 20) F dX5_isShorterFirst_20 (inR_lit rfl) ?_
  refine r_ialdk (pc := 21) (k := 1) F (lr14 hg_2).1 (lr14 hg_2).2.1 (lr14 hg_2).2.2 rfl ⟨by decide, by decide⟩ dX5_isShorterFirst_21 ?_
  refine r_icmp_ge (pc := 22) (tgt := 29) F dX5_isShorterFirst_22 (by decide) (fun c_3 => ?_) (fun c_3 => ?_)
  · have hb := hb.1 c_3
    refine r_iconst (pc := 29) F dX5_isShorterFirst_29 (inR_lit rfl) ?_
    exact r_zret (pc := 30) F hR hr dX5_isShorterFirst_30 (Or.inl rfl) hb
  · have hb := hb.2 c_3
    refine r_iconst (pc := 25) F dX5_isShorterFirst_25 (inR_lit rfl) ?_
    refine r_goto (pc := 26) (tgt := 30) F dX5_isShorterFirst_26 (by decide) ?_
    exact r_zret (pc := 30) F hR hr dX5_isShorterFirst_30 (Or.inr rfl) hb
set_option maxHeartbeats 4000000 in
set_option maxRecDepth 100000 in
theorem c_X5_goesAhead {g : Wc} {l : Launch} (μ : Mem) (p0 : Int) (p1 : Int) (Post : Pst) (hb : wp_X5_goesAhead μ p0 p1 Post) : MtC g l yX5_goesAhead cX5_goesAhead 3 (some .boolean) 1 [Rv 8, Iv p0, Iv p1] μ (QI g Post) := by
  intro hok
  refine enter (own := RX5) (by decide) rfl (Nat.le_of_ble_eq_true rfl) hok (fun X hl F hr hR => ?_)
  subst hl
  show V g X 3 μ [(0, Rv 8), (1, Iv p0), (2, Iv p1)] 0 []
  unfold wp_X5_goesAhead at hb
  have hb := hb
  unfold b_X5_goesAhead_e at hb
  refine r_aload_n (pc := 0) 0 F dX5_goesAhead_0 rfl rfl ?_
  refine r_iload_n (pc := 1) 1 F dX5_goesAhead_1 rfl rfl ?_
  refine r_callI (pc := 2) (avs := [Iv p0]) (st := []) F (c_X5_isShorterFirst μ p0 _ hb) (by decide) cal_X5_isShorterFirst calv_X5_isShorterFirst lk_RX5_29 rfl rfl (Nat.le_of_ble_eq_true rfl) dX5_goesAhead_2 (fun r_1 μ_2 hb => ?_)
  refine r_aload_n (pc := 5) 0 F dX5_goesAhead_5 rfl rfl ?_
  refine r_iload_n (pc := 6) 2 F dX5_goesAhead_6 rfl rfl ?_
  refine r_callI (pc := 7) (avs := [Iv p1]) (st := [Iv r_1]) F (c_X5_isShorterFirst μ_2 p1 _ hb) (by decide) cal_X5_isShorterFirst calv_X5_isShorterFirst lk_RX5_29 rfl rfl (Nat.le_of_ble_eq_true rfl) dX5_goesAhead_7 (fun r_3 μ_4 hb => ?_)
  refine r_icmp_eq (pc := 10) (tgt := 19) F dX5_goesAhead_10 (by decide) (fun c_5 => ?_) (fun c_5 => ?_)
  · have hb := hb.1 c_5
    refine r_aload_n (pc := 19) 0 F dX5_goesAhead_19 rfl rfl ?_
    refine r_iload_n (pc := 20) 1 F dX5_goesAhead_20 rfl rfl ?_
    refine r_callI (pc := 21) (avs := [Iv p0]) (st := []) F (c_X5_isShorterFirst μ_4 p0 _ hb) (by decide) cal_X5_isShorterFirst calv_X5_isShorterFirst lk_RX5_29 rfl rfl (Nat.le_of_ble_eq_true rfl) dX5_goesAhead_21 (fun r_6 μ_7 hb => ?_)
    refine r_if_eq (pc := 24) (tgt := 60) F dX5_goesAhead_24 (by decide) (fun c_8 => ?_) (fun c_8 => ?_)
    · have hb := hb.1 c_8
      refine r_aload_n (pc := 60) 0 F dX5_goesAhead_60 rfl rfl ?_
      refine gf_RX5_15 (pc := 61) F dX5_goesAhead_61 ?_
      refine gf_RX5_33 (pc := 64) F dX5_goesAhead_64 ?_
      refine r_iload_n (pc := 67) 1 F dX5_goesAhead_67 rfl rfl ?_
      have hg_9 := hb.1
      have hb := hb.2
      refine r_aald (pc := 68) (n := 8) (d := 32) F (c := 14) (by decide) (by decide) rfl hg_9 dX5_goesAhead_68 ?_
      refine r_iconst (pc := 69) F dX5_goesAhead_69 (inR_lit rfl) ?_
      refine r_ialdk (pc := 70) (k := 1) F (lr14 hg_9).1 (lr14 hg_9).2.1 (lr14 hg_9).2.2 rfl ⟨by decide, by decide⟩ dX5_goesAhead_70 ?_
      refine r_aload_n (pc := 71) 0 F dX5_goesAhead_71 rfl rfl ?_
      refine gf_RX5_15 (pc := 72) F dX5_goesAhead_72 ?_
      refine gf_RX5_33 (pc := 75) F dX5_goesAhead_75 ?_
      refine r_iload_n (pc := 78) 2 F dX5_goesAhead_78 rfl rfl ?_
      have hg_10 := hb.1
      have hb := hb.2
      refine r_aald (pc := 79) (n := 8) (d := 32) F (c := 14) (by decide) (by decide) rfl hg_10 dX5_goesAhead_79 ?_
      refine r_iconst (pc := 80) F dX5_goesAhead_80 (inR_lit rfl) ?_
      refine r_ialdk (pc := 81) (k := 1) F (lr14 hg_10).1 (lr14 hg_10).2.1 (lr14 hg_10).2.2 rfl ⟨by decide, by decide⟩ dX5_goesAhead_81 ?_
      refine r_icmp_le (pc := 82) (tgt := 89) F dX5_goesAhead_82 (by decide) (fun c_11 => ?_) (fun c_11 => ?_)
      · have hb := hb.1 c_11
        refine r_iconst (pc := 89) F dX5_goesAhead_89 (inR_lit rfl) ?_
        exact r_zret (pc := 90) F hR hr dX5_goesAhead_90 (Or.inl rfl) hb
      · have hb := hb.2 c_11
        refine r_iconst (pc := 85) F dX5_goesAhead_85 (inR_lit rfl) ?_
        refine r_goto (pc := 86) (tgt := 90) F dX5_goesAhead_86 (by decide) ?_
        exact r_zret (pc := 90) F hR hr dX5_goesAhead_90 (Or.inr rfl) hb
    · have hb := hb.2 c_8
      refine r_aload_n (pc := 27) 0 F dX5_goesAhead_27 rfl rfl ?_
      refine gf_RX5_15 (pc := 28) F dX5_goesAhead_28 ?_
      refine gf_RX5_33 (pc := 31) F dX5_goesAhead_31 ?_
      refine r_iload_n (pc := 34) 1 F dX5_goesAhead_34 rfl rfl ?_
      have hg_12 := hb.1
      have hb := hb.2
      refine r_aald (pc := 35) (n := 8) (d := 32) F (c := 14) (by decide) (by decide) rfl hg_12 dX5_goesAhead_35 ?_
      refine r_iconst (pc := 36) F dX5_goesAhead_36 (inR_lit rfl) ?_
      refine r_ialdk (pc := 37) (k := 0) F (lr14 hg_12).1 (lr14 hg_12).2.1 (lr14 hg_12).2.2 rfl ⟨by decide, by decide⟩ dX5_goesAhead_37 ?_
      refine r_aload_n (pc := 38) 0 F dX5_goesAhead_38 rfl rfl ?_
      refine gf_RX5_15 (pc := 39) F dX5_goesAhead_39 ?_
      refine gf_RX5_33 (pc := 42) F dX5_goesAhead_42 ?_
      refine r_iload_n (pc := 45) 2 F dX5_goesAhead_45 rfl rfl ?_
      have hg_13 := hb.1
      have hb := hb.2
      refine r_aald (pc := 46) (n := 8) (d := 32) F (c := 14) (by decide) (by decide) rfl hg_13 dX5_goesAhead_46 ?_
      refine r_iconst (pc := 47) F dX5_goesAhead_47 (inR_lit rfl) ?_
      refine r_ialdk (pc := 48) (k := 0) F (lr14 hg_13).1 (lr14 hg_13).2.1 (lr14 hg_13).2.2 rfl ⟨by decide, by decide⟩ dX5_goesAhead_48 ?_
      refine r_icmp_ge (pc := 49) (tgt := 56) F dX5_goesAhead_49 (by decide) (fun c_14 => ?_) (fun c_14 => ?_)
      · have hb := hb.1 c_14
        refine r_iconst (pc := 56) F dX5_goesAhead_56 (inR_lit rfl) ?_
        refine r_goto (pc := 57) (tgt := 90) F dX5_goesAhead_57 (by decide) ?_
        exact r_zret (pc := 90) F hR hr dX5_goesAhead_90 (Or.inl rfl) hb
      · have hb := hb.2 c_14
        refine r_iconst (pc := 52) F dX5_goesAhead_52 (inR_lit rfl) ?_
        refine r_goto (pc := 53) (tgt := 90) F dX5_goesAhead_53 (by decide) ?_
        exact r_zret (pc := 90) F hR hr dX5_goesAhead_90 (Or.inr rfl) hb
  · have hb := hb.2 c_5
    refine r_aload_n (pc := 13) 0 F dX5_goesAhead_13 rfl rfl ?_
    refine r_iload_n (pc := 14) 1 F dX5_goesAhead_14 rfl rfl ?_
    refine r_callI (pc := 15) (avs := [Iv p0]) (st := []) F (c_X5_isShorterFirst μ_4 p0 _ hb) (by decide) cal_X5_isShorterFirst calv_X5_isShorterFirst lk_RX5_29 rfl rfl (Nat.le_of_ble_eq_true rfl) dX5_goesAhead_15 (fun r_15 μ_16 hb => ?_)
    exact r_zret (pc := 18) F hR hr dX5_goesAhead_18 hb.1 hb.2
set_option maxHeartbeats 4000000 in
set_option maxRecDepth 100000 in
theorem c_X5_putInOrder {g : Wc} {l : Launch} (μ : Mem) (Post : Pst) (hb : wp_X5_putInOrder μ Post) : MtC g l yX5_putInOrder cX5_putInOrder 3 none 2 [Rv 8] μ (QV g Post) := by
  intro hok
  refine enter (own := RX5) (by decide) rfl (Nat.le_of_ble_eq_true rfl) hok (fun X hl F hr hR => ?_)
  subst hl
  show V g X 3 μ [(0, Rv 8)] 0 []
  unfold wp_X5_putInOrder at hb
  obtain ⟨G2, g2, f2⟩ : ∃ G : Mem → Int → Prop, (∀ μ x1, G μ x1 → V g X 3 μ [(0, Rv 8), (1, Iv x1)] 2 []) ∧ (∀ μ x1, V g X 3 μ [(0, Rv 8), (1, Iv x1)] 2 [] → G μ x1) := ⟨fun μ x1 => V g X 3 μ [(0, Rv 8), (1, Iv x1)] 2 [], fun _ _ h => h, fun _ _ h => h⟩
  obtain ⟨G15, g15, f15⟩ : ∃ G : Mem → Int → Int → Prop, (∀ μ x1 x2, G μ x1 x2 → V g X 3 μ [(0, Rv 8), (1, Iv x1), (2, Iv x2)] 15 []) ∧ (∀ μ x1 x2, V g X 3 μ [(0, Rv 8), (1, Iv x1), (2, Iv x2)] 15 [] → G μ x1 x2) := ⟨fun μ x1 x2 => V g X 3 μ [(0, Rv 8), (1, Iv x1), (2, Iv x2)] 15 [], fun _ _ _ h => h, fun _ _ _ h => h⟩
  have K55 : ∀ (μ : Mem) (x1 : Int) (x2 : Int), b_X5_putInOrder_55 G2 G15 Post μ x1 x2 → V g X 3 μ [(0, Rv 8), (1, Iv x1), (2, Iv x2)] 55 [] := by
    intro μ x1 x2 hb
    unfold b_X5_putInOrder_55 at hb
    refine r_aload_n (pc := 55) 0 F dX5_putInOrder_55 rfl rfl ?_
    refine gf_RX5_9 (pc := 56) F dX5_putInOrder_56 ?_
    refine r_iload_n (pc := 59) 2 F dX5_putInOrder_59 rfl rfl ?_
    refine r_iload_n (pc := 60) 1 F dX5_putInOrder_60 rfl rfl ?_
    have hg_1 := hb.1
    have hb := hb.2
    refine r_iast (pc := 61) F lc85.1 lc85.2.1 lc85.2.2 hg_1 dX5_putInOrder_61 ?_
    refine V.nmM (fun μ_2 eμ_2 => ?_)
    have hb := hb μ_2 eμ_2
    refine r_iincN (pc := 62) 1 (lf := fun x_3 => [(1, Iv x_3), (0, Rv 8), (2, Iv x2)]) F dX5_putInOrder_62 rfl (by decide) rfl (fun x_3 ex_3 => ?_)
    have hb := hb x_3 ex_3
    refine r_goto (pc := 65) (tgt := 2) F dX5_putInOrder_65 (by decide) ?_
    exact V.sub [1, 0] rfl (g2 μ_2 x_3 hb)
  have K2 : ∀ (μ : Mem) (x1 : Int), b_X5_putInOrder_2 G2 G15 Post μ x1 → V g X 3 μ [(0, Rv 8), (1, Iv x1)] 2 [] := by
    intro μ x1 hb
    unfold b_X5_putInOrder_2 at hb
    refine r_iload_n (pc := 2) 1 F dX5_putInOrder_2 rfl rfl ?_
    refine r_aload_n (pc := 3) 0 F dX5_putInOrder_3 rfl rfl ?_
    refine gf_RX5_15 (pc := 4) F dX5_putInOrder_4 ?_
    refine gf_RX5_19 (pc := 7) F dX5_putInOrder_7 ?_
    refine r_icmp_ge (pc := 10) (tgt := 68) F dX5_putInOrder_10 (by decide) (fun c_4 => ?_) (fun c_4 => ?_)
    · have hb := hb.1 c_4
      exact r_vret (pc := 68) F hR hr dX5_putInOrder_68 hb
    · have hb := hb.2 c_4
      refine r_iload_n (pc := 13) 1 F dX5_putInOrder_13 rfl rfl ?_
      refine r_istore_n (pc := 14) (lv' := [(2, Iv x1), (0, Rv 8), (1, Iv x1)]) F dX5_putInOrder_14 rfl (by decide) rfl ?_
      exact V.sub [1, 2, 0] rfl (g15 μ x1 x1 hb)
  have K15 : ∀ (μ : Mem) (x1 : Int) (x2 : Int), b_X5_putInOrder_15 G2 G15 Post μ x1 x2 → V g X 3 μ [(0, Rv 8), (1, Iv x1), (2, Iv x2)] 15 [] := by
    intro μ x1 x2 hb
    unfold b_X5_putInOrder_15 at hb
    refine r_iload_n (pc := 15) 2 F dX5_putInOrder_15 rfl rfl ?_
    refine r_if_le (pc := 16) (tgt := 55) F dX5_putInOrder_16 (by decide) (fun c_5 => ?_) (fun c_5 => ?_)
    · have hb := hb.1 c_5
      exact V.sub [0, 1, 2] rfl (K55 μ x1 x2 hb)
    · have hb := hb.2 c_5
      refine r_aload_n (pc := 19) 0 F dX5_putInOrder_19 rfl rfl ?_
      refine r_iload_n (pc := 20) 1 F dX5_putInOrder_20 rfl rfl ?_
      refine r_aload_n (pc := 21) 0 F dX5_putInOrder_21 rfl rfl ?_
      refine gf_RX5_9 (pc := 22) F dX5_putInOrder_22 ?_
      refine r_iload_n (pc := 25) 2 F dX5_putInOrder_25 rfl rfl ?_
      refine r_iconst (pc := 26) F dX5_putInOrder_26 (inR_lit rfl) ?_
      refine r_isub (pc := 27) F dX5_putInOrder_27 ?_
      have hg_6 := hb.1
      have hb := hb.2
      refine r_iald (pc := 28) F lc85.1 lc85.2.1 lc85.2.2 hg_6 dX5_putInOrder_28 ?_
      refine r_callI (pc := 29) (avs := [Iv x1, Iv (μ 85 (wrap (x2 - 1)).toNat)]) (st := []) F (c_X5_goesAhead μ x1 (μ 85 (wrap (x2 - 1)).toNat) _ hb) (by decide) cal_X5_goesAhead calv_X5_goesAhead lk_RX5_25 rfl rfl (Nat.le_of_ble_eq_true rfl) dX5_putInOrder_29 (fun r_7 μ_8 hb => ?_)
      refine r_if_eq (pc := 32) (tgt := 55) F dX5_putInOrder_32 (by decide) (fun c_9 => ?_) (fun c_9 => ?_)
      · have hb := hb.1 c_9
        exact V.sub [0, 1, 2] rfl (K55 μ_8 x1 x2 hb)
      · have hb := hb.2 c_9
        refine r_aload_n (pc := 35) 0 F dX5_putInOrder_35 rfl rfl ?_
        refine gf_RX5_9 (pc := 36) F dX5_putInOrder_36 ?_
        refine r_iload_n (pc := 39) 2 F dX5_putInOrder_39 rfl rfl ?_
        refine r_aload_n (pc := 40) 0 F dX5_putInOrder_40 rfl rfl ?_
        refine gf_RX5_9 (pc := 41) F dX5_putInOrder_41 ?_
        refine r_iload_n (pc := 44) 2 F dX5_putInOrder_44 rfl rfl ?_
        refine r_iconst (pc := 45) F dX5_putInOrder_45 (inR_lit rfl) ?_
        refine r_isub (pc := 46) F dX5_putInOrder_46 ?_
        have hg_10 := hb.1
        have hb := hb.2
        refine r_iald (pc := 47) F lc85.1 lc85.2.1 lc85.2.2 hg_10 dX5_putInOrder_47 ?_
        have hg_11 := hb.1
        have hb := hb.2
        refine r_iast (pc := 48) F lc85.1 lc85.2.1 lc85.2.2 hg_11 dX5_putInOrder_48 ?_
        refine V.nmM (fun μ_12 eμ_12 => ?_)
        have hb := hb μ_12 eμ_12
        refine r_iincN (pc := 49) 2 (lf := fun x_13 => [(2, Iv x_13), (0, Rv 8), (1, Iv x1)]) F dX5_putInOrder_49 rfl (by decide) rfl (fun x_13 ex_13 => ?_)
        have hb := hb x_13 ex_13
        refine r_goto (pc := 52) (tgt := 15) F dX5_putInOrder_52 (by decide) ?_
        exact V.sub [1, 2, 0] rfl (g15 μ_12 x1 x_13 hb)
  have hb := hb G2 G15 (fun μ x1 hb => f2 μ x1 (K2 μ x1 hb)) (fun μ x1 x2 hb => f15 μ x1 x2 (K15 μ x1 x2 hb))
  unfold b_X5_putInOrder_e at hb
  refine r_iconst (pc := 0) F dX5_putInOrder_0 (inR_lit rfl) ?_
  refine r_istore_n (pc := 1) (lv' := [(1, Iv 0), (0, Rv 8)]) F dX5_putInOrder_1 rfl (by decide) rfl ?_
  exact V.sub [1, 0] rfl (g2 μ 0 hb)
set_option maxHeartbeats 4000000 in
set_option maxRecDepth 100000 in
theorem c_X10_byRule {g : Wc} {l : Launch} (μ : Mem) (p0 : Int) (Post : Pst) (hb : wp_X10_byRule μ p0 Post) : MtC g l yX10_byRule cX10_byRule 2 (some .int) 3 [Rv 0, Iv p0] μ (QI g Post) := by
  intro hok
  refine enter (own := RX10) (by decide) rfl (Nat.le_of_ble_eq_true rfl) hok (fun X hl F hr hR => ?_)
  subst hl
  show V g X 2 μ [(0, Rv 0), (1, Iv p0)] 0 []
  unfold wp_X10_byRule at hb
  have hb := hb
  unfold b_X10_byRule_e at hb
  refine r_iload_n (pc := 0) 1 F dX10_byRule_0 rfl rfl ?_
  refine r_iconst (pc := 1) F dX10_byRule_1 (inR_lit rfl) ?_
  refine r_aload_n (pc := 2) 0 F dX10_byRule_2 rfl rfl ?_
  refine gf_RX10_10 (pc := 3) F dX10_byRule_3 ?_
  refine gf_RX10_94 (pc := 6) F dX10_byRule_6 ?_
  refine r_iconst (pc := 9) F dX10_byRule_9 (inR_lit rfl) ?_
  refine r_isub (pc := 10) F dX10_byRule_10 ?_
  refine r_callSI (pc := 11) (avs := [Iv p0, Iv (-1), Iv (wrap ((μ 1 0) - 1))]) (st := []) F (c_X10_isFrom μ p0 (-1) (wrap ((μ 1 0) - 1)) _ hb) (by decide) cal_X10_isFrom st_X10_isFrom lk_RX10_90 rfl rfl (Nat.le_of_ble_eq_true rfl) dX10_byRule_11 (fun r_1 μ_2 hb => ?_)
  refine r_if_ne (pc := 14) (tgt := 20) F dX10_byRule_14 (by decide) (fun c_3 => ?_) (fun c_3 => ?_)
  · have hb := hb.1 c_3
    refine r_aload_n (pc := 20) 0 F dX10_byRule_20 rfl rfl ?_
    refine gf_RX10_65 (pc := 21) F dX10_byRule_21 ?_
    refine r_callV (pc := 24) (avs := []) (st := []) F (c_X5_putInOrder μ_2 _ hb) (by decide) cal_X5_putInOrder calv_X5_putInOrder lk_RX10_187 rfl rfl (Nat.le_of_ble_eq_true rfl) dX10_byRule_24 (fun μ_5 hb => ?_)
    refine r_iload_n (pc := 27) 1 F dX10_byRule_27 rfl rfl ?_
    refine r_iconst (pc := 28) F dX10_byRule_28 (inR_lit rfl) ?_
    refine r_icmp_ne (pc := 29) (tgt := 42) F dX10_byRule_29 (by decide) (fun c_6 => ?_) (fun c_6 => ?_)
    · have hb := hb.1 c_6
      refine r_aload_n (pc := 42) 0 F dX10_byRule_42 rfl rfl ?_
      refine gf_RX10_65 (pc := 43) F dX10_byRule_43 ?_
      refine gf_RX10_192 (pc := 46) F dX10_byRule_46 ?_
      refine r_iload_n (pc := 49) 1 F dX10_byRule_49 rfl rfl ?_
      have hg_7 := hb.1
      have hb := hb.2
      refine r_iald (pc := 50) F lc85.1 lc85.2.1 lc85.2.2 hg_7 dX10_byRule_50 ?_
      exact r_iret (pc := 51) F hR hr dX10_byRule_51 hb
    · have hb := hb.2 c_6
      refine r_aload_n (pc := 32) 0 F dX10_byRule_32 rfl rfl ?_
      refine gf_RX10_65 (pc := 33) F dX10_byRule_33 ?_
      refine r_callI (pc := 36) (avs := []) (st := []) F (c_X5_lastEnd μ_5 _ hb) (by decide) cal_X5_lastEnd calv_X5_lastEnd lk_RX10_190 rfl rfl (Nat.le_of_ble_eq_true rfl) dX10_byRule_36 (fun r_8 μ_9 hb => ?_)
      refine r_goto (pc := 39) (tgt := 51) F dX10_byRule_39 (by decide) ?_
      exact r_iret (pc := 51) F hR hr dX10_byRule_51 hb
  · have hb := hb.2 c_3
    refine r_bipush (pc := 17) F dX10_byRule_17 (inR_lit rfl) (by decide) ?_
    exact r_iret (pc := 19) F hR hr dX10_byRule_19 hb
