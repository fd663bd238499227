/-! Walks: X10_lastFirst, X7_add, X10_leaf, X7_all, X7_freeBehind, X7_takeFrom, X7_leastMinutes, X7_atOrAbove, X7_cutUp, X7_notSooner, X10_least, X7_highestOf, X7_goByLevels, X10_levels, X10_likes, X3_workIn. By program. -/
set_option maxHeartbeats 4000000 in
set_option maxRecDepth 100000 in
theorem c_X10_lastFirst {g : Wc} {l : Launch} (μ : Mem) (p0 : Int) (Post : Pst) (hb : wp_X10_lastFirst μ p0 Post) : MtC g l yX10_lastFirst cX10_lastFirst 2 (some .int) 4 [Rv 0, Iv p0] μ (QI g Post) := by
  intro hok
  refine enter (own := RX10) (by decide) rfl (Nat.le_of_ble_eq_true rfl) hok (fun X hl F hr hR => ?_)
  subst hl
  show V g X 2 μ [(0, Rv 0), (1, Iv p0)] 0 []
  unfold wp_X10_lastFirst at hb
  have hb := hb
  unfold b_X10_lastFirst_e at hb
  refine r_iload_n (pc := 0) 1 F dX10_lastFirst_0 rfl rfl ?_
  refine r_iconst (pc := 1) F dX10_lastFirst_1 (inR_lit rfl) ?_
  refine r_aload_n (pc := 2) 0 F dX10_lastFirst_2 rfl rfl ?_
  refine gf_RX10_10 (pc := 3) F dX10_lastFirst_3 ?_
  refine gf_RX10_94 (pc := 6) F dX10_lastFirst_6 ?_
  refine r_iconst (pc := 9) F dX10_lastFirst_9 (inR_lit rfl) ?_
  refine r_isub (pc := 10) F dX10_lastFirst_10 ?_
  refine r_callSI (pc := 11) (avs := [Iv p0, Iv (-1), Iv (wrap ((μ 1 0) - 1))]) (st := []) F (c_X10_isFrom μ p0 (-1) (wrap ((μ 1 0) - 1)) _ hb) (by decide) cal_X10_isFrom st_X10_isFrom lk_RX10_90 rfl rfl (Nat.le_of_ble_eq_true rfl) dX10_lastFirst_11 (fun r_1 μ_2 hb => ?_)
  refine r_if_ne (pc := 14) (tgt := 20) F dX10_lastFirst_14 (by decide) (fun c_3 => ?_) (fun c_3 => ?_)
  · have hb := hb.1 c_3
    refine r_aload_n (pc := 20) 0 F dX10_lastFirst_20 rfl rfl ?_
    refine gf_RX10_35 (pc := 21) F dX10_lastFirst_21 ?_
    refine r_callV (pc := 24) (avs := []) (st := []) F (c_X0_orderFromBehind μ_2 _ hb) (by decide) cal_X0_orderFromBehind calv_X0_orderFromBehind lk_RX10_134 rfl rfl (Nat.le_of_ble_eq_true rfl) dX10_lastFirst_24 (fun μ_5 hb => ?_)
    refine r_iload_n (pc := 27) 1 F dX10_lastFirst_27 rfl rfl ?_
    refine r_iconst (pc := 28) F dX10_lastFirst_28 (inR_lit rfl) ?_
    refine r_icmp_ne (pc := 29) (tgt := 42) F dX10_lastFirst_29 (by decide) (fun c_6 => ?_) (fun c_6 => ?_)
    · have hb := hb.1 c_6
      refine r_aload_n (pc := 42) 0 F dX10_lastFirst_42 rfl rfl ?_
      refine gf_RX10_35 (pc := 43) F dX10_lastFirst_43 ?_
      refine gf_RX10_140 (pc := 46) F dX10_lastFirst_46 ?_
      refine r_iload_n (pc := 49) 1 F dX10_lastFirst_49 rfl rfl ?_
      have hg_7 := hb.1
      have hb := hb.2
      refine r_iald (pc := 50) F lc80.1 lc80.2.1 lc80.2.2 hg_7 dX10_lastFirst_50 ?_
      exact r_iret (pc := 51) F hR hr dX10_lastFirst_51 hb
    · have hb := hb.2 c_6
      refine r_aload_n (pc := 32) 0 F dX10_lastFirst_32 rfl rfl ?_
      refine gf_RX10_35 (pc := 33) F dX10_lastFirst_33 ?_
      refine gf_RX10_137 (pc := 36) F dX10_lastFirst_36 ?_
      refine r_goto (pc := 39) (tgt := 51) F dX10_lastFirst_39 (by decide) ?_
      exact r_iret (pc := 51) F hR hr dX10_lastFirst_51 hb
  · have hb := hb.2 c_3
    refine r_bipush (pc := 17) F dX10_lastFirst_17 (inR_lit rfl) (by decide) ?_
    exact r_iret (pc := 19) F hR hr dX10_lastFirst_19 hb
set_option maxHeartbeats 4000000 in
set_option maxRecDepth 100000 in
theorem c_X7_add {g : Wc} {l : Launch} (μ : Mem) (p0 : Int) (Post : Pst) (hb : wp_X7_add μ p0 Post) : MtC g l yX7_add cX7_add 3 (some .int) 0 [Rv 10, Iv p0] μ (QI g Post) := by
  intro hok
  refine enter (own := RX7) (by decide) rfl (Nat.le_of_ble_eq_true rfl) hok (fun X hl F hr hR => ?_)
  subst hl
  show V g X 3 μ [(0, Rv 10), (1, Iv p0)] 0 []
  unfold wp_X7_add at hb
  have K34 : ∀ (μ : Mem) (x2 : Int) (s1 : Int) (s2 : Int), b_X7_add_34 Post μ x2 s1 s2 → V g X 3 μ [(0, Rv 10), (2, Iv x2)] 34 [Iv s2, Iv s1, Rv 89] := by
    intro μ x2 s1 s2 hb
    unfold b_X7_add_34 at hb
    have hg_1 := hb.1
    have hb := hb.2
    refine r_iast (pc := 34) F lc89.1 lc89.2.1 lc89.2.2 hg_1 dX7_add_34 ?_
    refine V.nmM (fun μ_2 eμ_2 => ?_)
    have hb := hb μ_2 eμ_2
    refine r_aload_n (pc := 35) 0 F dX7_add_35 rfl rfl ?_
    refine r_dup (pc := 36) F dX7_add_36 rfl ?_
    refine gf_RX7_29 (pc := 37) F dX7_add_37 ?_
    refine r_iconst (pc := 40) F dX7_add_40 (inR_lit rfl) ?_
    refine r_iadd (pc := 41) F dX7_add_41 ?_
    refine pf_RX7_29 (pc := 42) F dX7_add_42 ?_
    refine V.nmM (fun μ_3 eμ_3 => ?_)
    have hb := hb μ_3 eμ_3
    refine r_iload_n (pc := 45) 1 F dX7_add_45 rfl rfl ?_
    exact r_iret (pc := 46) F hR hr dX7_add_46 hb
  have hb := hb
  unfold b_X7_add_e at hb
  refine r_aload_n (pc := 0) 0 F dX7_add_0 rfl rfl ?_
  refine gf_RX7_29 (pc := 1) F dX7_add_1 ?_
  refine V.nmI (fun x_4 ex_4 => ?_)
  have hb := hb x_4 ex_4
  refine r_istore_n (pc := 4) (lv' := [(2, Iv x_4), (0, Rv 10), (1, Iv p0)]) F dX7_add_4 rfl (by decide) rfl ?_
  refine r_aload_n (pc := 5) 1 F dX7_add_5 rfl rfl ?_
  refine gf_RX7_19 (pc := 6) F dX7_add_6 ?_
  refine r_iload_n (pc := 9) 0 F dX7_add_9 rfl rfl ?_
  refine r_iload_n (pc := 10) 2 F dX7_add_10 rfl rfl ?_
  have hg_5 := hb.1
  have hb := hb.2
  refine r_iast (pc := 11) F lc88.1 lc88.2.1 lc88.2.2 hg_5 dX7_add_11 ?_
  refine V.nmM (fun μ_6 eμ_6 => ?_)
  have hb := hb μ_6 eμ_6
  refine r_aload_n (pc := 12) 1 F dX7_add_12 rfl rfl ?_
  refine gf_RX7_22 (pc := 13) F dX7_add_13 ?_
  refine r_iload_n (pc := 16) 0 F dX7_add_16 rfl rfl ?_
  refine r_iload_n (pc := 17) 2 F dX7_add_17 rfl rfl ?_
  refine r_iconst (pc := 18) F dX7_add_18 (inR_lit rfl) ?_
  refine r_icmp_ne (pc := 19) (tgt := 26) F dX7_add_19 (by decide) (fun c_7 => ?_) (fun c_7 => ?_)
  · have hb := hb.1 c_7
    refine r_aload_n (pc := 26) 1 F dX7_add_26 rfl rfl ?_
    refine gf_RX7_22 (pc := 27) F dX7_add_27 ?_
    refine r_iload_n (pc := 30) 2 F dX7_add_30 rfl rfl ?_
    have hg_8 := hb.1
    have hb := hb.2
    refine r_iald (pc := 31) F lc89.1 lc89.2.1 lc89.2.2 hg_8 dX7_add_31 ?_
    refine r_iconst (pc := 32) F dX7_add_32 (inR_lit rfl) ?_
    refine r_iadd (pc := 33) F dX7_add_33 ?_
    exact V.sub [1, 0] rfl (K34 μ_6 x_4 x_4 (wrap ((μ_6 89 p0.toNat) + 1)) hb)
  · have hb := hb.2 c_7
    refine r_iconst (pc := 22) F dX7_add_22 (inR_lit rfl) ?_
    refine r_goto (pc := 23) (tgt := 34) F dX7_add_23 (by decide) ?_
    exact V.sub [1, 0] rfl (K34 μ_6 x_4 x_4 1 hb)
set_option maxHeartbeats 4000000 in
set_option maxRecDepth 100000 in
theorem c_X10_leaf {g : Wc} {l : Launch} (μ : Mem) (p0 : Int) (Post : Pst) (hb : wp_X10_leaf μ p0 Post) : MtC g l yX10_leaf cX10_leaf 2 (some .int) 1 [Rv 0, Iv p0] μ (QI g Post) := by
  intro hok
  refine enter (own := RX10) (by decide) rfl (Nat.le_of_ble_eq_true rfl) hok (fun X hl F hr hR => ?_)
  subst hl
  show V g X 2 μ [(0, Rv 0), (1, Iv p0)] 0 []
  unfold wp_X10_leaf at hb
  have hb := hb
  unfold b_X10_leaf_e at hb
  refine r_iload_n (pc := 0) 1 F dX10_leaf_0 rfl rfl ?_
  refine r_iconst (pc := 1) F dX10_leaf_1 (inR_lit rfl) ?_
  refine r_aload_n (pc := 2) 0 F dX10_leaf_2 rfl rfl ?_
  refine gf_RX10_79 (pc := 3) F dX10_leaf_3 ?_
  refine gf_RX10_214 (pc := 6) F dX10_leaf_6 ?_
  refine r_iconst (pc := 9) F dX10_leaf_9 (inR_lit rfl) ?_
  refine r_isub (pc := 10) F dX10_leaf_10 ?_
  refine r_callSI (pc := 11) (avs := [Iv p0, Iv (-1), Iv (wrap ((μ 10 0) - 1))]) (st := []) F (c_X10_isFrom μ p0 (-1) (wrap ((μ 10 0) - 1)) _ hb) (by decide) cal_X10_isFrom st_X10_isFrom lk_RX10_90 rfl rfl (Nat.le_of_ble_eq_true rfl) dX10_leaf_11 (fun r_1 μ_2 hb => ?_)
  refine r_if_ne (pc := 14) (tgt := 20) F dX10_leaf_14 (by decide) (fun c_3 => ?_) (fun c_3 => ?_)
  · have hb := hb.1 c_3
    refine r_aload_n (pc := 20) 0 F dX10_leaf_20 rfl rfl ?_
    refine gf_RX10_79 (pc := 21) F dX10_leaf_21 ?_
    refine gf_RX10_214 (pc := 24) F dX10_leaf_24 ?_
    refine r_bipush (pc := 27) F dX10_leaf_27 (inR_lit rfl) (by decide) ?_
    refine r_icmp_lt (pc := 29) (tgt := 35) F dX10_leaf_29 (by decide) (fun c_4 => ?_) (fun c_4 => ?_)
    · have hb := hb.1 c_4
      refine r_aload_n (pc := 35) 0 F dX10_leaf_35 rfl rfl ?_
      refine gf_RX10_79 (pc := 36) F dX10_leaf_36 ?_
      refine r_iload_n (pc := 39) 1 F dX10_leaf_39 rfl rfl ?_
      refine r_callI (pc := 40) (avs := [Iv p0]) (st := []) F (c_X7_add μ_2 p0 _ hb) (by decide) cal_X7_add calv_X7_add lk_RX10_215 rfl rfl (Nat.le_of_ble_eq_true rfl) dX10_leaf_40 (fun r_5 μ_6 hb => ?_)
      exact r_iret (pc := 43) F hR hr dX10_leaf_43 hb
    · have hb := hb.2 c_4
      refine r_bipush (pc := 32) F dX10_leaf_32 (inR_lit rfl) (by decide) ?_
      exact r_iret (pc := 34) F hR hr dX10_leaf_34 hb
  · have hb := hb.2 c_3
    refine r_bipush (pc := 17) F dX10_leaf_17 (inR_lit rfl) (by decide) ?_
    exact r_iret (pc := 19) F hR hr dX10_leaf_19 hb
set_option maxHeartbeats 4000000 in
set_option maxRecDepth 100000 in
theorem c_X7_all {g : Wc} {l : Launch} (μ : Mem) (Post : Pst) (hb : wp_X7_all μ Post) : MtC g l yX7_all cX7_all 1 (some .int) 0 [Rv 10] μ (QI g Post) := by
  intro hok
  refine enter (own := RX7) (by decide) rfl (Nat.le_of_ble_eq_true rfl) hok (fun X hl F hr hR => ?_)
  subst hl
  show V g X 1 μ [(0, Rv 10)] 0 []
  unfold wp_X7_all at hb
  have hb := hb
  unfold b_X7_all_e at hb
  refine r_iconst (pc := 0) F dX7_all_0 (inR_lit rfl) ?_
  refine r_aload_n (pc := 1) 0 F dX7_all_1 rfl rfl ?_
  refine gf_RX7_29 (pc := 2) F dX7_all_2 ?_
  refine r_ishl (pc := 5) F dX7_all_5 ?_
  refine r_iconst (pc := 6) F dX7_all_6 (inR_lit rfl) ?_
  refine r_isub (pc := 7) F dX7_all_7 ?_
  exact r_iret (pc := 8) F hR hr dX7_all_8 hb
set_option maxHeartbeats 4000000 in
set_option maxRecDepth 100000 in
theorem c_X7_freeBehind {g : Wc} {l : Launch} (μ : Mem) (p0 : Int) (Post : Pst) (hb : wp_X7_freeBehind μ p0 Post) : MtC g l yX7_freeBehind cX7_freeBehind 4 (some .int) 1 [Rv 10, Iv p0] μ (QI g Post) := by
  intro hok
  refine enter (own := RX7) (by decide) rfl (Nat.le_of_ble_eq_true rfl) hok (fun X hl F hr hR => ?_)
  subst hl
  show V g X 4 μ [(0, Rv 10), (1, Iv p0)] 0 []
  unfold wp_X7_freeBehind at hb
  obtain ⟨G4, g4, f4⟩ : ∃ G : Mem → Int → Int → Int → Prop, (∀ μ x1 x2 x3, G μ x1 x2 x3 → V g X 4 μ [(0, Rv 10), (1, Iv x1), (2, Iv x2), (3, Iv x3)] 4 []) ∧ (∀ μ x1 x2 x3, V g X 4 μ [(0, Rv 10), (1, Iv x1), (2, Iv x2), (3, Iv x3)] 4 [] → G μ x1 x2 x3) := ⟨fun μ x1 x2 x3 => V g X 4 μ [(0, Rv 10), (1, Iv x1), (2, Iv x2), (3, Iv x3)] 4 [], fun _ _ _ _ h => h, fun _ _ _ _ h => h⟩
  have K41 : ∀ (μ : Mem) (x1 : Int) (x2 : Int) (x3 : Int), b_X7_freeBehind_41 G4 Post μ x1 x2 x3 → V g X 4 μ [(0, Rv 10), (1, Iv x1), (2, Iv x2), (3, Iv x3)] 41 [] := by
    intro μ x1 x2 x3 hb
    unfold b_X7_freeBehind_41 at hb
    refine r_iincN (pc := 41) 3 (lf := fun x_1 => [(3, Iv x_1), (0, Rv 10), (1, Iv x1), (2, Iv x2)]) F dX7_freeBehind_41 rfl (by decide) rfl (fun x_1 ex_1 => ?_)
    have hb := hb x_1 ex_1
    refine r_goto (pc := 44) (tgt := 4) F dX7_freeBehind_44 (by decide) ?_
    exact V.sub [1, 2, 3, 0] rfl (g4 μ x1 x2 x_1 hb)
  have K4 : ∀ (μ : Mem) (x1 : Int) (x2 : Int) (x3 : Int), b_X7_freeBehind_4 G4 Post μ x1 x2 x3 → V g X 4 μ [(0, Rv 10), (1, Iv x1), (2, Iv x2), (3, Iv x3)] 4 [] := by
    intro μ x1 x2 x3 hb
    unfold b_X7_freeBehind_4 at hb
    refine r_iload_n (pc := 4) 3 F dX7_freeBehind_4 rfl rfl ?_
    refine r_aload_n (pc := 5) 0 F dX7_freeBehind_5 rfl rfl ?_
    refine gf_RX7_29 (pc := 6) F dX7_freeBehind_6 ?_
    refine r_icmp_ge (pc := 9) (tgt := 47) F dX7_freeBehind_9 (by decide) (fun c_2 => ?_) (fun c_2 => ?_)
    · have hb := hb.1 c_2
      refine r_aload_n (pc := 47) 0 F dX7_freeBehind_47 rfl rfl ?_
      refine r_callI (pc := 48) (avs := []) (st := []) F (c_X7_all μ _ hb) (by decide) cal_X7_all calv_X7_all lk_RX7_36 rfl rfl (Nat.le_of_ble_eq_true rfl) dX7_freeBehind_48 (fun r_3 μ_4 hb => ?_)
      refine r_iload_n (pc := 51) 1 F dX7_freeBehind_51 rfl rfl ?_
      refine r_iconst (pc := 52) F dX7_freeBehind_52 (inR_lit rfl) ?_
      refine r_ixor (pc := 53) F dX7_freeBehind_53 ?_
      refine r_iand (pc := 54) F dX7_freeBehind_54 ?_
      refine r_iload_n (pc := 55) 2 F dX7_freeBehind_55 rfl rfl ?_
      refine r_iconst (pc := 56) F dX7_freeBehind_56 (inR_lit rfl) ?_
      refine r_ixor (pc := 57) F dX7_freeBehind_57 ?_
      refine r_iand (pc := 58) F dX7_freeBehind_58 ?_
      exact r_iret (pc := 59) F hR hr dX7_freeBehind_59 hb
    · have hb := hb.2 c_2
      refine r_iload_n (pc := 12) 1 F dX7_freeBehind_12 rfl rfl ?_
      refine r_iload_n (pc := 13) 3 F dX7_freeBehind_13 rfl rfl ?_
      refine r_callNI (pc := 14) (avs := [Iv x1, Iv x3]) (st := []) F (c_X10_isIn μ x1 x3 _ hb) (by decide) cal_X10_isIn st_X10_isIn lk_RX7_32 rfl rfl (Nat.le_of_ble_eq_true rfl) dX7_freeBehind_14 (fun r_5 μ_6 hb => ?_)
      refine r_if_ne (pc := 17) (tgt := 41) F dX7_freeBehind_17 (by decide) (fun c_7 => ?_) (fun c_7 => ?_)
      · have hb := hb.1 c_7
        exact V.sub [0, 1, 2, 3] rfl (K41 μ_6 x1 x2 x3 hb)
      · have hb := hb.2 c_7
        refine r_aload_n (pc := 20) 0 F dX7_freeBehind_20 rfl rfl ?_
        refine gf_RX7_19 (pc := 21) F dX7_freeBehind_21 ?_
        refine r_iload_n (pc := 24) 3 F dX7_freeBehind_24 rfl rfl ?_
        have hg_8 := hb.1
        have hb := hb.2
        refine r_iald (pc := 25) F lc88.1 lc88.2.1 lc88.2.2 hg_8 dX7_freeBehind_25 ?_
        refine r_iconst (pc := 26) F dX7_freeBehind_26 (inR_lit rfl) ?_
        refine r_icmp_eq (pc := 27) (tgt := 41) F dX7_freeBehind_27 (by decide) (fun c_9 => ?_) (fun c_9 => ?_)
        · have hb := hb.1 c_9
          exact V.sub [0, 1, 2, 3] rfl (K41 μ_6 x1 x2 x3 hb)
        · have hb := hb.2 c_9
          refine r_iload_n (pc := 30) 2 F dX7_freeBehind_30 rfl rfl ?_
          refine r_iconst (pc := 31) F dX7_freeBehind_31 (inR_lit rfl) ?_
          refine r_aload_n (pc := 32) 0 F dX7_freeBehind_32 rfl rfl ?_
          refine gf_RX7_19 (pc := 33) F dX7_freeBehind_33 ?_
          refine r_iload_n (pc := 36) 3 F dX7_freeBehind_36 rfl rfl ?_
          have hg_10 := hb.1
          have hb := hb.2
          refine r_iald (pc := 37) F lc88.1 lc88.2.1 lc88.2.2 hg_10 dX7_freeBehind_37 ?_
          refine r_ishl (pc := 38) F dX7_freeBehind_38 ?_
          refine r_ior (pc := 39) F dX7_freeBehind_39 ?_
          refine V.nmI (fun x_11 ex_11 => ?_)
          have hb := hb x_11 ex_11
          refine r_istore_n (pc := 40) (lv' := [(2, Iv x_11), (0, Rv 10), (1, Iv x1), (3, Iv x3)]) F dX7_freeBehind_40 rfl (by decide) rfl ?_
          exact V.sub [1, 2, 0, 3] rfl (K41 μ_6 x1 x_11 x3 hb)
  have hb := hb G4 (fun μ x1 x2 x3 hb => f4 μ x1 x2 x3 (K4 μ x1 x2 x3 hb))
  unfold b_X7_freeBehind_e at hb
  refine r_iconst (pc := 0) F dX7_freeBehind_0 (inR_lit rfl) ?_
  refine r_istore_n (pc := 1) (lv' := [(2, Iv 0), (0, Rv 10), (1, Iv p0)]) F dX7_freeBehind_1 rfl (by decide) rfl ?_
  refine r_iconst (pc := 2) F dX7_freeBehind_2 (inR_lit rfl) ?_
  refine r_istore_n (pc := 3) (lv' := [(3, Iv 0), (2, Iv 0), (0, Rv 10), (1, Iv p0)]) F dX7_freeBehind_3 rfl (by decide) rfl ?_
  exact V.sub [2, 3, 1, 0] rfl (g4 μ p0 0 0 hb)
set_option maxHeartbeats 4000000 in
set_option maxRecDepth 100000 in
theorem c_X7_takeFrom {g : Wc} {l : Launch} : ∀ (d : Nat) (μ : Mem) (p0 : Int) (p1 : Int) (p2 : Int) (p3 : Int) (Post : Pst), wp_X7_takeFrom d μ p0 p1 p2 p3 Post → MtC g l yX7_takeFrom cX7_takeFrom 7 none (1 + d) [Rv 10, Iv p0, Iv p1, Iv p2, Iv p3] μ (QV g Post) := by
  intro d; induction d with
  | zero => intro μ p0 p1 p2 p3 Post hb; exact hb.elim
  | succ d ih =>
  intro μ p0 p1 p2 p3 Post hb hok
  refine enter (own := RX7) (by decide) rfl (Nat.le_of_ble_eq_true rfl) hok (fun X hl F hr hR => ?_)
  subst hl
  show V g X 7 μ [(0, Rv 10), (1, Iv p0), (2, Iv p1), (3, Iv p2), (4, Iv p3)] 0 []
  obtain ⟨rc, hrc⟩ : ∃ z, z = wp_X7_takeFrom d := ⟨_, rfl⟩
  unfold wp_X7_takeFrom at hb
  rw [← hrc] at ih hb
  obtain ⟨G29, g29, f29⟩ : ∃ G : Mem → Int → Int → Int → Int → Int → Prop, (∀ μ x1 x3 x4 x5 x6, G μ x1 x3 x4 x5 x6 → V g X 7 μ [(0, Rv 10), (1, Iv x1), (3, Iv x3), (4, Iv x4), (5, Iv x5), (6, Iv x6)] 29 []) ∧ (∀ μ x1 x3 x4 x5 x6, V g X 7 μ [(0, Rv 10), (1, Iv x1), (3, Iv x3), (4, Iv x4), (5, Iv x5), (6, Iv x6)] 29 [] → G μ x1 x3 x4 x5 x6) := ⟨fun μ x1 x3 x4 x5 x6 => V g X 7 μ [(0, Rv 10), (1, Iv x1), (3, Iv x3), (4, Iv x4), (5, Iv x5), (6, Iv x6)] 29 [], fun _ _ _ _ _ _ h => h, fun _ _ _ _ _ _ h => h⟩
  have K76 : ∀ (μ : Mem) (x1 : Int) (x3 : Int) (x4 : Int) (x5 : Int) (x6 : Int), b_X7_takeFrom_76 rc G29 Post μ x1 x3 x4 x5 x6 → V g X 7 μ [(0, Rv 10), (1, Iv x1), (3, Iv x3), (4, Iv x4), (5, Iv x5), (6, Iv x6)] 76 [] := by
    intro μ x1 x3 x4 x5 x6 hb
    unfold b_X7_takeFrom_76 at hb
    refine r_iincN (pc := 76) 5 (lf := fun x_1 => [(6, Iv x_1), (0, Rv 10), (1, Iv x1), (3, Iv x3), (4, Iv x4), (5, Iv x5)]) F dX7_takeFrom_76 rfl (by decide) rfl (fun x_1 ex_1 => ?_)
    have hb := hb x_1 ex_1
    refine r_goto (pc := 79) (tgt := 29) F dX7_takeFrom_79 (by decide) ?_
    exact V.sub [1, 2, 3, 4, 5, 0] rfl (g29 μ x1 x3 x4 x5 x_1 hb)
  have K29 : ∀ (μ : Mem) (x1 : Int) (x3 : Int) (x4 : Int) (x5 : Int) (x6 : Int), b_X7_takeFrom_29 rc G29 Post μ x1 x3 x4 x5 x6 → V g X 7 μ [(0, Rv 10), (1, Iv x1), (3, Iv x3), (4, Iv x4), (5, Iv x5), (6, Iv x6)] 29 [] := by
    intro μ x1 x3 x4 x5 x6 hb
    unfold b_X7_takeFrom_29 at hb
    refine r_iload (pc := 29) 5 F dX7_takeFrom_29 rfl ?_
    refine r_aload_n (pc := 31) 0 F dX7_takeFrom_31 rfl rfl ?_
    refine gf_RX7_29 (pc := 32) F dX7_takeFrom_32 ?_
    refine r_icmp_ge (pc := 35) (tgt := 82) F dX7_takeFrom_35 (by decide) (fun c_2 => ?_) (fun c_2 => ?_)
    · have hb := hb.1 c_2
      exact r_vret (pc := 82) F hR hr dX7_takeFrom_82 hb
    · have hb := hb.2 c_2
      refine r_iload (pc := 38) 4 F dX7_takeFrom_38 rfl ?_
      refine r_iload (pc := 40) 5 F dX7_takeFrom_40 rfl ?_
      refine r_callNI (pc := 42) (avs := [Iv x5, Iv x6]) (st := []) F (c_X10_isIn μ x5 x6 _ hb) (by omega) cal_X10_isIn st_X10_isIn lk_RX7_32 rfl rfl (Nat.le_of_ble_eq_true rfl) dX7_takeFrom_42 (fun r_3 μ_4 hb => ?_)
      refine r_if_eq (pc := 45) (tgt := 76) F dX7_takeFrom_45 (by decide) (fun c_5 => ?_) (fun c_5 => ?_)
      · have hb := hb.1 c_5
        exact V.sub [0, 1, 2, 3, 4, 5] rfl (K76 μ_4 x1 x3 x4 x5 x6 hb)
      · have hb := hb.2 c_5
        refine r_iload (pc := 48) 4 F dX7_takeFrom_48 rfl ?_
        refine r_iconst (pc := 50) F dX7_takeFrom_50 (inR_lit rfl) ?_
        refine r_iload (pc := 51) 5 F dX7_takeFrom_51 rfl ?_
        refine r_ishl (pc := 53) F dX7_takeFrom_53 ?_
        refine r_iconst (pc := 54) F dX7_takeFrom_54 (inR_lit rfl) ?_
        refine r_ixor (pc := 55) F dX7_takeFrom_55 ?_
        refine r_iand (pc := 56) F dX7_takeFrom_56 ?_
        refine V.nmI (fun x_6 ex_6 => ?_)
        have hb := hb x_6 ex_6
        refine r_istore (pc := 57) (lv' := [(5, Iv x_6), (0, Rv 10), (1, Iv x1), (3, Iv x3), (4, Iv x4), (6, Iv x6)]) F dX7_takeFrom_57 (by decide) rfl ?_
        refine r_aload_n (pc := 59) 1 F dX7_takeFrom_59 rfl rfl ?_
        refine r_iload_n (pc := 60) 2 F dX7_takeFrom_60 rfl rfl ?_
        refine r_iconst (pc := 61) F dX7_takeFrom_61 (inR_lit rfl) ?_
        refine r_iload (pc := 62) 5 F dX7_takeFrom_62 rfl ?_
        refine r_ishl (pc := 64) F dX7_takeFrom_64 ?_
        refine r_ior (pc := 65) F dX7_takeFrom_65 ?_
        refine r_iload (pc := 66) 0 F dX7_takeFrom_66 rfl ?_
        refine r_iload_n (pc := 68) 3 F dX7_takeFrom_68 rfl rfl ?_
        refine r_iconst (pc := 69) F dX7_takeFrom_69 (inR_lit rfl) ?_
        refine r_isub (pc := 70) F dX7_takeFrom_70 ?_
        refine r_iload (pc := 71) 4 F dX7_takeFrom_71 rfl ?_
        refine r_callV (pc := 73) (avs := [Iv (ior x1 (ishl 1 x6)), Iv x_6, Iv (wrap (x3 - 1)), Iv x4]) (st := []) F (ih μ_4 (ior x1 (ishl 1 x6)) x_6 (wrap (x3 - 1)) x4 _ hb) (by omega) cal_X7_takeFrom calv_X7_takeFrom lk_RX7_67 rfl rfl (Nat.le_of_ble_eq_true rfl) dX7_takeFrom_73 (fun μ_8 hb => ?_)
        exact V.sub [1, 2, 3, 4, 0, 5] rfl (K76 μ_8 x1 x3 x4 x_6 x6 hb)
  have hb := hb G29 (fun μ x1 x3 x4 x5 x6 hb => f29 μ x1 x3 x4 x5 x6 (K29 μ x1 x3 x4 x5 x6 hb))
  unfold b_X7_takeFrom_e at hb
  refine r_iload_n (pc := 0) 3 F dX7_takeFrom_0 rfl rfl ?_
  refine r_if_gt (pc := 1) (tgt := 23) F dX7_takeFrom_1 (by decide) (fun c_9 => ?_) (fun c_9 => ?_)
  · have hb := hb.1 c_9
    refine r_iload_n (pc := 23) 2 F dX7_takeFrom_23 rfl rfl ?_
    refine r_istore (pc := 24) (lv' := [(5, Iv p1), (0, Rv 10), (1, Iv p0), (2, Iv p1), (3, Iv p2), (4, Iv p3)]) F dX7_takeFrom_24 (by decide) rfl ?_
    refine r_iconst (pc := 26) F dX7_takeFrom_26 (inR_lit rfl) ?_
    refine r_istore (pc := 27) (lv' := [(6, Iv 0), (5, Iv p1), (0, Rv 10), (1, Iv p0), (2, Iv p1), (3, Iv p2), (4, Iv p3)]) F dX7_takeFrom_27 (by decide) rfl ?_
    exact V.sub [2, 3, 5, 6, 1, 0] rfl (g29 μ p0 p2 p3 p1 0 hb)
  · have hb := hb.2 c_9
    refine r_aload_n (pc := 4) 0 F dX7_takeFrom_4 rfl rfl ?_
    refine gf_RX7_25 (pc := 5) F dX7_takeFrom_5 ?_
    refine r_iload_n (pc := 8) 1 F dX7_takeFrom_8 rfl rfl ?_
    refine r_aload_n (pc := 9) 0 F dX7_takeFrom_9 rfl rfl ?_
    refine gf_RX7_25 (pc := 10) F dX7_takeFrom_10 ?_
    refine r_iload_n (pc := 13) 1 F dX7_takeFrom_13 rfl rfl ?_
    refine r_bald (pc := 14) F hb.1 dX7_takeFrom_14 ?_
    have hb := hb.2
    refine r_iload (pc := 15) 4 F dX7_takeFrom_15 rfl ?_
    refine r_min (pc := 17) F (by first | decide | omega) lk_RX7_61 km_min.1 km_min.2.1 km_min.2.2 (Nat.le_of_ble_eq_true rfl) dX7_takeFrom_17 ?_
    refine r_i2b (pc := 20) F dX7_takeFrom_20 ?_
    refine r_bast (pc := 21) F hb.1 hb.2.1 dX7_takeFrom_21 ?_
    have hb := hb.2.2
    refine V.nmM (fun μ_10 eμ_10 => ?_)
    have hb := hb μ_10 eμ_10
    exact r_vret (pc := 22) F hR hr dX7_takeFrom_22 hb
set_option maxHeartbeats 4000000 in
set_option maxRecDepth 100000 in
theorem c_X7_leastMinutes {g : Wc} {l : Launch} (μ : Mem) (Post : Pst) (hb : wp_X7_leastMinutes μ Post) : MtC g l yX7_leastMinutes cX7_leastMinutes 3 (some .int) 8 [Rv 10] μ (QI g Post) := by
  intro hok
  refine enter (own := RX7) (by decide) rfl (Nat.le_of_ble_eq_true rfl) hok (fun X hl F hr hR => ?_)
  subst hl
  show V g X 3 μ [(0, Rv 10)] 0 []
  unfold wp_X7_leastMinutes at hb
  obtain ⟨G25, g25, f25⟩ : ∃ G : Mem → Int → Prop, (∀ μ x1, G μ x1 → V g X 3 μ [(0, Rv 10), (1, Iv x1)] 25 []) ∧ (∀ μ x1, V g X 3 μ [(0, Rv 10), (1, Iv x1)] 25 [] → G μ x1) := ⟨fun μ x1 => V g X 3 μ [(0, Rv 10), (1, Iv x1)] 25 [], fun _ _ h => h, fun _ _ h => h⟩
  have K75 : ∀ (μ : Mem) (x1 : Int), b_X7_leastMinutes_75 G25 Post μ x1 → V g X 3 μ [(0, Rv 10), (1, Iv x1)] 75 [] := by
    intro μ x1 hb
    unfold b_X7_leastMinutes_75 at hb
    refine r_iincN (pc := 75) 1 (lf := fun x_1 => [(1, Iv x_1), (0, Rv 10)]) F dX7_leastMinutes_75 rfl (by decide) rfl (fun x_1 ex_1 => ?_)
    have hb := hb x_1 ex_1
    refine r_goto (pc := 78) (tgt := 25) F dX7_leastMinutes_78 (by decide) ?_
    exact V.sub [1, 0] rfl (g25 μ x_1 hb)
  have K25 : ∀ (μ : Mem) (x1 : Int), b_X7_leastMinutes_25 G25 Post μ x1 → V g X 3 μ [(0, Rv 10), (1, Iv x1)] 25 [] := by
    intro μ x1 hb
    unfold b_X7_leastMinutes_25 at hb
    refine r_iload_n (pc := 25) 1 F dX7_leastMinutes_25 rfl rfl ?_
    refine r_aload_n (pc := 26) 0 F dX7_leastMinutes_26 rfl rfl ?_
    refine r_callI (pc := 27) (avs := []) (st := [Iv x1]) F (c_X7_all μ _ hb) (by decide) cal_X7_all calv_X7_all lk_RX7_36 rfl rfl (Nat.le_of_ble_eq_true rfl) dX7_leastMinutes_27 (fun r_2 μ_3 hb => ?_)
    refine r_icmp_ge (pc := 30) (tgt := 81) F dX7_leastMinutes_30 (by decide) (fun c_4 => ?_) (fun c_4 => ?_)
    · have hb := hb.1 c_4
      refine r_aload_n (pc := 81) 0 F dX7_leastMinutes_81 rfl rfl ?_
      refine gf_RX7_25 (pc := 82) F dX7_leastMinutes_82 ?_
      refine r_aload_n (pc := 85) 0 F dX7_leastMinutes_85 rfl rfl ?_
      refine r_callI (pc := 86) (avs := []) (st := [Rv 23]) F (c_X7_all μ_3 _ hb) (by decide) cal_X7_all calv_X7_all lk_RX7_36 rfl rfl (Nat.le_of_ble_eq_true rfl) dX7_leastMinutes_86 (fun r_5 μ_6 hb => ?_)
      refine r_bald (pc := 89) F hb.1 dX7_leastMinutes_89 ?_
      have hb := hb.2
      exact r_iret (pc := 90) F hR hr dX7_leastMinutes_90 hb
    · have hb := hb.2 c_4
      refine r_aload_n (pc := 33) 0 F dX7_leastMinutes_33 rfl rfl ?_
      refine gf_RX7_25 (pc := 34) F dX7_leastMinutes_34 ?_
      refine r_iload_n (pc := 37) 1 F dX7_leastMinutes_37 rfl rfl ?_
      refine r_bald (pc := 38) F hb.1 dX7_leastMinutes_38 ?_
      have hb := hb.2
      refine r_bipush (pc := 39) F dX7_leastMinutes_39 (inR_lit rfl) (by decide) ?_
      refine r_icmp_eq (pc := 41) (tgt := 75) F dX7_leastMinutes_41 (by decide) (fun c_7 => ?_) (fun c_7 => ?_)
      · have hb := hb.1 c_7
        exact V.sub [0, 1] rfl (K75 μ_3 x1 hb)
      · have hb := hb.2 c_7
        refine r_aload_n (pc := 44) 0 F dX7_leastMinutes_44 rfl rfl ?_
        refine r_iload_n (pc := 45) 1 F dX7_leastMinutes_45 rfl rfl ?_
        refine r_callI (pc := 46) (avs := [Iv x1]) (st := []) F (c_X7_freeBehind μ_3 x1 _ hb) (by decide) cal_X7_freeBehind calv_X7_freeBehind lk_RX7_40 rfl rfl (Nat.le_of_ble_eq_true rfl) dX7_leastMinutes_46 (fun r_8 μ_9 hb => ?_)
        refine r_istore_n (pc := 49) (lv' := [(2, Iv r_8), (0, Rv 10), (1, Iv x1)]) F dX7_leastMinutes_49 rfl (by decide) rfl ?_
        refine r_aload_n (pc := 50) 1 F dX7_leastMinutes_50 rfl rfl ?_
        refine r_iload_n (pc := 51) 2 F dX7_leastMinutes_51 rfl rfl ?_
        refine r_iload_n (pc := 52) 0 F dX7_leastMinutes_52 rfl rfl ?_
        refine r_aload_n (pc := 53) 1 F dX7_leastMinutes_53 rfl rfl ?_
        refine gf_RX7_9 (pc := 54) F dX7_leastMinutes_54 ?_
        refine r_iload_n (pc := 57) 0 F dX7_leastMinutes_57 rfl rfl ?_
        refine r_callSI (pc := 58) (avs := [Iv r_8]) (st := [Iv (μ_9 10 1), Iv r_8, Iv x1, Rv 10]) F (c_J6_bitCount_0f7a4 μ_9 r_8 _ hb) (by decide) cal_J6_bitCount_0f7a4 st_J6_bitCount_0f7a4 lk_RX7_58 rfl rfl (Nat.le_of_ble_eq_true rfl) dX7_leastMinutes_58 (fun r_10 μ_11 hb => ?_)
        refine r_min (pc := 61) F (by first | decide | omega) lk_RX7_61 km_min.1 km_min.2.1 km_min.2.2 (Nat.le_of_ble_eq_true rfl) dX7_leastMinutes_61 ?_
        refine r_aload_n (pc := 64) 1 F dX7_leastMinutes_64 rfl rfl ?_
        refine gf_RX7_25 (pc := 65) F dX7_leastMinutes_65 ?_
        refine r_iload_n (pc := 68) 2 F dX7_leastMinutes_68 rfl rfl ?_
        refine r_bald (pc := 69) F hb.1 dX7_leastMinutes_69 ?_
        have hb := hb.2
        refine r_iconst (pc := 70) F dX7_leastMinutes_70 (inR_lit rfl) ?_
        refine r_iadd (pc := 71) F dX7_leastMinutes_71 ?_
        refine r_callV (pc := 72) (avs := [Iv x1, Iv r_8, Iv (imin (μ_9 10 1) r_10), Iv (wrap ((μ_11 23 x1.toNat) + 1))]) (st := []) F (c_X7_takeFrom 6 μ_11 x1 r_8 (imin (μ_9 10 1) r_10) (wrap ((μ_11 23 x1.toNat) + 1)) _ hb) (by decide) cal_X7_takeFrom calv_X7_takeFrom lk_RX7_67 rfl rfl (Nat.le_of_ble_eq_true rfl) dX7_leastMinutes_72 (fun μ_13 hb => ?_)
        exact V.sub [1, 2] rfl (K75 μ_13 x1 hb)
  have hb := hb G25 (fun μ x1 hb => f25 μ x1 (K25 μ x1 hb))
  unfold b_X7_leastMinutes_e at hb
  refine r_aload_n (pc := 0) 0 F dX7_leastMinutes_0 rfl rfl ?_
  refine gf_RX7_25 (pc := 1) F dX7_leastMinutes_1 ?_
  refine r_iconst (pc := 4) F dX7_leastMinutes_4 (inR_lit rfl) ?_
  refine r_aload_n (pc := 5) 0 F dX7_leastMinutes_5 rfl rfl ?_
  refine r_callI (pc := 6) (avs := []) (st := [Iv 0, Rv 23]) F (c_X7_all μ _ hb) (by decide) cal_X7_all calv_X7_all lk_RX7_36 rfl rfl (Nat.le_of_ble_eq_true rfl) dX7_leastMinutes_6 (fun r_14 μ_15 hb => ?_)
  refine r_iconst (pc := 9) F dX7_leastMinutes_9 (inR_lit rfl) ?_
  refine r_iadd (pc := 10) F dX7_leastMinutes_10 ?_
  refine r_bipush (pc := 11) F dX7_leastMinutes_11 (inR_lit rfl) (by decide) ?_
  refine r_callSV (pc := 13) (avs := [Rv 23, Iv 0, Iv (wrap (r_14 + 1)), Iv 100]) (st := []) F (c_J7_fill_eb02e μ_15 0 (wrap (r_14 + 1)) 100 _ hb) (by decide) cal_J7_fill_eb02e st_J7_fill_eb02e lk_RX7_52 rfl rfl (Nat.le_of_ble_eq_true rfl) dX7_leastMinutes_13 (fun μ_17 hb => ?_)
  refine r_aload_n (pc := 16) 0 F dX7_leastMinutes_16 rfl rfl ?_
  refine gf_RX7_25 (pc := 17) F dX7_leastMinutes_17 ?_
  refine r_iconst (pc := 20) F dX7_leastMinutes_20 (inR_lit rfl) ?_
  refine r_iconst (pc := 21) F dX7_leastMinutes_21 (inR_lit rfl) ?_
  refine r_bast (pc := 22) F hb.1 hb.2.1 dX7_leastMinutes_22 ?_
  have hb := hb.2.2
  refine V.nmM (fun μ_18 eμ_18 => ?_)
  have hb := hb μ_18 eμ_18
  refine r_iconst (pc := 23) F dX7_leastMinutes_23 (inR_lit rfl) ?_
  refine r_istore_n (pc := 24) (lv' := [(1, Iv 0), (0, Rv 10)]) F dX7_leastMinutes_24 rfl (by decide) rfl ?_
  exact V.sub [1, 0] rfl (g25 μ_18 0 hb)
set_option maxHeartbeats 4000000 in
set_option maxRecDepth 100000 in
theorem c_X7_atOrAbove {g : Wc} {l : Launch} (μ : Mem) (p0 : Int) (Post : Pst) (hb : wp_X7_atOrAbove μ p0 Post) : MtC g l yX7_atOrAbove cX7_atOrAbove 4 (some .int) 0 [Rv 10, Iv p0] μ (QI g Post) := by
  intro hok
  refine enter (own := RX7) (by decide) rfl (Nat.le_of_ble_eq_true rfl) hok (fun X hl F hr hR => ?_)
  subst hl
  show V g X 4 μ [(0, Rv 10), (1, Iv p0)] 0 []
  unfold wp_X7_atOrAbove at hb
  obtain ⟨G4, g4, f4⟩ : ∃ G : Mem → Int → Int → Int → Prop, (∀ μ x1 x2 x3, G μ x1 x2 x3 → V g X 4 μ [(0, Rv 10), (1, Iv x1), (2, Iv x2), (3, Iv x3)] 4 []) ∧ (∀ μ x1 x2 x3, V g X 4 μ [(0, Rv 10), (1, Iv x1), (2, Iv x2), (3, Iv x3)] 4 [] → G μ x1 x2 x3) := ⟨fun μ x1 x2 x3 => V g X 4 μ [(0, Rv 10), (1, Iv x1), (2, Iv x2), (3, Iv x3)] 4 [], fun _ _ _ _ h => h, fun _ _ _ _ h => h⟩
  have K25 : ∀ (μ : Mem) (x1 : Int) (x2 : Int) (x3 : Int), b_X7_atOrAbove_25 G4 Post μ x1 x2 x3 → V g X 4 μ [(0, Rv 10), (1, Iv x1), (2, Iv x2), (3, Iv x3)] 25 [] := by
    intro μ x1 x2 x3 hb
    unfold b_X7_atOrAbove_25 at hb
    refine r_iincN (pc := 25) 3 (lf := fun x_1 => [(3, Iv x_1), (0, Rv 10), (1, Iv x1), (2, Iv x2)]) F dX7_atOrAbove_25 rfl (by decide) rfl (fun x_1 ex_1 => ?_)
    have hb := hb x_1 ex_1
    refine r_goto (pc := 28) (tgt := 4) F dX7_atOrAbove_28 (by decide) ?_
    exact V.sub [1, 2, 3, 0] rfl (g4 μ x1 x2 x_1 hb)
  have K4 : ∀ (μ : Mem) (x1 : Int) (x2 : Int) (x3 : Int), b_X7_atOrAbove_4 G4 Post μ x1 x2 x3 → V g X 4 μ [(0, Rv 10), (1, Iv x1), (2, Iv x2), (3, Iv x3)] 4 [] := by
    intro μ x1 x2 x3 hb
    unfold b_X7_atOrAbove_4 at hb
    refine r_iload_n (pc := 4) 3 F dX7_atOrAbove_4 rfl rfl ?_
    refine r_aload_n (pc := 5) 0 F dX7_atOrAbove_5 rfl rfl ?_
    refine gf_RX7_29 (pc := 6) F dX7_atOrAbove_6 ?_
    refine r_icmp_ge (pc := 9) (tgt := 31) F dX7_atOrAbove_9 (by decide) (fun c_2 => ?_) (fun c_2 => ?_)
    · have hb := hb.1 c_2
      refine r_iload_n (pc := 31) 2 F dX7_atOrAbove_31 rfl rfl ?_
      exact r_iret (pc := 32) F hR hr dX7_atOrAbove_32 hb
    · have hb := hb.2 c_2
      refine r_aload_n (pc := 12) 0 F dX7_atOrAbove_12 rfl rfl ?_
      refine gf_RX7_22 (pc := 13) F dX7_atOrAbove_13 ?_
      refine r_iload_n (pc := 16) 3 F dX7_atOrAbove_16 rfl rfl ?_
      have hg_3 := hb.1
      have hb := hb.2
      refine r_iald (pc := 17) F lc89.1 lc89.2.1 lc89.2.2 hg_3 dX7_atOrAbove_17 ?_
      refine r_iload_n (pc := 18) 1 F dX7_atOrAbove_18 rfl rfl ?_
      refine r_icmp_lt (pc := 19) (tgt := 25) F dX7_atOrAbove_19 (by decide) (fun c_4 => ?_) (fun c_4 => ?_)
      · have hb := hb.1 c_4
        exact V.sub [0, 1, 2, 3] rfl (K25 μ x1 x2 x3 hb)
      · have hb := hb.2 c_4
        refine r_iincN (pc := 22) 2 (lf := fun x_5 => [(2, Iv x_5), (0, Rv 10), (1, Iv x1), (3, Iv x3)]) F dX7_atOrAbove_22 rfl (by decide) rfl (fun x_5 ex_5 => ?_)
        have hb := hb x_5 ex_5
        exact V.sub [1, 2, 0, 3] rfl (K25 μ x1 x_5 x3 hb)
  have hb := hb G4 (fun μ x1 x2 x3 hb => f4 μ x1 x2 x3 (K4 μ x1 x2 x3 hb))
  unfold b_X7_atOrAbove_e at hb
  refine r_iconst (pc := 0) F dX7_atOrAbove_0 (inR_lit rfl) ?_
  refine r_istore_n (pc := 1) (lv' := [(2, Iv 0), (0, Rv 10), (1, Iv p0)]) F dX7_atOrAbove_1 rfl (by decide) rfl ?_
  refine r_iconst (pc := 2) F dX7_atOrAbove_2 (inR_lit rfl) ?_
  refine r_istore_n (pc := 3) (lv' := [(3, Iv 0), (2, Iv 0), (0, Rv 10), (1, Iv p0)]) F dX7_atOrAbove_3 rfl (by decide) rfl ?_
  exact V.sub [2, 3, 1, 0] rfl (g4 μ p0 0 0 hb)
set_option maxHeartbeats 4000000 in
set_option maxRecDepth 100000 in
theorem c_X7_cutUp {g : Wc} {l : Launch} (μ : Mem) (p0 : Int) (Post : Pst) (hb : wp_X7_cutUp μ p0 Post) : MtC g l yX7_cutUp cX7_cutUp 2 (some .int) 0 [Rv 10, Iv p0] μ (QI g Post) := by
  intro hok
  refine enter (own := RX7) (by decide) rfl (Nat.le_of_ble_eq_true rfl) hok (fun X hl F hr hR => ?_)
  subst hl
  show V g X 2 μ [(0, Rv 10), (1, Iv p0)] 0 []
  unfold wp_X7_cutUp at hb
  have hb := hb
  unfold b_X7_cutUp_e at hb
  refine r_aload_n (pc := 0) 0 F dX7_cutUp_0 rfl rfl ?_
  refine gf_RX7_9 (pc := 1) F dX7_cutUp_1 ?_
  refine r_iconst (pc := 4) F dX7_cutUp_4 (inR_lit rfl) ?_
  refine r_icmp_ge (pc := 5) (tgt := 12) F dX7_cutUp_5 (by decide) (fun c_1 => ?_) (fun c_1 => ?_)
  · have hb := hb.1 c_1
    refine r_iload_n (pc := 12) 1 F dX7_cutUp_12 rfl rfl ?_
    refine r_aload_n (pc := 13) 0 F dX7_cutUp_13 rfl rfl ?_
    refine gf_RX7_9 (pc := 14) F dX7_cutUp_14 ?_
    refine r_iadd (pc := 17) F dX7_cutUp_17 ?_
    refine r_iconst (pc := 18) F dX7_cutUp_18 (inR_lit rfl) ?_
    refine r_isub (pc := 19) F dX7_cutUp_19 ?_
    refine r_aload_n (pc := 20) 0 F dX7_cutUp_20 rfl rfl ?_
    refine gf_RX7_9 (pc := 21) F dX7_cutUp_21 ?_
    refine r_idiv (pc := 24) F dX7_cutUp_24 hb.1 ?_
    have hb := hb.2
    exact r_iret (pc := 25) F hR hr dX7_cutUp_25 hb
  · have hb := hb.2 c_1
    refine r_iload_n (pc := 8) 1 F dX7_cutUp_8 rfl rfl ?_
    refine r_goto (pc := 9) (tgt := 25) F dX7_cutUp_9 (by decide) ?_
    exact r_iret (pc := 25) F hR hr dX7_cutUp_25 hb
set_option maxHeartbeats 4000000 in
set_option maxRecDepth 100000 in
theorem c_X7_notSooner {g : Wc} {l : Launch} (μ : Mem) (Post : Pst) (hb : wp_X7_notSooner μ Post) : MtC g l yX7_notSooner cX7_notSooner 4 (some .int) 1 [Rv 10] μ (QI g Post) := by
  intro hok
  refine enter (own := RX7) (by decide) rfl (Nat.le_of_ble_eq_true rfl) hok (fun X hl F hr hR => ?_)
  subst hl
  show V g X 4 μ [(0, Rv 10)] 0 []
  unfold wp_X7_notSooner at hb
  obtain ⟨G4, g4, f4⟩ : ∃ G : Mem → Int → Int → Prop, (∀ μ x1 x2, G μ x1 x2 → V g X 4 μ [(0, Rv 10), (1, Iv x1), (2, Iv x2)] 4 []) ∧ (∀ μ x1 x2, V g X 4 μ [(0, Rv 10), (1, Iv x1), (2, Iv x2)] 4 [] → G μ x1 x2) := ⟨fun μ x1 x2 => V g X 4 μ [(0, Rv 10), (1, Iv x1), (2, Iv x2)] 4 [], fun _ _ _ h => h, fun _ _ _ h => h⟩
  have K36 : ∀ (μ : Mem) (x1 : Int) (x2 : Int), b_X7_notSooner_36 G4 Post μ x1 x2 → V g X 4 μ [(0, Rv 10), (1, Iv x1), (2, Iv x2)] 36 [] := by
    intro μ x1 x2 hb
    unfold b_X7_notSooner_36 at hb
    refine r_iincN (pc := 36) 2 (lf := fun x_1 => [(2, Iv x_1), (0, Rv 10), (1, Iv x1)]) F dX7_notSooner_36 rfl (by decide) rfl (fun x_1 ex_1 => ?_)
    have hb := hb x_1 ex_1
    refine r_goto (pc := 39) (tgt := 4) F dX7_notSooner_39 (by decide) ?_
    exact V.sub [1, 2, 0] rfl (g4 μ x1 x_1 hb)
  have K4 : ∀ (μ : Mem) (x1 : Int) (x2 : Int), b_X7_notSooner_4 G4 Post μ x1 x2 → V g X 4 μ [(0, Rv 10), (1, Iv x1), (2, Iv x2)] 4 [] := by
    intro μ x1 x2 hb
    unfold b_X7_notSooner_4 at hb
    refine r_iload_n (pc := 4) 2 F dX7_notSooner_4 rfl rfl ?_
    refine r_aload_n (pc := 5) 0 F dX7_notSooner_5 rfl rfl ?_
    refine gf_RX7_29 (pc := 6) F dX7_notSooner_6 ?_
    refine r_icmp_gt (pc := 9) (tgt := 42) F dX7_notSooner_9 (by decide) (fun c_2 => ?_) (fun c_2 => ?_)
    · have hb := hb.1 c_2
      refine r_iload_n (pc := 42) 1 F dX7_notSooner_42 rfl rfl ?_
      exact r_iret (pc := 43) F hR hr dX7_notSooner_43 hb
    · have hb := hb.2 c_2
      refine r_aload_n (pc := 12) 0 F dX7_notSooner_12 rfl rfl ?_
      refine r_iload_n (pc := 13) 2 F dX7_notSooner_13 rfl rfl ?_
      refine r_callI (pc := 14) (avs := [Iv x2]) (st := []) F (c_X7_atOrAbove μ x2 _ hb) (by decide) cal_X7_atOrAbove calv_X7_atOrAbove lk_RX7_71 rfl rfl (Nat.le_of_ble_eq_true rfl) dX7_notSooner_14 (fun r_3 μ_4 hb => ?_)
      refine r_istore_n (pc := 17) (lv' := [(3, Iv r_3), (0, Rv 10), (1, Iv x1), (2, Iv x2)]) F dX7_notSooner_17 rfl (by decide) rfl ?_
      refine r_iload_n (pc := 18) 0 F dX7_notSooner_18 rfl rfl ?_
      refine r_if_le (pc := 19) (tgt := 36) F dX7_notSooner_19 (by decide) (fun c_5 => ?_) (fun c_5 => ?_)
      · have hb := hb.1 c_5
        exact V.sub [1, 2, 3] rfl (K36 μ_4 x1 x2 hb)
      · have hb := hb.2 c_5
        refine r_iload_n (pc := 22) 2 F dX7_notSooner_22 rfl rfl ?_
        refine r_iload_n (pc := 23) 3 F dX7_notSooner_23 rfl rfl ?_
        refine r_iconst (pc := 24) F dX7_notSooner_24 (inR_lit rfl) ?_
        refine r_isub (pc := 25) F dX7_notSooner_25 ?_
        refine r_aload_n (pc := 26) 1 F dX7_notSooner_26 rfl rfl ?_
        refine r_iload_n (pc := 27) 0 F dX7_notSooner_27 rfl rfl ?_
        refine r_callI (pc := 28) (avs := [Iv r_3]) (st := [Iv (wrap (x2 - 1)), Iv x1]) F (c_X7_cutUp μ_4 r_3 _ hb) (by decide) cal_X7_cutUp calv_X7_cutUp lk_RX7_74 rfl rfl (Nat.le_of_ble_eq_true rfl) dX7_notSooner_28 (fun r_6 μ_7 hb => ?_)
        refine r_iadd (pc := 31) F dX7_notSooner_31 ?_
        refine r_max (pc := 32) F (by first | decide | omega) lk_RX7_77 km_max.1 km_max.2.1 km_max.2.2 (Nat.le_of_ble_eq_true rfl) dX7_notSooner_32 ?_
        refine V.nmI (fun x_8 ex_8 => ?_)
        have hb := hb x_8 ex_8
        refine r_istore_n (pc := 35) (lv' := [(1, Iv x_8), (3, Iv r_3), (0, Rv 10), (2, Iv x2)]) F dX7_notSooner_35 rfl (by decide) rfl ?_
        exact V.sub [2, 0, 3] rfl (K36 μ_7 x_8 x2 hb)
  have hb := hb G4 (fun μ x1 x2 hb => f4 μ x1 x2 (K4 μ x1 x2 hb))
  unfold b_X7_notSooner_e at hb
  refine r_iconst (pc := 0) F dX7_notSooner_0 (inR_lit rfl) ?_
  refine r_istore_n (pc := 1) (lv' := [(1, Iv 0), (0, Rv 10)]) F dX7_notSooner_1 rfl (by decide) rfl ?_
  refine r_iconst (pc := 2) F dX7_notSooner_2 (inR_lit rfl) ?_
  refine r_istore_n (pc := 3) (lv' := [(2, Iv 1), (1, Iv 0), (0, Rv 10)]) F dX7_notSooner_3 rfl (by decide) rfl ?_
  exact V.sub [2, 1, 0] rfl (g4 μ 0 1 hb)
set_option maxHeartbeats 4000000 in
set_option maxRecDepth 100000 in
theorem c_X10_least {g : Wc} {l : Launch} (μ : Mem) (p0 : Int) (Post : Pst) (hb : wp_X10_least μ p0 Post) : MtC g l yX10_least cX10_least 2 (some .int) 9 [Rv 0, Iv p0] μ (QI g Post) := by
  intro hok
  refine enter (own := RX10) (by decide) rfl (Nat.le_of_ble_eq_true rfl) hok (fun X hl F hr hR => ?_)
  subst hl
  show V g X 2 μ [(0, Rv 0), (1, Iv p0)] 0 []
  unfold wp_X10_least at hb
  have hb := hb
  unfold b_X10_least_e at hb
  refine r_iload_n (pc := 0) 1 F dX10_least_0 rfl rfl ?_
  refine r_iconst (pc := 1) F dX10_least_1 (inR_lit rfl) ?_
  refine r_iconst (pc := 2) F dX10_least_2 (inR_lit rfl) ?_
  refine r_callSI (pc := 3) (avs := [Iv p0, Iv 0, Iv 1]) (st := []) F (c_X10_isFrom μ p0 0 1 _ hb) (by decide) cal_X10_isFrom st_X10_isFrom lk_RX10_90 rfl rfl (Nat.le_of_ble_eq_true rfl) dX10_least_3 (fun r_1 μ_2 hb => ?_)
  refine r_if_ne (pc := 6) (tgt := 12) F dX10_least_6 (by decide) (fun c_3 => ?_) (fun c_3 => ?_)
  · have hb := hb.1 c_3
    refine r_iload_n (pc := 12) 1 F dX10_least_12 rfl rfl ?_
    refine r_if_ne (pc := 13) (tgt := 26) F dX10_least_13 (by decide) (fun c_4 => ?_) (fun c_4 => ?_)
    · have hb := hb.1 c_4
      refine r_aload_n (pc := 26) 0 F dX10_least_26 rfl rfl ?_
      refine gf_RX10_79 (pc := 27) F dX10_least_27 ?_
      refine r_callI (pc := 30) (avs := []) (st := []) F (c_X7_notSooner μ_2 _ hb) (by decide) cal_X7_notSooner calv_X7_notSooner lk_RX10_229 rfl rfl (Nat.le_of_ble_eq_true rfl) dX10_least_30 (fun r_5 μ_6 hb => ?_)
      exact r_iret (pc := 33) F hR hr dX10_least_33 hb
    · have hb := hb.2 c_4
      refine r_aload_n (pc := 16) 0 F dX10_least_16 rfl rfl ?_
      refine gf_RX10_79 (pc := 17) F dX10_least_17 ?_
      refine r_callI (pc := 20) (avs := []) (st := []) F (c_X7_leastMinutes μ_2 _ hb) (by decide) cal_X7_leastMinutes calv_X7_leastMinutes lk_RX10_226 rfl rfl (Nat.le_of_ble_eq_true rfl) dX10_least_20 (fun r_7 μ_8 hb => ?_)
      refine r_goto (pc := 23) (tgt := 33) F dX10_least_23 (by decide) ?_
      exact r_iret (pc := 33) F hR hr dX10_least_33 hb
  · have hb := hb.2 c_3
    refine r_bipush (pc := 9) F dX10_least_9 (inR_lit rfl) (by decide) ?_
    exact r_iret (pc := 11) F hR hr dX10_least_11 hb
set_option maxHeartbeats 4000000 in
set_option maxRecDepth 100000 in
theorem c_X7_highestOf {g : Wc} {l : Launch} (μ : Mem) (p0 : Int) (Post : Pst) (hb : wp_X7_highestOf μ p0 Post) : MtC g l yX7_highestOf cX7_highestOf 4 (some .int) 1 [Rv 10, Iv p0] μ (QI g Post) := by
  intro hok
  refine enter (own := RX7) (by decide) rfl (Nat.le_of_ble_eq_true rfl) hok (fun X hl F hr hR => ?_)
  subst hl
  show V g X 4 μ [(0, Rv 10), (1, Iv p0)] 0 []
  unfold wp_X7_highestOf at hb
  obtain ⟨G9, g9, f9⟩ : ∃ G : Mem → Int → Int → Int → Prop, (∀ μ x1 x2 x3, G μ x1 x2 x3 → V g X 4 μ [(0, Rv 10), (1, Iv x1), (2, Iv x2), (3, Iv x3)] 9 []) ∧ (∀ μ x1 x2 x3, V g X 4 μ [(0, Rv 10), (1, Iv x1), (2, Iv x2), (3, Iv x3)] 9 [] → G μ x1 x2 x3) := ⟨fun μ x1 x2 x3 => V g X 4 μ [(0, Rv 10), (1, Iv x1), (2, Iv x2), (3, Iv x3)] 9 [], fun _ _ _ _ h => h, fun _ _ _ _ h => h⟩
  have K42 : ∀ (μ : Mem) (x1 : Int) (x2 : Int) (x3 : Int), b_X7_highestOf_42 G9 Post μ x1 x2 x3 → V g X 4 μ [(0, Rv 10), (1, Iv x1), (2, Iv x2), (3, Iv x3)] 42 [] := by
    intro μ x1 x2 x3 hb
    unfold b_X7_highestOf_42 at hb
    refine r_iincN (pc := 42) 3 (lf := fun x_1 => [(3, Iv x_1), (0, Rv 10), (1, Iv x1), (2, Iv x2)]) F dX7_highestOf_42 rfl (by decide) rfl (fun x_1 ex_1 => ?_)
    have hb := hb x_1 ex_1
    refine r_goto (pc := 45) (tgt := 9) F dX7_highestOf_45 (by decide) ?_
    exact V.sub [1, 2, 3, 0] rfl (g9 μ x1 x2 x_1 hb)
  have K9 : ∀ (μ : Mem) (x1 : Int) (x2 : Int) (x3 : Int), b_X7_highestOf_9 G9 Post μ x1 x2 x3 → V g X 4 μ [(0, Rv 10), (1, Iv x1), (2, Iv x2), (3, Iv x3)] 9 [] := by
    intro μ x1 x2 x3 hb
    unfold b_X7_highestOf_9 at hb
    refine r_iload_n (pc := 9) 3 F dX7_highestOf_9 rfl rfl ?_
    refine r_aload_n (pc := 10) 0 F dX7_highestOf_10 rfl rfl ?_
    refine gf_RX7_29 (pc := 11) F dX7_highestOf_11 ?_
    refine r_icmp_ge (pc := 14) (tgt := 48) F dX7_highestOf_14 (by decide) (fun c_2 => ?_) (fun c_2 => ?_)
    · have hb := hb.1 c_2
      refine r_iload_n (pc := 48) 2 F dX7_highestOf_48 rfl rfl ?_
      exact r_iret (pc := 49) F hR hr dX7_highestOf_49 hb
    · have hb := hb.2 c_2
      refine r_iload_n (pc := 17) 1 F dX7_highestOf_17 rfl rfl ?_
      refine r_iload_n (pc := 18) 3 F dX7_highestOf_18 rfl rfl ?_
      refine r_callNI (pc := 19) (avs := [Iv x1, Iv x3]) (st := []) F (c_X10_isIn μ x1 x3 _ hb) (by decide) cal_X10_isIn st_X10_isIn lk_RX7_32 rfl rfl (Nat.le_of_ble_eq_true rfl) dX7_highestOf_19 (fun r_3 μ_4 hb => ?_)
      refine r_if_eq (pc := 22) (tgt := 42) F dX7_highestOf_22 (by decide) (fun c_5 => ?_) (fun c_5 => ?_)
      · have hb := hb.1 c_5
        exact V.sub [0, 1, 2, 3] rfl (K42 μ_4 x1 x2 x3 hb)
      · have hb := hb.2 c_5
        refine r_aload_n (pc := 25) 0 F dX7_highestOf_25 rfl rfl ?_
        refine gf_RX7_22 (pc := 26) F dX7_highestOf_26 ?_
        refine r_iload_n (pc := 29) 3 F dX7_highestOf_29 rfl rfl ?_
        have hg_6 := hb.1
        have hb := hb.2
        refine r_iald (pc := 30) F lc89.1 lc89.2.1 lc89.2.2 hg_6 dX7_highestOf_30 ?_
        refine r_aload_n (pc := 31) 0 F dX7_highestOf_31 rfl rfl ?_
        refine gf_RX7_22 (pc := 32) F dX7_highestOf_32 ?_
        refine r_iload_n (pc := 35) 2 F dX7_highestOf_35 rfl rfl ?_
        have hg_7 := hb.1
        have hb := hb.2
        refine r_iald (pc := 36) F lc89.1 lc89.2.1 lc89.2.2 hg_7 dX7_highestOf_36 ?_
        refine r_icmp_le (pc := 37) (tgt := 42) F dX7_highestOf_37 (by decide) (fun c_8 => ?_) (fun c_8 => ?_)
        · have hb := hb.1 c_8
          exact V.sub [0, 1, 2, 3] rfl (K42 μ_4 x1 x2 x3 hb)
        · have hb := hb.2 c_8
          refine r_iload_n (pc := 40) 3 F dX7_highestOf_40 rfl rfl ?_
          refine r_istore_n (pc := 41) (lv' := [(2, Iv x3), (0, Rv 10), (1, Iv x1), (3, Iv x3)]) F dX7_highestOf_41 rfl (by decide) rfl ?_
          exact V.sub [1, 2, 0, 3] rfl (K42 μ_4 x1 x3 x3 hb)
  have hb := hb G9 (fun μ x1 x2 x3 hb => f9 μ x1 x2 x3 (K9 μ x1 x2 x3 hb))
  unfold b_X7_highestOf_e at hb
  refine r_iload_n (pc := 0) 1 F dX7_highestOf_0 rfl rfl ?_
  refine r_callSI (pc := 1) (avs := [Iv p0]) (st := []) F (c_J6_numberOfTrailingZeros_0f7a4 μ p0 _ hb) (by decide) cal_J6_numberOfTrailingZeros_0f7a4 st_J6_numberOfTrailingZeros_0f7a4 lk_RX7_47 rfl rfl (Nat.le_of_ble_eq_true rfl) dX7_highestOf_1 (fun r_9 μ_10 hb => ?_)
  refine r_istore_n (pc := 4) (lv' := [(2, Iv r_9), (0, Rv 10), (1, Iv p0)]) F dX7_highestOf_4 rfl (by decide) rfl ?_
  refine r_iload_n (pc := 5) 0 F dX7_highestOf_5 rfl rfl ?_
  refine r_iconst (pc := 6) F dX7_highestOf_6 (inR_lit rfl) ?_
  refine r_iadd (pc := 7) F dX7_highestOf_7 ?_
  refine V.nmI (fun x_11 ex_11 => ?_)
  have hb := hb x_11 ex_11
  refine r_istore_n (pc := 8) (lv' := [(3, Iv x_11), (2, Iv r_9), (0, Rv 10), (1, Iv p0)]) F dX7_highestOf_8 rfl (by decide) rfl ?_
  exact V.sub [2, 3, 1, 0] rfl (g9 μ_10 p0 r_9 x_11 hb)
set_option maxHeartbeats 4000000 in
set_option maxRecDepth 100000 in
theorem c_X7_goByLevels {g : Wc} {l : Launch} (μ : Mem) (Post : Pst) (hb : wp_X7_goByLevels μ Post) : MtC g l yX7_goByLevels cX7_goByLevels 6 (some .int) 2 [Rv 10] μ (QI g Post) := by
  intro hok
  refine enter (own := RX7) (by decide) rfl (Nat.le_of_ble_eq_true rfl) hok (fun X hl F hr hR => ?_)
  subst hl
  show V g X 6 μ [(0, Rv 10)] 0 []
  unfold wp_X7_goByLevels at hb
  obtain ⟨G4, g4, f4⟩ : ∃ G : Mem → Int → Int → Prop, (∀ μ x1 x2, G μ x1 x2 → V g X 6 μ [(0, Rv 10), (1, Iv x1), (2, Iv x2)] 4 []) ∧ (∀ μ x1 x2, V g X 6 μ [(0, Rv 10), (1, Iv x1), (2, Iv x2)] 4 [] → G μ x1 x2) := ⟨fun μ x1 x2 => V g X 6 μ [(0, Rv 10), (1, Iv x1), (2, Iv x2)] 4 [], fun _ _ _ h => h, fun _ _ _ h => h⟩
  obtain ⟨G27, g27, f27⟩ : ∃ G : Mem → Int → Int → Int → Int → Prop, (∀ μ x1 x2 x3 x4, G μ x1 x2 x3 x4 → V g X 6 μ [(0, Rv 10), (1, Iv x1), (2, Iv x2), (3, Iv x3), (4, Iv x4)] 27 []) ∧ (∀ μ x1 x2 x3 x4, V g X 6 μ [(0, Rv 10), (1, Iv x1), (2, Iv x2), (3, Iv x3), (4, Iv x4)] 27 [] → G μ x1 x2 x3 x4) := ⟨fun μ x1 x2 x3 x4 => V g X 6 μ [(0, Rv 10), (1, Iv x1), (2, Iv x2), (3, Iv x3), (4, Iv x4)] 27 [], fun _ _ _ _ _ h => h, fun _ _ _ _ _ h => h⟩
  have K77 : ∀ (μ : Mem) (x1 : Int) (x2 : Int), b_X7_goByLevels_77 G4 G27 Post μ x1 x2 → V g X 6 μ [(0, Rv 10), (1, Iv x1), (2, Iv x2)] 77 [] := by
    intro μ x1 x2 hb
    unfold b_X7_goByLevels_77 at hb
    refine r_iincN (pc := 77) 2 (lf := fun x_1 => [(2, Iv x_1), (0, Rv 10), (1, Iv x1)]) F dX7_goByLevels_77 rfl (by decide) rfl (fun x_1 ex_1 => ?_)
    have hb := hb x_1 ex_1
    refine r_goto (pc := 80) (tgt := 4) F dX7_goByLevels_80 (by decide) ?_
    exact V.sub [1, 2, 0] rfl (g4 μ x1 x_1 hb)
  have K4 : ∀ (μ : Mem) (x1 : Int) (x2 : Int), b_X7_goByLevels_4 G4 G27 Post μ x1 x2 → V g X 6 μ [(0, Rv 10), (1, Iv x1), (2, Iv x2)] 4 [] := by
    intro μ x1 x2 hb
    unfold b_X7_goByLevels_4 at hb
    refine r_iload_n (pc := 4) 2 F dX7_goByLevels_4 rfl rfl ?_
    refine r_bipush (pc := 5) F dX7_goByLevels_5 (inR_lit rfl) (by decide) ?_
    refine r_icmp_ge (pc := 7) (tgt := 83) F dX7_goByLevels_7 (by decide) (fun c_2 => ?_) (fun c_2 => ?_)
    · have hb := hb.1 c_2
      refine r_iload_n (pc := 83) 2 F dX7_goByLevels_83 rfl rfl ?_
      exact r_iret (pc := 84) F hR hr dX7_goByLevels_84 hb
    · have hb := hb.2 c_2
      refine r_iload_n (pc := 10) 1 F dX7_goByLevels_10 rfl rfl ?_
      refine r_aload_n (pc := 11) 0 F dX7_goByLevels_11 rfl rfl ?_
      refine r_callI (pc := 12) (avs := []) (st := [Iv x1]) F (c_X7_all μ _ hb) (by decide) cal_X7_all calv_X7_all lk_RX7_36 rfl rfl (Nat.le_of_ble_eq_true rfl) dX7_goByLevels_12 (fun r_3 μ_4 hb => ?_)
      refine r_icmp_eq (pc := 15) (tgt := 83) F dX7_goByLevels_15 (by decide) (fun c_5 => ?_) (fun c_5 => ?_)
      · have hb := hb.1 c_5
        refine r_iload_n (pc := 83) 2 F dX7_goByLevels_83 rfl rfl ?_
        exact r_iret (pc := 84) F hR hr dX7_goByLevels_84 hb
      · have hb := hb.2 c_5
        refine r_aload_n (pc := 18) 0 F dX7_goByLevels_18 rfl rfl ?_
        refine r_iload_n (pc := 19) 1 F dX7_goByLevels_19 rfl rfl ?_
        refine r_callI (pc := 20) (avs := [Iv x1]) (st := []) F (c_X7_freeBehind μ_4 x1 _ hb) (by decide) cal_X7_freeBehind calv_X7_freeBehind lk_RX7_40 rfl rfl (Nat.le_of_ble_eq_true rfl) dX7_goByLevels_20 (fun r_6 μ_7 hb => ?_)
        refine r_istore_n (pc := 23) (lv' := [(3, Iv r_6), (0, Rv 10), (1, Iv x1), (2, Iv x2)]) F dX7_goByLevels_23 rfl (by decide) rfl ?_
        refine r_iconst (pc := 24) F dX7_goByLevels_24 (inR_lit rfl) ?_
        refine r_istore (pc := 25) (lv' := [(4, Iv 0), (3, Iv r_6), (0, Rv 10), (1, Iv x1), (2, Iv x2)]) F dX7_goByLevels_25 (by decide) rfl ?_
        exact V.sub [2, 3, 4, 1, 0] rfl (g27 μ_7 x1 x2 r_6 0 hb)
  have K27 : ∀ (μ : Mem) (x1 : Int) (x2 : Int) (x3 : Int) (x4 : Int), b_X7_goByLevels_27 G4 G27 Post μ x1 x2 x3 x4 → V g X 6 μ [(0, Rv 10), (1, Iv x1), (2, Iv x2), (3, Iv x3), (4, Iv x4)] 27 [] := by
    intro μ x1 x2 x3 x4 hb
    unfold b_X7_goByLevels_27 at hb
    refine r_iload (pc := 27) 4 F dX7_goByLevels_27 rfl ?_
    refine r_aload_n (pc := 29) 0 F dX7_goByLevels_29 rfl rfl ?_
    refine gf_RX7_9 (pc := 30) F dX7_goByLevels_30 ?_
    refine r_icmp_ge (pc := 33) (tgt := 77) F dX7_goByLevels_33 (by decide) (fun c_8 => ?_) (fun c_8 => ?_)
    · have hb := hb.1 c_8
      exact V.sub [0, 1, 2] rfl (K77 μ x1 x2 hb)
    · have hb := hb.2 c_8
      refine r_iload_n (pc := 36) 3 F dX7_goByLevels_36 rfl rfl ?_
      refine r_if_eq (pc := 37) (tgt := 77) F dX7_goByLevels_37 (by decide) (fun c_9 => ?_) (fun c_9 => ?_)
      · have hb := hb.1 c_9
        exact V.sub [0, 1, 2] rfl (K77 μ x1 x2 hb)
      · have hb := hb.2 c_9
        refine r_aload_n (pc := 40) 0 F dX7_goByLevels_40 rfl rfl ?_
        refine r_iload_n (pc := 41) 3 F dX7_goByLevels_41 rfl rfl ?_
        refine r_callI (pc := 42) (avs := [Iv x3]) (st := []) F (c_X7_highestOf μ x3 _ hb) (by decide) cal_X7_highestOf calv_X7_highestOf lk_RX7_44 rfl rfl (Nat.le_of_ble_eq_true rfl) dX7_goByLevels_42 (fun r_10 μ_11 hb => ?_)
        refine r_istore (pc := 45) (lv' := [(5, Iv r_10), (0, Rv 10), (1, Iv x1), (2, Iv x2), (3, Iv x3), (4, Iv x4)]) F dX7_goByLevels_45 (by decide) rfl ?_
        refine r_aload_n (pc := 47) 1 F dX7_goByLevels_47 rfl rfl ?_
        refine gf_RX7_15 (pc := 48) F dX7_goByLevels_48 ?_
        refine r_iload (pc := 51) 0 F dX7_goByLevels_51 rfl ?_
        refine r_iload_n (pc := 53) 3 F dX7_goByLevels_53 rfl rfl ?_
        have hg_12 := hb.1
        have hb := hb.2
        refine r_iast (pc := 54) F lc87.1 lc87.2.1 lc87.2.2 hg_12 dX7_goByLevels_54 ?_
        refine V.nmM (fun μ_13 eμ_13 => ?_)
        have hb := hb μ_13 eμ_13
        refine r_iload_n (pc := 55) 4 F dX7_goByLevels_55 rfl rfl ?_
        refine r_iconst (pc := 56) F dX7_goByLevels_56 (inR_lit rfl) ?_
        refine r_iload (pc := 57) 0 F dX7_goByLevels_57 rfl ?_
        refine r_ishl (pc := 59) F dX7_goByLevels_59 ?_
        refine r_iconst (pc := 60) F dX7_goByLevels_60 (inR_lit rfl) ?_
        refine r_ixor (pc := 61) F dX7_goByLevels_61 ?_
        refine r_iand (pc := 62) F dX7_goByLevels_62 ?_
        refine V.nmI (fun x_14 ex_14 => ?_)
        have hb := hb x_14 ex_14
        refine r_istore_n (pc := 63) (lv' := [(3, Iv x_14), (5, Iv r_10), (0, Rv 10), (1, Iv x1), (2, Iv x2), (4, Iv x4)]) F dX7_goByLevels_63 rfl (by decide) rfl ?_
        refine r_iload_n (pc := 64) 3 F dX7_goByLevels_64 rfl rfl ?_
        refine r_iconst (pc := 65) F dX7_goByLevels_65 (inR_lit rfl) ?_
        refine r_iload (pc := 66) 1 F dX7_goByLevels_66 rfl ?_
        refine r_ishl (pc := 68) F dX7_goByLevels_68 ?_
        refine r_ior (pc := 69) F dX7_goByLevels_69 ?_
        refine V.nmI (fun x_15 ex_15 => ?_)
        have hb := hb x_15 ex_15
        refine r_istore_n (pc := 70) (lv' := [(1, Iv x_15), (3, Iv x_14), (5, Iv r_10), (0, Rv 10), (2, Iv x2), (4, Iv x4)]) F dX7_goByLevels_70 rfl (by decide) rfl ?_
        refine r_iincN (pc := 71) 5 (lf := fun x_16 => [(4, Iv x_16), (1, Iv x_15), (3, Iv x_14), (5, Iv r_10), (0, Rv 10), (2, Iv x2)]) F dX7_goByLevels_71 rfl (by decide) rfl (fun x_16 ex_16 => ?_)
        have hb := hb x_16 ex_16
        refine r_goto (pc := 74) (tgt := 27) F dX7_goByLevels_74 (by decide) ?_
        exact V.sub [4, 1, 5, 2, 0] rfl (g27 μ_13 x_15 x2 x_14 x_16 hb)
  have hb := hb G4 G27 (fun μ x1 x2 hb => f4 μ x1 x2 (K4 μ x1 x2 hb)) (fun μ x1 x2 x3 x4 hb => f27 μ x1 x2 x3 x4 (K27 μ x1 x2 x3 x4 hb))
  unfold b_X7_goByLevels_e at hb
  refine r_iconst (pc := 0) F dX7_goByLevels_0 (inR_lit rfl) ?_
  refine r_istore_n (pc := 1) (lv' := [(1, Iv 0), (0, Rv 10)]) F dX7_goByLevels_1 rfl (by decide) rfl ?_
  refine r_iconst (pc := 2) F dX7_goByLevels_2 (inR_lit rfl) ?_
  refine r_istore_n (pc := 3) (lv' := [(2, Iv 0), (1, Iv 0), (0, Rv 10)]) F dX7_goByLevels_3 rfl (by decide) rfl ?_
  exact V.sub [2, 1, 0] rfl (g4 μ 0 0 hb)
set_option maxHeartbeats 4000000 in
set_option maxRecDepth 100000 in
theorem c_X10_levels {g : Wc} {l : Launch} (μ : Mem) (p0 : Int) (Post : Pst) (hb : wp_X10_levels μ p0 Post) : MtC g l yX10_levels cX10_levels 3 (some .int) 3 [Rv 0, Iv p0] μ (QI g Post) := by
  intro hok
  refine enter (own := RX10) (by decide) rfl (Nat.le_of_ble_eq_true rfl) hok (fun X hl F hr hR => ?_)
  subst hl
  show V g X 3 μ [(0, Rv 0), (1, Iv p0)] 0 []
  unfold wp_X10_levels at hb
  have hb := hb
  unfold b_X10_levels_e at hb
  refine r_iload_n (pc := 0) 1 F dX10_levels_0 rfl rfl ?_
  refine r_iconst (pc := 1) F dX10_levels_1 (inR_lit rfl) ?_
  refine r_aload_n (pc := 2) 0 F dX10_levels_2 rfl rfl ?_
  refine gf_RX10_79 (pc := 3) F dX10_levels_3 ?_
  refine gf_RX10_214 (pc := 6) F dX10_levels_6 ?_
  refine r_iconst (pc := 9) F dX10_levels_9 (inR_lit rfl) ?_
  refine r_isub (pc := 10) F dX10_levels_10 ?_
  refine r_callSI (pc := 11) (avs := [Iv p0, Iv (-1), Iv (wrap ((μ 10 0) - 1))]) (st := []) F (c_X10_isFrom μ p0 (-1) (wrap ((μ 10 0) - 1)) _ hb) (by decide) cal_X10_isFrom st_X10_isFrom lk_RX10_90 rfl rfl (Nat.le_of_ble_eq_true rfl) dX10_levels_11 (fun r_1 μ_2 hb => ?_)
  refine r_if_ne (pc := 14) (tgt := 20) F dX10_levels_14 (by decide) (fun c_3 => ?_) (fun c_3 => ?_)
  · have hb := hb.1 c_3
    refine r_aload_n (pc := 20) 0 F dX10_levels_20 rfl rfl ?_
    refine gf_RX10_79 (pc := 21) F dX10_levels_21 ?_
    refine r_callI (pc := 24) (avs := []) (st := []) F (c_X7_goByLevels μ_2 _ hb) (by decide) cal_X7_goByLevels calv_X7_goByLevels lk_RX10_220 rfl rfl (Nat.le_of_ble_eq_true rfl) dX10_levels_24 (fun r_4 μ_5 hb => ?_)
    refine r_istore_n (pc := 27) (lv' := [(2, Iv r_4), (0, Rv 0), (1, Iv p0)]) F dX10_levels_27 rfl (by decide) rfl ?_
    refine r_iload_n (pc := 28) 2 F dX10_levels_28 rfl rfl ?_
    refine r_iconst (pc := 29) F dX10_levels_29 (inR_lit rfl) ?_
    refine r_icmp_ne (pc := 30) (tgt := 37) F dX10_levels_30 (by decide) (fun c_6 => ?_) (fun c_6 => ?_)
    · have hb := hb.1 c_6
      refine r_aload_n (pc := 37) 1 F dX10_levels_37 rfl rfl ?_
      refine gf_RX10_79 (pc := 38) F dX10_levels_38 ?_
      refine gf_RX10_223 (pc := 41) F dX10_levels_41 ?_
      refine r_iload_n (pc := 44) 2 F dX10_levels_44 rfl rfl ?_
      have hg_7 := hb.1
      have hb := hb.2
      refine r_iald (pc := 45) F lc87.1 lc87.2.1 lc87.2.2 hg_7 dX10_levels_45 ?_
      exact r_iret (pc := 46) F hR hr dX10_levels_46 hb
    · have hb := hb.2 c_6
      refine r_iload_n (pc := 33) 0 F dX10_levels_33 rfl rfl ?_
      refine r_goto (pc := 34) (tgt := 46) F dX10_levels_34 (by decide) ?_
      exact r_iret (pc := 46) F hR hr dX10_levels_46 hb
  · have hb := hb.2 c_3
    refine r_bipush (pc := 17) F dX10_levels_17 (inR_lit rfl) (by decide) ?_
    exact r_iret (pc := 19) F hR hr dX10_levels_19 hb
set_option maxHeartbeats 4000000 in
set_option maxRecDepth 100000 in
theorem c_X10_likes {g : Wc} {l : Launch} (μ : Mem) (p0 : Int) (Post : Pst) (hb : wp_X10_likes μ p0 Post) : MtC g l yX10_likes cX10_likes 3 (some .int) 1 [Rv 0, Iv p0] μ (QI g Post) := by
  intro hok
  refine enter (own := RX10) (by decide) rfl (Nat.le_of_ble_eq_true rfl) hok (fun X hl F hr hR => ?_)
  subst hl
  show V g X 3 μ [(0, Rv 0), (1, Iv p0)] 0 []
  unfold wp_X10_likes at hb
  have hb := hb
  unfold b_X10_likes_e at hb
  refine r_iload_n (pc := 0) 1 F dX10_likes_0 rfl rfl ?_
  refine r_iconst (pc := 1) F dX10_likes_1 (inR_lit rfl) ?_
  refine r_iconst (pc := 2) F dX10_likes_2 (inR_lit rfl) ?_
  refine r_callSI (pc := 3) (avs := [Iv p0, Iv 1, Iv 4]) (st := []) F (c_X10_isFrom μ p0 1 4 _ hb) (by decide) cal_X10_isFrom st_X10_isFrom lk_RX10_90 rfl rfl (Nat.le_of_ble_eq_true rfl) dX10_likes_3 (fun r_1 μ_2 hb => ?_)
  refine r_if_ne (pc := 6) (tgt := 12) F dX10_likes_6 (by decide) (fun c_3 => ?_) (fun c_3 => ?_)
  · have hb := hb.1 c_3
    refine r_aload_n (pc := 12) 0 F dX10_likes_12 rfl rfl ?_
    refine gf_RX10_79 (pc := 13) F dX10_likes_13 ?_
    refine gf_RX10_217 (pc := 16) F dX10_likes_16 ?_
    refine V.nmI (fun x_4 ex_4 => ?_)
    have hb := hb x_4 ex_4
    refine r_istore_n (pc := 19) (lv' := [(2, Iv x_4), (0, Rv 0), (1, Iv p0)]) F dX10_likes_19 rfl (by decide) rfl ?_
    refine r_aload_n (pc := 20) 1 F dX10_likes_20 rfl rfl ?_
    refine gf_RX10_79 (pc := 21) F dX10_likes_21 ?_
    refine r_iload_n (pc := 24) 2 F dX10_likes_24 rfl rfl ?_
    refine pf_RX10_217 (pc := 25) F dX10_likes_25 ?_
    refine V.nmM (fun μ_5 eμ_5 => ?_)
    have hb := hb μ_5 eμ_5
    refine r_iload_n (pc := 28) 0 F dX10_likes_28 rfl rfl ?_
    exact r_iret (pc := 29) F hR hr dX10_likes_29 hb
  · have hb := hb.2 c_3
    refine r_bipush (pc := 9) F dX10_likes_9 (inR_lit rfl) (by decide) ?_
    exact r_iret (pc := 11) F hR hr dX10_likes_11 hb
set_option maxHeartbeats 4000000 in
set_option maxRecDepth 100000 in
theorem c_X3_workIn {g : Wc} {l : Launch} (μ : Mem) (p0 : Int) (Post : Pst) (hb : wp_X3_workIn μ p0 Post) : MtC g l yX3_workIn cX3_workIn 4 (some .int) 2 [Rv 5, Iv p0] μ (QI g Post) := by
  intro hok
  refine enter (own := RX3) (by decide) rfl (Nat.le_of_ble_eq_true rfl) hok (fun X hl F hr hR => ?_)
  subst hl
  show V g X 4 μ [(0, Rv 5), (1, Iv p0)] 0 []
  unfold wp_X3_workIn at hb
  obtain ⟨G8, g8, f8⟩ : ∃ G : Mem → Int → Int → Int → Prop, (∀ μ x1 x2 x3, G μ x1 x2 x3 → V g X 4 μ [(0, Rv 5), (1, Iv x1), (2, Iv x2), (3, Iv x3)] 8 []) ∧ (∀ μ x1 x2 x3, V g X 4 μ [(0, Rv 5), (1, Iv x1), (2, Iv x2), (3, Iv x3)] 8 [] → G μ x1 x2 x3) := ⟨fun μ x1 x2 x3 => V g X 4 μ [(0, Rv 5), (1, Iv x1), (2, Iv x2), (3, Iv x3)] 8 [], fun _ _ _ _ h => h, fun _ _ _ _ h => h⟩
  have K8 : ∀ (μ : Mem) (x1 : Int) (x2 : Int) (x3 : Int), b_X3_workIn_8 G8 Post μ x1 x2 x3 → V g X 4 μ [(0, Rv 5), (1, Iv x1), (2, Iv x2), (3, Iv x3)] 8 [] := by
    intro μ x1 x2 x3 hb
    unfold b_X3_workIn_8 at hb
    refine r_iload_n (pc := 8) 3 F dX3_workIn_8 rfl rfl ?_
    refine r_iload_n (pc := 9) 1 F dX3_workIn_9 rfl rfl ?_
    refine r_icmp_gt (pc := 10) (tgt := 25) F dX3_workIn_10 (by decide) (fun c_1 => ?_) (fun c_1 => ?_)
    · have hb := hb.1 c_1
      refine r_iload_n (pc := 25) 2 F dX3_workIn_25 rfl rfl ?_
      exact r_iret (pc := 26) F hR hr dX3_workIn_26 hb
    · have hb := hb.2 c_1
      refine r_aload_n (pc := 13) 0 F dX3_workIn_13 rfl rfl ?_
      refine r_iload_n (pc := 14) 3 F dX3_workIn_14 rfl rfl ?_
      refine r_callI (pc := 15) (avs := [Iv x3]) (st := []) F (c_X3_workOn μ x3 _ hb) (by decide) cal_X3_workOn calv_X3_workOn lk_RX3_28 rfl rfl (Nat.le_of_ble_eq_true rfl) dX3_workIn_15 (fun r_2 μ_3 hb => ?_)
      refine r_istore_n (pc := 18) (lv' := [(2, Iv r_2), (0, Rv 5), (1, Iv x1), (3, Iv x3)]) F dX3_workIn_18 rfl (by decide) rfl ?_
      refine r_iincN (pc := 19) 3 (lf := fun x_4 => [(3, Iv x_4), (2, Iv r_2), (0, Rv 5), (1, Iv x1)]) F dX3_workIn_19 rfl (by decide) rfl (fun x_4 ex_4 => ?_)
      have hb := hb x_4 ex_4
      refine r_goto (pc := 22) (tgt := 8) F dX3_workIn_22 (by decide) ?_
      exact V.sub [2, 3, 1, 0] rfl (g8 μ_3 x1 r_2 x_4 hb)
  have hb := hb G8 (fun μ x1 x2 x3 hb => f8 μ x1 x2 x3 (K8 μ x1 x2 x3 hb))
  unfold b_X3_workIn_e at hb
  refine r_aload_n (pc := 0) 0 F dX3_workIn_0 rfl rfl ?_
  refine r_callV (pc := 1) (avs := []) (st := []) F (c_X3_begin μ _ hb) (by decide) cal_X3_begin calv_X3_begin lk_RX3_19 rfl rfl (Nat.le_of_ble_eq_true rfl) dX3_workIn_1 (fun μ_6 hb => ?_)
  refine r_iconst (pc := 4) F dX3_workIn_4 (inR_lit rfl) ?_
  refine r_istore_n (pc := 5) (lv' := [(2, Iv (-1)), (0, Rv 5), (1, Iv p0)]) F dX3_workIn_5 rfl (by decide) rfl ?_
  refine r_iconst (pc := 6) F dX3_workIn_6 (inR_lit rfl) ?_
  refine r_istore_n (pc := 7) (lv' := [(3, Iv 0), (2, Iv (-1)), (0, Rv 5), (1, Iv p0)]) F dX3_workIn_7 rfl (by decide) rfl ?_
  exact V.sub [2, 3, 1, 0] rfl (g8 μ_6 p0 (-1) 0 hb)
