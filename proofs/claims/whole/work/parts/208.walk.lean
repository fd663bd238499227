/-! Walks: X11_swap, X11_nextOrder, X11_leaves, X11_rowEnd, X11_goOver, X11_isPlace, X11_best, X11_bestRow, X11_bound. By program. -/
set_option maxHeartbeats 4000000 in
set_option maxRecDepth 100000 in
theorem c_X11_swap {g : Wc} {l : Launch} (μ : Mem) (p0 : Int) (p1 : Int) (Post : Pst) (hb : wp_X11_swap μ p0 p1 Post) : MtC g l yX11_swap cX11_swap 4 none 0 [Rv 11, Iv p0, Iv p1] μ (QV g Post) := by
  intro hok
  refine enter (own := RX11) (by decide) rfl (Nat.le_of_ble_eq_true rfl) hok (fun X hl F hr hR => ?_)
  subst hl
  show V g X 4 μ [(0, Rv 11), (1, Iv p0), (2, Iv p1)] 0 []
  unfold wp_X11_swap at hb
  have hb := hb
  unfold b_X11_swap_e at hb
  refine r_aload_n (pc := 0) 0 F dX11_swap_0 rfl rfl ?_
  refine gf_RX11_56 (pc := 1) F dX11_swap_1 ?_
  refine r_iload_n (pc := 4) 1 F dX11_swap_4 rfl rfl ?_
  have hg_1 := hb.1
  have hb := hb.2
  refine r_iald (pc := 5) F lc103.1 lc103.2.1 lc103.2.2 hg_1 dX11_swap_5 ?_
  refine V.nmI (fun x_2 ex_2 => ?_)
  have hb := hb x_2 ex_2
  refine r_istore_n (pc := 6) (lv' := [(3, Iv x_2), (0, Rv 11), (1, Iv p0), (2, Iv p1)]) F dX11_swap_6 rfl (by decide) rfl ?_
  refine r_aload_n (pc := 7) 1 F dX11_swap_7 rfl rfl ?_
  refine gf_RX11_56 (pc := 8) F dX11_swap_8 ?_
  refine r_iload_n (pc := 11) 2 F dX11_swap_11 rfl rfl ?_
  refine r_aload_n (pc := 12) 1 F dX11_swap_12 rfl rfl ?_
  refine gf_RX11_56 (pc := 13) F dX11_swap_13 ?_
  refine r_iload_n (pc := 16) 3 F dX11_swap_16 rfl rfl ?_
  have hg_3 := hb.1
  have hb := hb.2
  refine r_iald (pc := 17) F lc103.1 lc103.2.1 lc103.2.2 hg_3 dX11_swap_17 ?_
  have hg_4 := hb.1
  have hb := hb.2
  refine r_iast (pc := 18) F lc103.1 lc103.2.1 lc103.2.2 hg_4 dX11_swap_18 ?_
  refine V.nmM (fun μ_5 eμ_5 => ?_)
  have hb := hb μ_5 eμ_5
  refine r_aload_n (pc := 19) 1 F dX11_swap_19 rfl rfl ?_
  refine gf_RX11_56 (pc := 20) F dX11_swap_20 ?_
  refine r_iload_n (pc := 23) 3 F dX11_swap_23 rfl rfl ?_
  refine r_iload_n (pc := 24) 0 F dX11_swap_24 rfl rfl ?_
  have hg_6 := hb.1
  have hb := hb.2
  refine r_iast (pc := 25) F lc103.1 lc103.2.1 lc103.2.2 hg_6 dX11_swap_25 ?_
  refine V.nmM (fun μ_7 eμ_7 => ?_)
  have hb := hb μ_7 eμ_7
  exact r_vret (pc := 26) F hR hr dX11_swap_26 hb
set_option maxHeartbeats 4000000 in
set_option maxRecDepth 100000 in
theorem c_X11_nextOrder {g : Wc} {l : Launch} (μ : Mem) (Post : Pst) (hb : wp_X11_nextOrder μ Post) : MtC g l yX11_nextOrder cX11_nextOrder 5 (some .boolean) 1 [Rv 11] μ (QI g Post) := by
  intro hok
  refine enter (own := RX11) (by decide) rfl (Nat.le_of_ble_eq_true rfl) hok (fun X hl F hr hR => ?_)
  subst hl
  show V g X 5 μ [(0, Rv 11)] 0 []
  unfold wp_X11_nextOrder at hb
  obtain ⟨G7, g7, f7⟩ : ∃ G : Mem → Int → Prop, (∀ μ x1, G μ x1 → V g X 5 μ [(0, Rv 11), (1, Iv x1)] 7 []) ∧ (∀ μ x1, V g X 5 μ [(0, Rv 11), (1, Iv x1)] 7 [] → G μ x1) := ⟨fun μ x1 => V g X 5 μ [(0, Rv 11), (1, Iv x1)] 7 [], fun _ _ h => h, fun _ _ h => h⟩
  obtain ⟨G47, g47, f47⟩ : ∃ G : Mem → Int → Int → Prop, (∀ μ x1 x2, G μ x1 x2 → V g X 5 μ [(0, Rv 11), (1, Iv x1), (2, Iv x2)] 47 []) ∧ (∀ μ x1 x2, V g X 5 μ [(0, Rv 11), (1, Iv x1), (2, Iv x2)] 47 [] → G μ x1 x2) := ⟨fun μ x1 x2 => V g X 5 μ [(0, Rv 11), (1, Iv x1), (2, Iv x2)] 47 [], fun _ _ _ h => h, fun _ _ _ h => h⟩
  obtain ⟨G86, g86, f86⟩ : ∃ G : Mem → Int → Int → Prop, (∀ μ x3 x4, G μ x3 x4 → V g X 5 μ [(0, Rv 11), (3, Iv x3), (4, Iv x4)] 86 []) ∧ (∀ μ x3 x4, V g X 5 μ [(0, Rv 11), (3, Iv x3), (4, Iv x4)] 86 [] → G μ x3 x4) := ⟨fun μ x3 x4 => V g X 5 μ [(0, Rv 11), (3, Iv x3), (4, Iv x4)] 86 [], fun _ _ _ h => h, fun _ _ _ h => h⟩
  have K34 : ∀ (μ : Mem) (x1 : Int), b_X11_nextOrder_34 G7 G47 G86 Post μ x1 → V g X 5 μ [(0, Rv 11), (1, Iv x1)] 34 [] := by
    intro μ x1 hb
    unfold b_X11_nextOrder_34 at hb
    refine r_iload_n (pc := 34) 1 F dX11_nextOrder_34 rfl rfl ?_
    refine r_if_ge (pc := 35) (tgt := 40) F dX11_nextOrder_35 (by decide) (fun c_1 => ?_) (fun c_1 => ?_)
    · have hb := hb.1 c_1
      refine r_aload_n (pc := 40) 0 F dX11_nextOrder_40 rfl rfl ?_
      refine gf_RX11_83 (pc := 41) F dX11_nextOrder_41 ?_
      refine r_iconst (pc := 44) F dX11_nextOrder_44 (inR_lit rfl) ?_
      refine r_isub (pc := 45) F dX11_nextOrder_45 ?_
      refine V.nmI (fun x_2 ex_2 => ?_)
      have hb := hb x_2 ex_2
      refine r_istore_n (pc := 46) (lv' := [(2, Iv x_2), (0, Rv 11), (1, Iv x1)]) F dX11_nextOrder_46 rfl (by decide) rfl ?_
      exact V.sub [1, 2, 0] rfl (g47 μ x1 x_2 hb)
    · have hb := hb.2 c_1
      refine r_iconst (pc := 38) F dX11_nextOrder_38 (inR_lit rfl) ?_
      exact r_zret (pc := 39) F hR hr dX11_nextOrder_39 (Or.inl rfl) hb
  have K7 : ∀ (μ : Mem) (x1 : Int), b_X11_nextOrder_7 G7 G47 G86 Post μ x1 → V g X 5 μ [(0, Rv 11), (1, Iv x1)] 7 [] := by
    intro μ x1 hb
    unfold b_X11_nextOrder_7 at hb
    refine r_iload_n (pc := 7) 1 F dX11_nextOrder_7 rfl rfl ?_
    refine r_if_lt (pc := 8) (tgt := 34) F dX11_nextOrder_8 (by decide) (fun c_3 => ?_) (fun c_3 => ?_)
    · have hb := hb.1 c_3
      exact V.sub [0, 1] rfl (K34 μ x1 hb)
    · have hb := hb.2 c_3
      refine r_aload_n (pc := 11) 0 F dX11_nextOrder_11 rfl rfl ?_
      refine gf_RX11_56 (pc := 12) F dX11_nextOrder_12 ?_
      refine r_iload_n (pc := 15) 1 F dX11_nextOrder_15 rfl rfl ?_
      have hg_4 := hb.1
      have hb := hb.2
      refine r_iald (pc := 16) F lc103.1 lc103.2.1 lc103.2.2 hg_4 dX11_nextOrder_16 ?_
      refine r_aload_n (pc := 17) 0 F dX11_nextOrder_17 rfl rfl ?_
      refine gf_RX11_56 (pc := 18) F dX11_nextOrder_18 ?_
      refine r_iload_n (pc := 21) 1 F dX11_nextOrder_21 rfl rfl ?_
      refine r_iconst (pc := 22) F dX11_nextOrder_22 (inR_lit rfl) ?_
      refine r_iadd (pc := 23) F dX11_nextOrder_23 ?_
      have hg_5 := hb.1
      have hb := hb.2
      refine r_iald (pc := 24) F lc103.1 lc103.2.1 lc103.2.2 hg_5 dX11_nextOrder_24 ?_
      refine r_icmp_le (pc := 25) (tgt := 34) F dX11_nextOrder_25 (by decide) (fun c_6 => ?_) (fun c_6 => ?_)
      · have hb := hb.1 c_6
        exact V.sub [0, 1] rfl (K34 μ x1 hb)
      · have hb := hb.2 c_6
        refine r_iincN (pc := 28) 1 (lf := fun x_7 => [(1, Iv x_7), (0, Rv 11)]) F dX11_nextOrder_28 rfl (by decide) rfl (fun x_7 ex_7 => ?_)
        have hb := hb x_7 ex_7
        refine r_goto (pc := 31) (tgt := 7) F dX11_nextOrder_31 (by decide) ?_
        exact V.sub [1, 0] rfl (g7 μ x_7 hb)
  have K47 : ∀ (μ : Mem) (x1 : Int) (x2 : Int), b_X11_nextOrder_47 G7 G47 G86 Post μ x1 x2 → V g X 5 μ [(0, Rv 11), (1, Iv x1), (2, Iv x2)] 47 [] := by
    intro μ x1 x2 hb
    unfold b_X11_nextOrder_47 at hb
    refine r_aload_n (pc := 47) 0 F dX11_nextOrder_47 rfl rfl ?_
    refine gf_RX11_56 (pc := 48) F dX11_nextOrder_48 ?_
    refine r_iload_n (pc := 51) 2 F dX11_nextOrder_51 rfl rfl ?_
    have hg_8 := hb.1
    have hb := hb.2
    refine r_iald (pc := 52) F lc103.1 lc103.2.1 lc103.2.2 hg_8 dX11_nextOrder_52 ?_
    refine r_aload_n (pc := 53) 0 F dX11_nextOrder_53 rfl rfl ?_
    refine gf_RX11_56 (pc := 54) F dX11_nextOrder_54 ?_
    refine r_iload_n (pc := 57) 1 F dX11_nextOrder_57 rfl rfl ?_
    have hg_9 := hb.1
    have hb := hb.2
    refine r_iald (pc := 58) F lc103.1 lc103.2.1 lc103.2.2 hg_9 dX11_nextOrder_58 ?_
    refine r_icmp_ge (pc := 59) (tgt := 68) F dX11_nextOrder_59 (by decide) (fun c_10 => ?_) (fun c_10 => ?_)
    · have hb := hb.1 c_10
      refine r_aload_n (pc := 68) 0 F dX11_nextOrder_68 rfl rfl ?_
      refine r_iload_n (pc := 69) 1 F dX11_nextOrder_69 rfl rfl ?_
      refine r_iload_n (pc := 70) 2 F dX11_nextOrder_70 rfl rfl ?_
      refine r_callV (pc := 71) (avs := [Iv x1, Iv x2]) (st := []) F (c_X11_swap μ x1 x2 _ hb) (by decide) cal_X11_swap calv_X11_swap lk_RX11_113 rfl rfl (Nat.le_of_ble_eq_true rfl) dX11_nextOrder_71 (fun μ_12 hb => ?_)
      refine r_iload_n (pc := 74) 1 F dX11_nextOrder_74 rfl rfl ?_
      refine r_iconst (pc := 75) F dX11_nextOrder_75 (inR_lit rfl) ?_
      refine r_iadd (pc := 76) F dX11_nextOrder_76 ?_
      refine V.nmI (fun x_13 ex_13 => ?_)
      have hb := hb x_13 ex_13
      refine r_istore_n (pc := 77) (lv' := [(3, Iv x_13), (0, Rv 11), (1, Iv x1), (2, Iv x2)]) F dX11_nextOrder_77 rfl (by decide) rfl ?_
      refine r_aload_n (pc := 78) 1 F dX11_nextOrder_78 rfl rfl ?_
      refine gf_RX11_83 (pc := 79) F dX11_nextOrder_79 ?_
      refine r_iconst (pc := 82) F dX11_nextOrder_82 (inR_lit rfl) ?_
      refine r_isub (pc := 83) F dX11_nextOrder_83 ?_
      refine V.nmI (fun x_14 ex_14 => ?_)
      have hb := hb x_14 ex_14
      refine r_istore (pc := 84) (lv' := [(4, Iv x_14), (3, Iv x_13), (0, Rv 11), (1, Iv x1), (2, Iv x2)]) F dX11_nextOrder_84 (by decide) rfl ?_
      exact V.sub [2, 1, 0] rfl (g86 μ_12 x_13 x_14 hb)
    · have hb := hb.2 c_10
      refine r_iincN (pc := 62) 2 (lf := fun x_15 => [(2, Iv x_15), (0, Rv 11), (1, Iv x1)]) F dX11_nextOrder_62 rfl (by decide) rfl (fun x_15 ex_15 => ?_)
      have hb := hb x_15 ex_15
      refine r_goto (pc := 65) (tgt := 47) F dX11_nextOrder_65 (by decide) ?_
      exact V.sub [1, 2, 0] rfl (g47 μ x1 x_15 hb)
  have K86 : ∀ (μ : Mem) (x3 : Int) (x4 : Int), b_X11_nextOrder_86 G7 G47 G86 Post μ x3 x4 → V g X 5 μ [(0, Rv 11), (3, Iv x3), (4, Iv x4)] 86 [] := by
    intro μ x3 x4 hb
    unfold b_X11_nextOrder_86 at hb
    refine r_iload_n (pc := 86) 1 F dX11_nextOrder_86 rfl rfl ?_
    refine r_iload (pc := 87) 2 F dX11_nextOrder_87 rfl ?_
    refine r_icmp_ge (pc := 89) (tgt := 108) F dX11_nextOrder_89 (by decide) (fun c_16 => ?_) (fun c_16 => ?_)
    · have hb := hb.1 c_16
      refine r_iconst (pc := 108) F dX11_nextOrder_108 (inR_lit rfl) ?_
      exact r_zret (pc := 109) F hR hr dX11_nextOrder_109 (Or.inr rfl) hb
    · have hb := hb.2 c_16
      refine r_aload_n (pc := 92) 0 F dX11_nextOrder_92 rfl rfl ?_
      refine r_iload_n (pc := 93) 1 F dX11_nextOrder_93 rfl rfl ?_
      refine r_iload (pc := 94) 2 F dX11_nextOrder_94 rfl ?_
      refine r_callV (pc := 96) (avs := [Iv x3, Iv x4]) (st := []) F (c_X11_swap μ x3 x4 _ hb) (by decide) cal_X11_swap calv_X11_swap lk_RX11_113 rfl rfl (Nat.le_of_ble_eq_true rfl) dX11_nextOrder_96 (fun μ_18 hb => ?_)
      refine r_iincN (pc := 99) 1 (lf := fun x_19 => [(3, Iv x_19), (0, Rv 11), (4, Iv x4)]) F dX11_nextOrder_99 rfl (by decide) rfl (fun x_19 ex_19 => ?_)
      have hb := hb x_19 ex_19
      refine r_iincN (pc := 102) 2 (lf := fun x_20 => [(4, Iv x_20), (3, Iv x_19), (0, Rv 11)]) F dX11_nextOrder_102 rfl (by decide) rfl (fun x_20 ex_20 => ?_)
      have hb := hb x_20 ex_20
      refine r_goto (pc := 105) (tgt := 86) F dX11_nextOrder_105 (by decide) ?_
      exact V.sub [2, 1, 0] rfl (g86 μ_18 x_19 x_20 hb)
  have hb := hb G7 G47 G86 (fun μ x1 hb => f7 μ x1 (K7 μ x1 hb)) (fun μ x1 x2 hb => f47 μ x1 x2 (K47 μ x1 x2 hb)) (fun μ x3 x4 hb => f86 μ x3 x4 (K86 μ x3 x4 hb))
  unfold b_X11_nextOrder_e at hb
  refine r_aload_n (pc := 0) 0 F dX11_nextOrder_0 rfl rfl ?_
  refine gf_RX11_83 (pc := 1) F dX11_nextOrder_1 ?_
  refine r_iconst (pc := 4) F dX11_nextOrder_4 (inR_lit rfl) ?_
  refine r_isub (pc := 5) F dX11_nextOrder_5 ?_
  refine V.nmI (fun x_21 ex_21 => ?_)
  have hb := hb x_21 ex_21
  refine r_istore_n (pc := 6) (lv' := [(1, Iv x_21), (0, Rv 11)]) F dX11_nextOrder_6 rfl (by decide) rfl ?_
  exact V.sub [1, 0] rfl (g7 μ x_21 hb)
set_option maxHeartbeats 4000000 in
set_option maxRecDepth 100000 in
theorem c_X11_leaves {g : Wc} {l : Launch} (μ : Mem) (p0 : Int) (p1 : Int) (p2 : Int) (p3 : Int) (Post : Pst) (hb : wp_X11_leaves μ p0 p1 p2 p3 Post) : MtC g l yX11_leaves cX11_leaves 6 (some .int) 0 [Rv 11, Iv p0, Iv p1, Iv p2, Iv p3] μ (QI g Post) := by
  intro hok
  refine enter (own := RX11) (by decide) rfl (Nat.le_of_ble_eq_true rfl) hok (fun X hl F hr hR => ?_)
  subst hl
  show V g X 6 μ [(0, Rv 11), (1, Iv p0), (2, Iv p1), (3, Iv p2), (4, Iv p3)] 0 []
  unfold wp_X11_leaves at hb
  have K58 : ∀ (μ : Mem) (x3 : Int) (x5 : Int), b_X11_leaves_58 Post μ x3 x5 → V g X 6 μ [(3, Iv x3), (5, Iv x5)] 58 [] := by
    intro μ x3 x5 hb
    unfold b_X11_leaves_58 at hb
    refine r_iload_n (pc := 58) 0 F dX11_leaves_58 rfl rfl ?_
    refine r_iload (pc := 59) 1 F dX11_leaves_59 rfl ?_
    refine r_icmp_le (pc := 61) (tgt := 68) F dX11_leaves_61 (by decide) (fun c_1 => ?_) (fun c_1 => ?_)
    · have hb := hb.1 c_1
      refine r_iload (pc := 68) 1 F dX11_leaves_68 rfl ?_
      exact r_iret (pc := 70) F hR hr dX11_leaves_70 hb
    · have hb := hb.2 c_1
      refine r_iload_n (pc := 64) 0 F dX11_leaves_64 rfl rfl ?_
      refine r_goto (pc := 65) (tgt := 70) F dX11_leaves_65 (by decide) ?_
      exact r_iret (pc := 70) F hR hr dX11_leaves_70 hb
  have K30 : ∀ (μ : Mem) (x3 : Int) (s0 : Int), b_X11_leaves_30 Post μ x3 s0 → V g X 6 μ [(3, Iv x3)] 30 [Iv s0] := by
    intro μ x3 s0 hb
    unfold b_X11_leaves_30 at hb
    refine r_istore (pc := 30) (lv' := [(5, Iv s0), (3, Iv x3)]) F dX11_leaves_30 (by decide) rfl ?_
    refine r_goto (pc := 32) (tgt := 58) F dX11_leaves_32 (by decide) ?_
    exact V.sub [1, 0] rfl (K58 μ x3 s0 hb)
  have hb := hb
  unfold b_X11_leaves_e at hb
  refine r_iconst (pc := 0) F dX11_leaves_0 (inR_lit rfl) ?_
  refine r_istore (pc := 1) (lv' := [(5, Iv 0), (0, Rv 11), (1, Iv p0), (2, Iv p1), (3, Iv p2), (4, Iv p3)]) F dX11_leaves_1 (by decide) rfl ?_
  refine r_iload (pc := 3) 5 F dX11_leaves_3 rfl ?_
  refine r_if_ne (pc := 5) (tgt := 35) F dX11_leaves_5 (by decide) (fun c_2 => ?_) (fun c_2 => ?_)
  · have hb := hb.1 c_2
    refine r_iload_n (pc := 35) 2 F dX11_leaves_35 rfl rfl ?_
    refine r_iload (pc := 36) 5 F dX11_leaves_36 rfl ?_
    refine r_icmp_lt (pc := 38) (tgt := 58) F dX11_leaves_38 (by decide) (fun c_3 => ?_) (fun c_3 => ?_)
    · have hb := hb.1 c_3
      exact V.sub [4, 0] rfl (K58 μ p2 0 hb)
    · have hb := hb.2 c_3
      refine r_aload_n (pc := 41) 1 F dX11_leaves_41 rfl rfl ?_
      refine gf_RX11_68 (pc := 42) F dX11_leaves_42 ?_
      refine r_iconst (pc := 45) F dX11_leaves_45 (inR_lit rfl) ?_
      refine r_iload_n (pc := 46) 2 F dX11_leaves_46 rfl rfl ?_
      refine r_iload (pc := 47) 5 F dX11_leaves_47 rfl ?_
      refine r_isub (pc := 49) F dX11_leaves_49 ?_
      refine r_imul (pc := 50) F dX11_leaves_50 ?_
      refine r_iload_n (pc := 51) 3 F dX11_leaves_51 rfl rfl ?_
      refine r_iadd (pc := 52) F dX11_leaves_52 ?_
      refine r_iconst (pc := 53) F dX11_leaves_53 (inR_lit rfl) ?_
      refine r_iadd (pc := 54) F dX11_leaves_54 ?_
      have hg_4 := hb.1
      have hb := hb.2
      refine r_iald (pc := 55) F lc107.1 lc107.2.1 lc107.2.2 hg_4 dX11_leaves_55 ?_
      refine V.nmI (fun x_5 ex_5 => ?_)
      have hb := hb x_5 ex_5
      refine r_istore (pc := 56) (lv' := [(5, Iv x_5), (0, Rv 11), (1, Iv p0), (2, Iv p1), (3, Iv p2), (4, Iv p3)]) F dX11_leaves_56 (by decide) rfl ?_
      exact V.sub [4, 0] rfl (K58 μ p2 x_5 hb)
  · have hb := hb.2 c_2
    refine r_iload_n (pc := 8) 2 F dX11_leaves_8 rfl rfl ?_
    refine r_if_ne (pc := 9) (tgt := 16) F dX11_leaves_9 (by decide) (fun c_6 => ?_) (fun c_6 => ?_)
    · have hb := hb.1 c_6
      refine r_aload_n (pc := 16) 1 F dX11_leaves_16 rfl rfl ?_
      refine gf_RX11_71 (pc := 17) F dX11_leaves_17 ?_
      refine r_iconst (pc := 20) F dX11_leaves_20 (inR_lit rfl) ?_
      refine r_iload_n (pc := 21) 2 F dX11_leaves_21 rfl rfl ?_
      refine r_iconst (pc := 22) F dX11_leaves_22 (inR_lit rfl) ?_
      refine r_isub (pc := 23) F dX11_leaves_23 ?_
      refine r_imul (pc := 24) F dX11_leaves_24 ?_
      refine r_iload_n (pc := 25) 3 F dX11_leaves_25 rfl rfl ?_
      refine r_iadd (pc := 26) F dX11_leaves_26 ?_
      refine r_iconst (pc := 27) F dX11_leaves_27 (inR_lit rfl) ?_
      refine r_iadd (pc := 28) F dX11_leaves_28 ?_
      have hg_7 := hb.1
      have hb := hb.2
      refine r_iald (pc := 29) F lc108.1 lc108.2.1 lc108.2.2 hg_7 dX11_leaves_29 ?_
      exact V.sub [4] rfl (K30 μ p2 (μ 108 (wrap ((wrap ((wrap (4 * (wrap (p0 - 1)))) + p1)) + 1)).toNat) hb)
    · have hb := hb.2 c_6
      refine r_iconst (pc := 12) F dX11_leaves_12 (inR_lit rfl) ?_
      refine r_goto (pc := 13) (tgt := 30) F dX11_leaves_13 (by decide) ?_
      exact V.sub [4] rfl (K30 μ p2 0 hb)
set_option maxHeartbeats 4000000 in
set_option maxRecDepth 100000 in
theorem c_X11_rowEnd {g : Wc} {l : Launch} (μ : Mem) (p0 : Int) (p1 : Int) (Post : Pst) (hb : wp_X11_rowEnd μ p0 p1 Post) : MtC g l yX11_rowEnd cX11_rowEnd 10 (some .int) 1 [Rv 11, Iv p0, Iv p1] μ (QI g Post) := by
  intro hok
  refine enter (own := RX11) (by decide) rfl (Nat.le_of_ble_eq_true rfl) hok (fun X hl F hr hR => ?_)
  subst hl
  show V g X 10 μ [(0, Rv 11), (1, Iv p0), (2, Iv p1)] 0 []
  unfold wp_X11_rowEnd at hb
  obtain ⟨G5, g5, f5⟩ : ∃ G : Mem → Int → Int → Int → Int → Prop, (∀ μ x1 x2 x3 x4, G μ x1 x2 x3 x4 → V g X 10 μ [(0, Rv 11), (1, Iv x1), (2, Iv x2), (3, Iv x3), (4, Iv x4)] 5 []) ∧ (∀ μ x1 x2 x3 x4, V g X 10 μ [(0, Rv 11), (1, Iv x1), (2, Iv x2), (3, Iv x3), (4, Iv x4)] 5 [] → G μ x1 x2 x3 x4) := ⟨fun μ x1 x2 x3 x4 => V g X 10 μ [(0, Rv 11), (1, Iv x1), (2, Iv x2), (3, Iv x3), (4, Iv x4)] 5 [], fun _ _ _ _ _ h => h, fun _ _ _ _ _ h => h⟩
  obtain ⟨G17, g17, f17⟩ : ∃ G : Mem → Int → Int → Int → Int → Int → Prop, (∀ μ x1 x2 x3 x4 x5, G μ x1 x2 x3 x4 x5 → V g X 10 μ [(0, Rv 11), (1, Iv x1), (2, Iv x2), (3, Iv x3), (4, Iv x4), (5, Iv x5)] 17 []) ∧ (∀ μ x1 x2 x3 x4 x5, V g X 10 μ [(0, Rv 11), (1, Iv x1), (2, Iv x2), (3, Iv x3), (4, Iv x4), (5, Iv x5)] 17 [] → G μ x1 x2 x3 x4 x5) := ⟨fun μ x1 x2 x3 x4 x5 => V g X 10 μ [(0, Rv 11), (1, Iv x1), (2, Iv x2), (3, Iv x3), (4, Iv x4), (5, Iv x5)] 17 [], fun _ _ _ _ _ _ h => h, fun _ _ _ _ _ _ h => h⟩
  have K177 : ∀ (μ : Mem) (x1 : Int) (x2 : Int) (x4 : Int) (x5 : Int) (x9 : Int) (s1 : Int) (s2 : Int), b_X11_rowEnd_177 G5 G17 Post μ x1 x2 x4 x5 x9 s1 s2 → V g X 10 μ [(0, Rv 11), (1, Iv x1), (2, Iv x2), (4, Iv x4), (5, Iv x5), (9, Iv x9)] 177 [Iv s2, Iv s1, Rv 108] := by
    intro μ x1 x2 x4 x5 x9 s1 s2 hb
    unfold b_X11_rowEnd_177 at hb
    have hg_1 := hb.1
    have hb := hb.2
    refine r_iast (pc := 177) F lc108.1 lc108.2.1 lc108.2.2 hg_1 dX11_rowEnd_177 ?_
    refine V.nmM (fun μ_2 eμ_2 => ?_)
    have hb := hb μ_2 eμ_2
    refine r_iload (pc := 178) 5 F dX11_rowEnd_178 rfl ?_
    refine r_istore_n (pc := 180) (lv' := [(3, Iv x9), (0, Rv 11), (1, Iv x1), (2, Iv x2), (4, Iv x4), (5, Iv x5), (9, Iv x9)]) F dX11_rowEnd_180 rfl (by decide) rfl ?_
    refine r_iincN (pc := 181) 5 (lf := fun x_3 => [(5, Iv x_3), (3, Iv x9), (0, Rv 11), (1, Iv x1), (2, Iv x2), (4, Iv x4), (9, Iv x9)]) F dX11_rowEnd_181 rfl (by decide) rfl (fun x_3 ex_3 => ?_)
    have hb := hb x_3 ex_3
    refine r_goto (pc := 184) (tgt := 17) F dX11_rowEnd_184 (by decide) ?_
    exact V.sub [2, 3, 4, 1, 5, 0] rfl (g17 μ_2 x1 x2 x9 x4 x_3 hb)
  have K174 : ∀ (μ : Mem) (x1 : Int) (x2 : Int) (x4 : Int) (x5 : Int) (x9 : Int) (s1 : Int) (s3 : Int) (s4 : Int) (s5 : Int) (s6 : Int), b_X11_rowEnd_174 G5 G17 Post μ x1 x2 x4 x5 x9 s1 s3 s4 s5 s6 → V g X 10 μ [(0, Rv 11), (1, Iv x1), (2, Iv x2), (4, Iv x4), (5, Iv x5), (9, Iv x9)] 174 [Iv s6, Iv s5, Iv s4, Iv s3, Rv 11, Iv s1, Rv 108] := by
    intro μ x1 x2 x4 x5 x9 s1 s3 s4 s5 s6 hb
    unfold b_X11_rowEnd_174 at hb
    refine r_callI (pc := 174) (avs := [Iv s3, Iv s4, Iv s5, Iv s6]) (st := [Iv s1, Rv 108]) F (c_X11_leaves μ s3 s4 s5 s6 _ hb) (by decide) cal_X11_leaves calv_X11_leaves lk_RX11_156 rfl rfl (Nat.le_of_ble_eq_true rfl) dX11_rowEnd_174 (fun r_4 μ_5 hb => ?_)
    exact V.sub [0, 1, 2, 3, 4, 5] rfl (K177 μ_5 x1 x2 x4 x5 x9 s1 r_4 hb)
  have K87 : ∀ (μ : Mem) (x1 : Int) (x2 : Int) (x4 : Int) (x5 : Int) (s0 : Int), b_X11_rowEnd_87 G5 G17 Post μ x1 x2 x4 x5 s0 → V g X 10 μ [(0, Rv 11), (1, Iv x1), (2, Iv x2), (4, Iv x4), (5, Iv x5)] 87 [Iv s0] := by
    intro μ x1 x2 x4 x5 s0 hb
    unfold b_X11_rowEnd_87 at hb
    refine r_istore (pc := 87) (lv' := [(8, Iv s0), (0, Rv 11), (1, Iv x1), (2, Iv x2), (4, Iv x4), (5, Iv x5)]) F dX11_rowEnd_87 (by decide) rfl ?_
    refine r_iload (pc := 89) 0 F dX11_rowEnd_89 rfl ?_
    refine r_aload_n (pc := 91) 1 F dX11_rowEnd_91 rfl rfl ?_
    refine gf_RX11_31 (pc := 92) F dX11_rowEnd_92 ?_
    refine r_iconst (pc := 95) F dX11_rowEnd_95 (inR_lit rfl) ?_
    refine r_aload_n (pc := 96) 1 F dX11_rowEnd_96 rfl rfl ?_
    refine gf_RX11_56 (pc := 97) F dX11_rowEnd_97 ?_
    refine r_iload (pc := 100) 4 F dX11_rowEnd_100 rfl ?_
    have hg_6 := hb.1
    have hb := hb.2
    refine r_iald (pc := 102) F lc103.1 lc103.2.1 lc103.2.2 hg_6 dX11_rowEnd_102 ?_
    refine r_imul (pc := 103) F dX11_rowEnd_103 ?_
    refine r_iload (pc := 104) 5 F dX11_rowEnd_104 rfl ?_
    refine r_iadd (pc := 106) F dX11_rowEnd_106 ?_
    have hg_7 := hb.1
    have hb := hb.2
    refine r_iald (pc := 107) F lc97.1 lc97.2.1 lc97.2.2 hg_7 dX11_rowEnd_107 ?_
    refine r_iadd (pc := 108) F dX11_rowEnd_108 ?_
    refine V.nmI (fun x_8 ex_8 => ?_)
    have hb := hb x_8 ex_8
    refine r_istore (pc := 109) (lv' := [(9, Iv x_8), (8, Iv s0), (0, Rv 11), (1, Iv x1), (2, Iv x2), (4, Iv x4), (5, Iv x5)]) F dX11_rowEnd_109 (by decide) rfl ?_
    refine r_aload_n (pc := 111) 2 F dX11_rowEnd_111 rfl rfl ?_
    refine gf_RX11_68 (pc := 112) F dX11_rowEnd_112 ?_
    refine r_iconst (pc := 115) F dX11_rowEnd_115 (inR_lit rfl) ?_
    refine r_iload (pc := 116) 5 F dX11_rowEnd_116 rfl ?_
    refine r_imul (pc := 118) F dX11_rowEnd_118 ?_
    refine r_iload (pc := 119) 6 F dX11_rowEnd_119 rfl ?_
    refine r_iadd (pc := 121) F dX11_rowEnd_121 ?_
    refine r_iload (pc := 122) 1 F dX11_rowEnd_122 rfl ?_
    have hg_9 := hb.1
    have hb := hb.2
    refine r_iast (pc := 124) F lc107.1 lc107.2.1 lc107.2.2 hg_9 dX11_rowEnd_124 ?_
    refine V.nmM (fun μ_10 eμ_10 => ?_)
    have hb := hb μ_10 eμ_10
    refine r_aload_n (pc := 125) 2 F dX11_rowEnd_125 rfl rfl ?_
    refine gf_RX11_71 (pc := 126) F dX11_rowEnd_126 ?_
    refine r_iconst (pc := 129) F dX11_rowEnd_129 (inR_lit rfl) ?_
    refine r_iload (pc := 130) 5 F dX11_rowEnd_130 rfl ?_
    refine r_imul (pc := 132) F dX11_rowEnd_132 ?_
    refine r_iload (pc := 133) 6 F dX11_rowEnd_133 rfl ?_
    refine r_iadd (pc := 135) F dX11_rowEnd_135 ?_
    refine r_iload (pc := 136) 6 F dX11_rowEnd_136 rfl ?_
    refine r_iload_n (pc := 138) 3 F dX11_rowEnd_138 rfl rfl ?_
    refine r_iconst (pc := 139) F dX11_rowEnd_139 (inR_lit rfl) ?_
    refine r_isub (pc := 140) F dX11_rowEnd_140 ?_
    refine r_icmp_ne (pc := 141) (tgt := 149) F dX11_rowEnd_141 (by decide) (fun c_11 => ?_) (fun c_11 => ?_)
    · have hb := hb.1 c_11
      refine r_aload_n (pc := 149) 2 F dX11_rowEnd_149 rfl rfl ?_
      refine r_iload (pc := 150) 5 F dX11_rowEnd_150 rfl ?_
      refine r_iload (pc := 152) 6 F dX11_rowEnd_152 rfl ?_
      refine r_iload (pc := 154) 0 F dX11_rowEnd_154 rfl ?_
      refine r_iload_n (pc := 156) 4 F dX11_rowEnd_156 rfl rfl ?_
      refine r_if_eq (pc := 157) (tgt := 165) F dX11_rowEnd_157 (by decide) (fun c_12 => ?_) (fun c_12 => ?_)
      · have hb := hb.1 c_12
        refine r_aload_n (pc := 165) 2 F dX11_rowEnd_165 rfl rfl ?_
        refine gf_RX11_38 (pc := 166) F dX11_rowEnd_166 ?_
        refine r_iload (pc := 169) 6 F dX11_rowEnd_169 rfl ?_
        refine r_iconst (pc := 171) F dX11_rowEnd_171 (inR_lit rfl) ?_
        refine r_iadd (pc := 172) F dX11_rowEnd_172 ?_
        have hg_13 := hb.1
        have hb := hb.2
        refine r_iald (pc := 173) F lc98.1 lc98.2.1 lc98.2.2 hg_13 dX11_rowEnd_173 ?_
        exact V.sub [2, 3, 4, 5, 6, 0] rfl (K174 μ_10 x1 x2 x4 x5 x_8 (wrap ((wrap (4 * x4)) + x5)) x4 x5 x_8 (μ_10 98 (wrap (x5 + 1)).toNat) hb)
      · have hb := hb.2 c_12
        refine r_bipush (pc := 160) F dX11_rowEnd_160 (inR_lit rfl) (by decide) ?_
        refine r_goto (pc := 162) (tgt := 174) F dX11_rowEnd_162 (by decide) ?_
        exact V.sub [2, 3, 4, 5, 6, 0] rfl (K174 μ_10 x1 x2 x4 x5 x_8 (wrap ((wrap (4 * x4)) + x5)) x4 x5 x_8 9 hb)
    · have hb := hb.2 c_11
      refine r_iload (pc := 144) 0 F dX11_rowEnd_144 rfl ?_
      refine r_goto (pc := 146) (tgt := 177) F dX11_rowEnd_146 (by decide) ?_
      exact V.sub [2, 3, 4, 5, 6, 0] rfl (K177 μ_10 x1 x2 x4 x5 x_8 (wrap ((wrap (4 * x4)) + x5)) x_8 hb)
  have K71 : ∀ (μ : Mem) (x1 : Int) (x2 : Int) (x4 : Int) (x5 : Int) (x6 : Int) (s0 : Int), b_X11_rowEnd_71 G5 G17 Post μ x1 x2 x4 x5 x6 s0 → V g X 10 μ [(0, Rv 11), (1, Iv x1), (2, Iv x2), (4, Iv x4), (5, Iv x5), (6, Iv x6)] 71 [Iv s0] := by
    intro μ x1 x2 x4 x5 x6 s0 hb
    unfold b_X11_rowEnd_71 at hb
    refine r_istore (pc := 71) (lv' := [(7, Iv s0), (0, Rv 11), (1, Iv x1), (2, Iv x2), (4, Iv x4), (5, Iv x5), (6, Iv x6)]) F dX11_rowEnd_71 (by decide) rfl ?_
    refine r_iload (pc := 73) 6 F dX11_rowEnd_73 rfl ?_
    refine r_iload (pc := 75) 0 F dX11_rowEnd_75 rfl ?_
    refine r_icmp_le (pc := 77) (tgt := 85) F dX11_rowEnd_77 (by decide) (fun c_14 => ?_) (fun c_14 => ?_)
    · have hb := hb.1 c_14
      refine r_iload (pc := 85) 0 F dX11_rowEnd_85 rfl ?_
      exact V.sub [1, 2, 3, 4, 5] rfl (K87 μ x1 x2 x4 x5 s0 hb)
    · have hb := hb.2 c_14
      refine r_iload (pc := 80) 6 F dX11_rowEnd_80 rfl ?_
      refine r_goto (pc := 82) (tgt := 87) F dX11_rowEnd_82 (by decide) ?_
      exact V.sub [1, 2, 3, 4, 5] rfl (K87 μ x1 x2 x4 x5 x6 hb)
  have K46 : ∀ (μ : Mem) (x1 : Int) (x2 : Int) (x4 : Int) (x5 : Int) (s0 : Int), b_X11_rowEnd_46 G5 G17 Post μ x1 x2 x4 x5 s0 → V g X 10 μ [(0, Rv 11), (1, Iv x1), (2, Iv x2), (4, Iv x4), (5, Iv x5)] 46 [Iv s0] := by
    intro μ x1 x2 x4 x5 s0 hb
    unfold b_X11_rowEnd_46 at hb
    refine r_istore (pc := 46) (lv' := [(6, Iv s0), (0, Rv 11), (1, Iv x1), (2, Iv x2), (4, Iv x4), (5, Iv x5)]) F dX11_rowEnd_46 (by decide) rfl ?_
    refine r_iload (pc := 48) 4 F dX11_rowEnd_48 rfl ?_
    refine r_if_ne (pc := 50) (tgt := 57) F dX11_rowEnd_50 (by decide) (fun c_15 => ?_) (fun c_15 => ?_)
    · have hb := hb.1 c_15
      refine r_aload_n (pc := 57) 1 F dX11_rowEnd_57 rfl rfl ?_
      refine gf_RX11_71 (pc := 58) F dX11_rowEnd_58 ?_
      refine r_iconst (pc := 61) F dX11_rowEnd_61 (inR_lit rfl) ?_
      refine r_iload (pc := 62) 4 F dX11_rowEnd_62 rfl ?_
      refine r_iconst (pc := 64) F dX11_rowEnd_64 (inR_lit rfl) ?_
      refine r_isub (pc := 65) F dX11_rowEnd_65 ?_
      refine r_imul (pc := 66) F dX11_rowEnd_66 ?_
      refine r_iload (pc := 67) 5 F dX11_rowEnd_67 rfl ?_
      refine r_iadd (pc := 69) F dX11_rowEnd_69 ?_
      have hg_16 := hb.1
      have hb := hb.2
      refine r_iald (pc := 70) F lc108.1 lc108.2.1 lc108.2.2 hg_16 dX11_rowEnd_70 ?_
      exact V.sub [1, 2, 3, 4, 5, 0] rfl (K71 μ x1 x2 x4 x5 s0 (μ 108 (wrap ((wrap (4 * (wrap (x4 - 1)))) + x5)).toNat) hb)
    · have hb := hb.2 c_15
      refine r_iconst (pc := 53) F dX11_rowEnd_53 (inR_lit rfl) ?_
      refine r_goto (pc := 54) (tgt := 71) F dX11_rowEnd_54 (by decide) ?_
      exact V.sub [1, 2, 3, 4, 5, 0] rfl (K71 μ x1 x2 x4 x5 s0 0 hb)
  have K5 : ∀ (μ : Mem) (x1 : Int) (x2 : Int) (x3 : Int) (x4 : Int), b_X11_rowEnd_5 G5 G17 Post μ x1 x2 x3 x4 → V g X 10 μ [(0, Rv 11), (1, Iv x1), (2, Iv x2), (3, Iv x3), (4, Iv x4)] 5 [] := by
    intro μ x1 x2 x3 x4 hb
    unfold b_X11_rowEnd_5 at hb
    refine r_iload (pc := 5) 4 F dX11_rowEnd_5 rfl ?_
    refine r_aload_n (pc := 7) 0 F dX11_rowEnd_7 rfl rfl ?_
    refine gf_RX11_83 (pc := 8) F dX11_rowEnd_8 ?_
    refine r_icmp_ge (pc := 11) (tgt := 193) F dX11_rowEnd_11 (by decide) (fun c_17 => ?_) (fun c_17 => ?_)
    · have hb := hb.1 c_17
      refine r_iload_n (pc := 193) 3 F dX11_rowEnd_193 rfl rfl ?_
      exact r_iret (pc := 194) F hR hr dX11_rowEnd_194 hb
    · have hb := hb.2 c_17
      refine r_iconst (pc := 14) F dX11_rowEnd_14 (inR_lit rfl) ?_
      refine r_istore (pc := 15) (lv' := [(5, Iv 0), (0, Rv 11), (1, Iv x1), (2, Iv x2), (3, Iv x3), (4, Iv x4)]) F dX11_rowEnd_15 (by decide) rfl ?_
      exact V.sub [1, 2, 3, 4, 5, 0] rfl (g17 μ x1 x2 x3 x4 0 hb)
  have K17 : ∀ (μ : Mem) (x1 : Int) (x2 : Int) (x3 : Int) (x4 : Int) (x5 : Int), b_X11_rowEnd_17 G5 G17 Post μ x1 x2 x3 x4 x5 → V g X 10 μ [(0, Rv 11), (1, Iv x1), (2, Iv x2), (3, Iv x3), (4, Iv x4), (5, Iv x5)] 17 [] := by
    intro μ x1 x2 x3 x4 x5 hb
    unfold b_X11_rowEnd_17 at hb
    refine r_iload (pc := 17) 5 F dX11_rowEnd_17 rfl ?_
    refine r_iload_n (pc := 19) 1 F dX11_rowEnd_19 rfl rfl ?_
    refine r_icmp_ge (pc := 20) (tgt := 187) F dX11_rowEnd_20 (by decide) (fun c_18 => ?_) (fun c_18 => ?_)
    · have hb := hb.1 c_18
      refine r_iincN (pc := 187) 4 (lf := fun x_19 => [(4, Iv x_19), (0, Rv 11), (1, Iv x1), (2, Iv x2), (3, Iv x3), (5, Iv x5)]) F dX11_rowEnd_187 rfl (by decide) rfl (fun x_19 ex_19 => ?_)
      have hb := hb x_19 ex_19
      refine r_goto (pc := 190) (tgt := 5) F dX11_rowEnd_190 (by decide) ?_
      exact V.sub [1, 2, 3, 4, 0] rfl (g5 μ x1 x2 x3 x_19 hb)
    · have hb := hb.2 c_18
      refine r_iload (pc := 23) 5 F dX11_rowEnd_23 rfl ?_
      refine r_if_ne (pc := 25) (tgt := 32) F dX11_rowEnd_25 (by decide) (fun c_20 => ?_) (fun c_20 => ?_)
      · have hb := hb.1 c_20
        refine r_aload_n (pc := 32) 0 F dX11_rowEnd_32 rfl rfl ?_
        refine gf_RX11_71 (pc := 33) F dX11_rowEnd_33 ?_
        refine r_iconst (pc := 36) F dX11_rowEnd_36 (inR_lit rfl) ?_
        refine r_iload (pc := 37) 4 F dX11_rowEnd_37 rfl ?_
        refine r_imul (pc := 39) F dX11_rowEnd_39 ?_
        refine r_iload (pc := 40) 5 F dX11_rowEnd_40 rfl ?_
        refine r_iadd (pc := 42) F dX11_rowEnd_42 ?_
        refine r_iconst (pc := 43) F dX11_rowEnd_43 (inR_lit rfl) ?_
        refine r_isub (pc := 44) F dX11_rowEnd_44 ?_
        have hg_21 := hb.1
        have hb := hb.2
        refine r_iald (pc := 45) F lc108.1 lc108.2.1 lc108.2.2 hg_21 dX11_rowEnd_45 ?_
        exact V.sub [0, 1, 2, 4, 5] rfl (K46 μ x1 x2 x4 x5 (μ 108 (wrap ((wrap ((wrap (4 * x4)) + x5)) - 1)).toNat) hb)
      · have hb := hb.2 c_20
        refine r_iconst (pc := 28) F dX11_rowEnd_28 (inR_lit rfl) ?_
        refine r_goto (pc := 29) (tgt := 46) F dX11_rowEnd_29 (by decide) ?_
        exact V.sub [0, 1, 2, 4, 5] rfl (K46 μ x1 x2 x4 x5 0 hb)
  have hb := hb G5 G17 (fun μ x1 x2 x3 x4 hb => f5 μ x1 x2 x3 x4 (K5 μ x1 x2 x3 x4 hb)) (fun μ x1 x2 x3 x4 x5 hb => f17 μ x1 x2 x3 x4 x5 (K17 μ x1 x2 x3 x4 x5 hb))
  unfold b_X11_rowEnd_e at hb
  refine r_iconst (pc := 0) F dX11_rowEnd_0 (inR_lit rfl) ?_
  refine r_istore_n (pc := 1) (lv' := [(3, Iv 0), (0, Rv 11), (1, Iv p0), (2, Iv p1)]) F dX11_rowEnd_1 rfl (by decide) rfl ?_
  refine r_iconst (pc := 2) F dX11_rowEnd_2 (inR_lit rfl) ?_
  refine r_istore (pc := 3) (lv' := [(4, Iv 0), (3, Iv 0), (0, Rv 11), (1, Iv p0), (2, Iv p1)]) F dX11_rowEnd_3 (by decide) rfl ?_
  exact V.sub [2, 3, 4, 1, 0] rfl (g5 μ p0 p1 0 0 hb)
set_option maxHeartbeats 4000000 in
set_option maxRecDepth 100000 in
theorem c_X11_goOver {g : Wc} {l : Launch} (μ : Mem) (p0 : Int) (Post : Pst) (hb : wp_X11_goOver μ p0 Post) : MtC g l yX11_goOver cX11_goOver 6 (some .int) 2 [Rv 11, Iv p0] μ (QI g Post) := by
  intro hok
  refine enter (own := RX11) (by decide) rfl (Nat.le_of_ble_eq_true rfl) hok (fun X hl F hr hR => ?_)
  subst hl
  show V g X 6 μ [(0, Rv 11), (1, Iv p0)] 0 []
  unfold wp_X11_goOver at hb
  obtain ⟨G8, g8, f8⟩ : ∃ G : Mem → Int → Int → Int → Prop, (∀ μ x1 x2 x3, G μ x1 x2 x3 → V g X 6 μ [(0, Rv 11), (1, Iv x1), (2, Iv x2), (3, Iv x3)] 8 []) ∧ (∀ μ x1 x2 x3, V g X 6 μ [(0, Rv 11), (1, Iv x1), (2, Iv x2), (3, Iv x3)] 8 [] → G μ x1 x2 x3) := ⟨fun μ x1 x2 x3 => V g X 6 μ [(0, Rv 11), (1, Iv x1), (2, Iv x2), (3, Iv x3)] 8 [], fun _ _ _ _ h => h, fun _ _ _ _ h => h⟩
  obtain ⟨G64, g64, f64⟩ : ∃ G : Mem → Int → Int → Int → Prop, (∀ μ x1 x2 x5, G μ x1 x2 x5 → V g X 6 μ [(0, Rv 11), (1, Iv x1), (2, Iv x2), (5, Iv x5)] 64 []) ∧ (∀ μ x1 x2 x5, V g X 6 μ [(0, Rv 11), (1, Iv x1), (2, Iv x2), (5, Iv x5)] 64 [] → G μ x1 x2 x5) := ⟨fun μ x1 x2 x5 => V g X 6 μ [(0, Rv 11), (1, Iv x1), (2, Iv x2), (5, Iv x5)] 64 [], fun _ _ _ _ h => h, fun _ _ _ _ h => h⟩
  have K58 : ∀ (μ : Mem) (x1 : Int) (x4 : Int), b_X11_goOver_58 G8 G64 Post μ x1 x4 → V g X 6 μ [(0, Rv 11), (1, Iv x1), (4, Iv x4)] 58 [] := by
    intro μ x1 x4 hb
    unfold b_X11_goOver_58 at hb
    refine r_iload (pc := 58) 2 F dX11_goOver_58 rfl ?_
    refine r_istore_n (pc := 60) (lv' := [(2, Iv x4), (0, Rv 11), (1, Iv x1), (4, Iv x4)]) F dX11_goOver_60 rfl (by decide) rfl ?_
    refine r_iconst (pc := 61) F dX11_goOver_61 (inR_lit rfl) ?_
    refine r_istore (pc := 62) (lv' := [(5, Iv 0), (2, Iv x4), (0, Rv 11), (1, Iv x1), (4, Iv x4)]) F dX11_goOver_62 (by decide) rfl ?_
    exact V.sub [2, 3, 1, 0] rfl (g64 μ x1 x4 0 hb)
  have K93 : ∀ (μ : Mem) (x1 : Int) (x2 : Int), b_X11_goOver_93 G8 G64 Post μ x1 x2 → V g X 6 μ [(0, Rv 11), (1, Iv x1), (2, Iv x2)] 93 [] := by
    intro μ x1 x2 hb
    unfold b_X11_goOver_93 at hb
    refine r_aload_n (pc := 93) 0 F dX11_goOver_93 rfl rfl ?_
    refine r_callI (pc := 94) (avs := []) (st := []) F (c_X11_nextOrder μ _ hb) (by decide) cal_X11_nextOrder calv_X11_nextOrder lk_RX11_131 rfl rfl (Nat.le_of_ble_eq_true rfl) dX11_goOver_94 (fun r_1 μ_2 hb => ?_)
    refine r_istore_n (pc := 97) (lv' := [(3, Iv r_1), (0, Rv 11), (1, Iv x1), (2, Iv x2)]) F dX11_goOver_97 rfl (by decide) rfl ?_
    refine r_goto (pc := 98) (tgt := 8) F dX11_goOver_98 (by decide) ?_
    exact V.sub [1, 2, 3, 0] rfl (g8 μ_2 x1 x2 r_1 hb)
  have K46 : ∀ (μ : Mem) (x1 : Int) (x2 : Int) (s0 : Int), b_X11_goOver_46 G8 G64 Post μ x1 x2 s0 → V g X 6 μ [(0, Rv 11), (1, Iv x1), (2, Iv x2)] 46 [Iv s0] := by
    intro μ x1 x2 s0 hb
    unfold b_X11_goOver_46 at hb
    refine r_istore (pc := 46) (lv' := [(4, Iv s0), (0, Rv 11), (1, Iv x1), (2, Iv x2)]) F dX11_goOver_46 (by decide) rfl ?_
    refine r_iload_n (pc := 48) 3 F dX11_goOver_48 rfl rfl ?_
    refine r_if_lt (pc := 49) (tgt := 58) F dX11_goOver_49 (by decide) (fun c_3 => ?_) (fun c_3 => ?_)
    · have hb := hb.1 c_3
      exact V.sub [1, 2, 0] rfl (K58 μ x1 s0 hb)
    · have hb := hb.2 c_3
      refine r_iload (pc := 52) 0 F dX11_goOver_52 rfl ?_
      refine r_iload_n (pc := 54) 3 F dX11_goOver_54 rfl rfl ?_
      refine r_icmp_ge (pc := 55) (tgt := 93) F dX11_goOver_55 (by decide) (fun c_4 => ?_) (fun c_4 => ?_)
      · have hb := hb.1 c_4
        exact V.sub [1, 2, 3] rfl (K93 μ x1 x2 hb)
      · have hb := hb.2 c_4
        exact V.sub [1, 2, 0] rfl (K58 μ x1 s0 hb)
  have K24 : ∀ (μ : Mem) (x1 : Int) (x2 : Int), b_X11_goOver_24 G8 G64 Post μ x1 x2 → V g X 6 μ [(0, Rv 11), (1, Iv x1), (2, Iv x2)] 24 [] := by
    intro μ x1 x2 hb
    unfold b_X11_goOver_24 at hb
    refine r_iload_n (pc := 24) 1 F dX11_goOver_24 rfl rfl ?_
    refine r_iconst (pc := 25) F dX11_goOver_25 (inR_lit rfl) ?_
    refine r_icmp_ne (pc := 26) (tgt := 41) F dX11_goOver_26 (by decide) (fun c_5 => ?_) (fun c_5 => ?_)
    · have hb := hb.1 c_5
      refine r_aload_n (pc := 41) 0 F dX11_goOver_41 rfl rfl ?_
      refine r_iload_n (pc := 42) 1 F dX11_goOver_42 rfl rfl ?_
      refine r_callI (pc := 43) (avs := [Iv x1]) (st := []) F (c_X11_makes μ x1 _ hb) (by decide) cal_X11_makes calv_X11_makes lk_RX11_128 rfl rfl (Nat.le_of_ble_eq_true rfl) dX11_goOver_43 (fun r_6 μ_7 hb => ?_)
      exact V.sub [0, 1, 2] rfl (K46 μ_7 x1 x2 r_6 hb)
    · have hb := hb.2 c_5
      refine r_aload_n (pc := 29) 0 F dX11_goOver_29 rfl rfl ?_
      refine r_aload_n (pc := 30) 0 F dX11_goOver_30 rfl rfl ?_
      refine gf_RX11_34 (pc := 31) F dX11_goOver_31 ?_
      refine r_iconst (pc := 34) F dX11_goOver_34 (inR_lit rfl) ?_
      refine r_callI (pc := 35) (avs := [Iv (μ 11 9), Iv 0]) (st := []) F (c_X11_rowEnd μ (μ 11 9) 0 _ hb) (by decide) cal_X11_rowEnd calv_X11_rowEnd lk_RX11_124 rfl rfl (Nat.le_of_ble_eq_true rfl) dX11_goOver_35 (fun r_8 μ_9 hb => ?_)
      refine r_goto (pc := 38) (tgt := 46) F dX11_goOver_38 (by decide) ?_
      exact V.sub [0, 1, 2] rfl (K46 μ_9 x1 x2 r_8 hb)
  have K8 : ∀ (μ : Mem) (x1 : Int) (x2 : Int) (x3 : Int), b_X11_goOver_8 G8 G64 Post μ x1 x2 x3 → V g X 6 μ [(0, Rv 11), (1, Iv x1), (2, Iv x2), (3, Iv x3)] 8 [] := by
    intro μ x1 x2 x3 hb
    unfold b_X11_goOver_8 at hb
    refine r_iload_n (pc := 8) 3 F dX11_goOver_8 rfl rfl ?_
    refine r_if_eq (pc := 9) (tgt := 101) F dX11_goOver_9 (by decide) (fun c_10 => ?_) (fun c_10 => ?_)
    · have hb := hb.1 c_10
      refine r_iload_n (pc := 101) 2 F dX11_goOver_101 rfl rfl ?_
      exact r_iret (pc := 102) F hR hr dX11_goOver_102 hb
    · have hb := hb.2 c_10
      refine r_iload_n (pc := 12) 1 F dX11_goOver_12 rfl rfl ?_
      refine r_iconst (pc := 13) F dX11_goOver_13 (inR_lit rfl) ?_
      refine r_icmp_eq (pc := 14) (tgt := 24) F dX11_goOver_14 (by decide) (fun c_11 => ?_) (fun c_11 => ?_)
      · have hb := hb.1 c_11
        exact V.sub [0, 1, 2] rfl (K24 μ x1 x2 hb)
      · have hb := hb.2 c_11
        refine r_aload_n (pc := 17) 0 F dX11_goOver_17 rfl rfl ?_
        refine r_callI (pc := 18) (avs := []) (st := []) F (c_X11_isLawful μ _ hb) (by decide) cal_X11_isLawful calv_X11_isLawful lk_RX11_120 rfl rfl (Nat.le_of_ble_eq_true rfl) dX11_goOver_18 (fun r_12 μ_13 hb => ?_)
        refine r_if_eq (pc := 21) (tgt := 93) F dX11_goOver_21 (by decide) (fun c_14 => ?_) (fun c_14 => ?_)
        · have hb := hb.1 c_14
          exact V.sub [0, 1, 2] rfl (K93 μ_13 x1 x2 hb)
        · have hb := hb.2 c_14
          exact V.sub [0, 1, 2] rfl (K24 μ_13 x1 x2 hb)
  have K64 : ∀ (μ : Mem) (x1 : Int) (x2 : Int) (x5 : Int), b_X11_goOver_64 G8 G64 Post μ x1 x2 x5 → V g X 6 μ [(0, Rv 11), (1, Iv x1), (2, Iv x2), (5, Iv x5)] 64 [] := by
    intro μ x1 x2 x5 hb
    unfold b_X11_goOver_64 at hb
    refine r_iload (pc := 64) 3 F dX11_goOver_64 rfl ?_
    refine r_aload_n (pc := 66) 0 F dX11_goOver_66 rfl rfl ?_
    refine gf_RX11_83 (pc := 67) F dX11_goOver_67 ?_
    refine r_icmp_ge (pc := 70) (tgt := 93) F dX11_goOver_70 (by decide) (fun c_15 => ?_) (fun c_15 => ?_)
    · have hb := hb.1 c_15
      exact V.sub [0, 1, 2] rfl (K93 μ x1 x2 hb)
    · have hb := hb.2 c_15
      refine r_aload_n (pc := 73) 0 F dX11_goOver_73 rfl rfl ?_
      refine gf_RX11_59 (pc := 74) F dX11_goOver_74 ?_
      refine r_iload (pc := 77) 3 F dX11_goOver_77 rfl ?_
      refine r_aload_n (pc := 79) 0 F dX11_goOver_79 rfl rfl ?_
      refine gf_RX11_56 (pc := 80) F dX11_goOver_80 ?_
      refine r_iload (pc := 83) 3 F dX11_goOver_83 rfl ?_
      have hg_16 := hb.1
      have hb := hb.2
      refine r_iald (pc := 85) F lc103.1 lc103.2.1 lc103.2.2 hg_16 dX11_goOver_85 ?_
      have hg_17 := hb.1
      have hb := hb.2
      refine r_iast (pc := 86) F lc104.1 lc104.2.1 lc104.2.2 hg_17 dX11_goOver_86 ?_
      refine V.nmM (fun μ_18 eμ_18 => ?_)
      have hb := hb μ_18 eμ_18
      refine r_iincN (pc := 87) 3 (lf := fun x_19 => [(5, Iv x_19), (0, Rv 11), (1, Iv x1), (2, Iv x2)]) F dX11_goOver_87 rfl (by decide) rfl (fun x_19 ex_19 => ?_)
      have hb := hb x_19 ex_19
      refine r_goto (pc := 90) (tgt := 64) F dX11_goOver_90 (by decide) ?_
      exact V.sub [1, 2, 3, 0] rfl (g64 μ_18 x1 x2 x_19 hb)
  have hb := hb G8 G64 (fun μ x1 x2 x3 hb => f8 μ x1 x2 x3 (K8 μ x1 x2 x3 hb)) (fun μ x1 x2 x5 hb => f64 μ x1 x2 x5 (K64 μ x1 x2 x5 hb))
  unfold b_X11_goOver_e at hb
  refine r_aload_n (pc := 0) 0 F dX11_goOver_0 rfl rfl ?_
  refine r_callV (pc := 1) (avs := []) (st := []) F (c_X11_firstOrder μ _ hb) (by decide) cal_X11_firstOrder calv_X11_firstOrder lk_RX11_117 rfl rfl (Nat.le_of_ble_eq_true rfl) dX11_goOver_1 (fun μ_21 hb => ?_)
  refine r_iconst (pc := 4) F dX11_goOver_4 (inR_lit rfl) ?_
  refine r_istore_n (pc := 5) (lv' := [(2, Iv (-1)), (0, Rv 11), (1, Iv p0)]) F dX11_goOver_5 rfl (by decide) rfl ?_
  refine r_iconst (pc := 6) F dX11_goOver_6 (inR_lit rfl) ?_
  refine r_istore_n (pc := 7) (lv' := [(3, Iv 1), (2, Iv (-1)), (0, Rv 11), (1, Iv p0)]) F dX11_goOver_7 rfl (by decide) rfl ?_
  exact V.sub [2, 3, 1, 0] rfl (g8 μ_21 p0 (-1) 1 hb)
set_option maxHeartbeats 4000000 in
set_option maxRecDepth 100000 in
theorem c_X11_isPlace {g : Wc} {l : Launch} (μ : Mem) (p0 : Int) (Post : Pst) (hb : wp_X11_isPlace μ p0 Post) : MtC g l yX11_isPlace cX11_isPlace 2 (some .boolean) 1 [Rv 11, Iv p0] μ (QI g Post) := by
  intro hok
  refine enter (own := RX11) (by decide) rfl (Nat.le_of_ble_eq_true rfl) hok (fun X hl F hr hR => ?_)
  subst hl
  show V g X 2 μ [(0, Rv 11), (1, Iv p0)] 0 []
  unfold wp_X11_isPlace at hb
  have hb := hb
  unfold b_X11_isPlace_e at hb
  refine r_iload_n (pc := 0) 1 F dX11_isPlace_0 rfl rfl ?_
  refine r_i2l (pc := 1) F dX11_isPlace_1 ?_
  refine r_ldc2 (pc := 2) F kl_RX11_134 (x := (-1)) (by decide) (inRL_lit rfl) dX11_isPlace_2 ?_
  refine r_aload_n (pc := 5) 0 F dX11_isPlace_5 rfl rfl ?_
  refine gf_RX11_83 (pc := 6) F dX11_isPlace_6 ?_
  refine r_iconst (pc := 9) F dX11_isPlace_9 (inR_lit rfl) ?_
  refine r_isub (pc := 10) F dX11_isPlace_10 ?_
  refine r_i2l (pc := 11) F dX11_isPlace_11 ?_
  refine r_callSI (pc := 12) (avs := [Lv p0, Lv (-1), Lv (wrap ((μ 11 0) - 1))]) (st := []) F (c_X11_in μ p0 (-1) (wrap ((μ 11 0) - 1)) _ hb) (by decide) cal_X11_in st_X11_in lk_RX11_86 rfl rfl (Nat.le_of_ble_eq_true rfl) dX11_isPlace_12 (fun r_1 μ_2 hb => ?_)
  exact r_zret (pc := 15) F hR hr dX11_isPlace_15 hb.1 hb.2
set_option maxHeartbeats 4000000 in
set_option maxRecDepth 100000 in
theorem c_X11_best {g : Wc} {l : Launch} (μ : Mem) (p0 : Int) (p1 : Int) (Post : Pst) (hb : wp_X11_best μ p0 p1 Post) : MtC g l yX11_best cX11_best 4 (some .int) 3 [Rv 11, Iv p0, Iv p1] μ (QI g Post) := by
  intro hok
  refine enter (own := RX11) (by decide) rfl (Nat.le_of_ble_eq_true rfl) hok (fun X hl F hr hR => ?_)
  subst hl
  show V g X 4 μ [(0, Rv 11), (1, Iv p0), (2, Iv p1)] 0 []
  unfold wp_X11_best at hb
  have hb := hb
  unfold b_X11_best_e at hb
  refine r_iload_n (pc := 0) 1 F dX11_best_0 rfl rfl ?_
  refine r_i2l (pc := 1) F dX11_best_1 ?_
  refine r_lconst (pc := 2) (x := 0) F dX11_best_2 (inRL_lit rfl) (by decide) ?_
  refine r_ldc2 (pc := 3) F kl_RX11_96 (x := 4) (by decide) (inRL_lit rfl) dX11_best_3 ?_
  refine r_callSI (pc := 6) (avs := [Lv p0, Lv 0, Lv 4]) (st := []) F (c_X11_in μ p0 0 4 _ hb) (by decide) cal_X11_in st_X11_in lk_RX11_86 rfl rfl (Nat.le_of_ble_eq_true rfl) dX11_best_6 (fun r_1 μ_2 hb => ?_)
  refine r_if_eq (pc := 9) (tgt := 20) F dX11_best_9 (by decide) (fun c_3 => ?_) (fun c_3 => ?_)
  · have hb := hb.1 c_3
    refine r_bipush (pc := 20) F dX11_best_20 (inR_lit rfl) (by decide) ?_
    exact r_iret (pc := 22) F hR hr dX11_best_22 hb
  · have hb := hb.2 c_3
    refine r_aload_n (pc := 12) 0 F dX11_best_12 rfl rfl ?_
    refine r_iload_n (pc := 13) 2 F dX11_best_13 rfl rfl ?_
    refine r_callI (pc := 14) (avs := [Iv p1]) (st := []) F (c_X11_isPlace μ_2 p1 _ hb) (by decide) cal_X11_isPlace calv_X11_isPlace lk_RX11_136 rfl rfl (Nat.le_of_ble_eq_true rfl) dX11_best_14 (fun r_4 μ_5 hb => ?_)
    refine r_if_ne (pc := 17) (tgt := 23) F dX11_best_17 (by decide) (fun c_6 => ?_) (fun c_6 => ?_)
    · have hb := hb.1 c_6
      refine r_aload_n (pc := 23) 0 F dX11_best_23 rfl rfl ?_
      refine r_iload_n (pc := 24) 1 F dX11_best_24 rfl rfl ?_
      refine r_callI (pc := 25) (avs := [Iv p0]) (st := []) F (c_X11_goOver μ_5 p0 _ hb) (by decide) cal_X11_goOver calv_X11_goOver lk_RX11_139 rfl rfl (Nat.le_of_ble_eq_true rfl) dX11_best_25 (fun r_7 μ_8 hb => ?_)
      refine r_istore_n (pc := 28) (lv' := [(3, Iv r_7), (0, Rv 11), (1, Iv p0), (2, Iv p1)]) F dX11_best_28 rfl (by decide) rfl ?_
      refine r_iload_n (pc := 29) 3 F dX11_best_29 rfl rfl ?_
      refine r_iconst (pc := 30) F dX11_best_30 (inR_lit rfl) ?_
      refine r_icmp_ne (pc := 31) (tgt := 38) F dX11_best_31 (by decide) (fun c_9 => ?_) (fun c_9 => ?_)
      · have hb := hb.1 c_9
        refine r_aload_n (pc := 38) 1 F dX11_best_38 rfl rfl ?_
        refine gf_RX11_59 (pc := 39) F dX11_best_39 ?_
        refine r_iload_n (pc := 42) 3 F dX11_best_42 rfl rfl ?_
        have hg_10 := hb.1
        have hb := hb.2
        refine r_iald (pc := 43) F lc104.1 lc104.2.1 lc104.2.2 hg_10 dX11_best_43 ?_
        exact r_iret (pc := 44) F hR hr dX11_best_44 hb
      · have hb := hb.2 c_9
        refine r_iload_n (pc := 34) 0 F dX11_best_34 rfl rfl ?_
        refine r_goto (pc := 35) (tgt := 44) F dX11_best_35 (by decide) ?_
        exact r_iret (pc := 44) F hR hr dX11_best_44 hb
    · have hb := hb.2 c_6
      refine r_bipush (pc := 20) F dX11_best_20 (inR_lit rfl) (by decide) ?_
      exact r_iret (pc := 22) F hR hr dX11_best_22 hb
set_option maxHeartbeats 4000000 in
set_option maxRecDepth 100000 in
theorem c_X11_bestRow {g : Wc} {l : Launch} (μ : Mem) (p0 : Int) (Post : Pst) (hb : wp_X11_bestRow μ p0 Post) : MtC g l yX11_bestRow cX11_bestRow 3 (some .int) 3 [Rv 11, Iv p0] μ (QI g Post) := by
  intro hok
  refine enter (own := RX11) (by decide) rfl (Nat.le_of_ble_eq_true rfl) hok (fun X hl F hr hR => ?_)
  subst hl
  show V g X 3 μ [(0, Rv 11), (1, Iv p0)] 0 []
  unfold wp_X11_bestRow at hb
  have hb := hb
  unfold b_X11_bestRow_e at hb
  refine r_aload_n (pc := 0) 0 F dX11_bestRow_0 rfl rfl ?_
  refine r_iload_n (pc := 1) 1 F dX11_bestRow_1 rfl rfl ?_
  refine r_callI (pc := 2) (avs := [Iv p0]) (st := []) F (c_X11_isPlace μ p0 _ hb) (by decide) cal_X11_isPlace calv_X11_isPlace lk_RX11_136 rfl rfl (Nat.le_of_ble_eq_true rfl) dX11_bestRow_2 (fun r_1 μ_2 hb => ?_)
  refine r_if_ne (pc := 5) (tgt := 11) F dX11_bestRow_5 (by decide) (fun c_3 => ?_) (fun c_3 => ?_)
  · have hb := hb.1 c_3
    refine r_aload_n (pc := 11) 0 F dX11_bestRow_11 rfl rfl ?_
    refine r_iconst (pc := 12) F dX11_bestRow_12 (inR_lit rfl) ?_
    refine r_callI (pc := 13) (avs := [Iv 5]) (st := []) F (c_X11_goOver μ_2 5 _ hb) (by decide) cal_X11_goOver calv_X11_goOver lk_RX11_139 rfl rfl (Nat.le_of_ble_eq_true rfl) dX11_bestRow_13 (fun r_4 μ_5 hb => ?_)
    refine r_istore_n (pc := 16) (lv' := [(2, Iv r_4), (0, Rv 11), (1, Iv p0)]) F dX11_bestRow_16 rfl (by decide) rfl ?_
    refine r_iload_n (pc := 17) 2 F dX11_bestRow_17 rfl rfl ?_
    refine r_iconst (pc := 18) F dX11_bestRow_18 (inR_lit rfl) ?_
    refine r_icmp_ne (pc := 19) (tgt := 26) F dX11_bestRow_19 (by decide) (fun c_6 => ?_) (fun c_6 => ?_)
    · have hb := hb.1 c_6
      refine r_aload_n (pc := 26) 1 F dX11_bestRow_26 rfl rfl ?_
      refine gf_RX11_59 (pc := 27) F dX11_bestRow_27 ?_
      refine r_iload_n (pc := 30) 2 F dX11_bestRow_30 rfl rfl ?_
      have hg_7 := hb.1
      have hb := hb.2
      refine r_iald (pc := 31) F lc104.1 lc104.2.1 lc104.2.2 hg_7 dX11_bestRow_31 ?_
      exact r_iret (pc := 32) F hR hr dX11_bestRow_32 hb
    · have hb := hb.2 c_6
      refine r_iload_n (pc := 22) 0 F dX11_bestRow_22 rfl rfl ?_
      refine r_goto (pc := 23) (tgt := 32) F dX11_bestRow_23 (by decide) ?_
      exact r_iret (pc := 32) F hR hr dX11_bestRow_32 hb
  · have hb := hb.2 c_3
    refine r_bipush (pc := 8) F dX11_bestRow_8 (inR_lit rfl) (by decide) ?_
    exact r_iret (pc := 10) F hR hr dX11_bestRow_10 hb
set_option maxHeartbeats 4000000 in
set_option maxRecDepth 100000 in
theorem c_X11_bound {g : Wc} {l : Launch} (μ : Mem) (Post : Pst) (hb : wp_X11_bound μ Post) : MtC g l yX11_bound cX11_bound 10 (some .int) 0 [Rv 11] μ (QI g Post) := by
  intro hok
  refine enter (own := RX11) (by decide) rfl (Nat.le_of_ble_eq_true rfl) hok (fun X hl F hr hR => ?_)
  subst hl
  show V g X 10 μ [(0, Rv 11)] 0 []
  unfold wp_X11_bound at hb
  obtain ⟨G4, g4, f4⟩ : ∃ G : Mem → Int → Int → Prop, (∀ μ x1 x2, G μ x1 x2 → V g X 10 μ [(0, Rv 11), (1, Iv x1), (2, Iv x2)] 4 []) ∧ (∀ μ x1 x2, V g X 10 μ [(0, Rv 11), (1, Iv x1), (2, Iv x2)] 4 [] → G μ x1 x2) := ⟨fun μ x1 x2 => V g X 10 μ [(0, Rv 11), (1, Iv x1), (2, Iv x2)] 4 [], fun _ _ _ h => h, fun _ _ _ h => h⟩
  obtain ⟨G34, g34, f34⟩ : ∃ G : Mem → Int → Int → Int → Int → Int → Int → Prop, (∀ μ x1 x2 x3 x4 x5 x6, G μ x1 x2 x3 x4 x5 x6 → V g X 10 μ [(0, Rv 11), (1, Iv x1), (2, Iv x2), (3, Iv x3), (4, Iv x4), (5, Iv x5), (6, Iv x6)] 34 []) ∧ (∀ μ x1 x2 x3 x4 x5 x6, V g X 10 μ [(0, Rv 11), (1, Iv x1), (2, Iv x2), (3, Iv x3), (4, Iv x4), (5, Iv x5), (6, Iv x6)] 34 [] → G μ x1 x2 x3 x4 x5 x6) := ⟨fun μ x1 x2 x3 x4 x5 x6 => V g X 10 μ [(0, Rv 11), (1, Iv x1), (2, Iv x2), (3, Iv x3), (4, Iv x4), (5, Iv x5), (6, Iv x6)] 34 [], fun _ _ _ _ _ _ _ h => h, fun _ _ _ _ _ _ _ h => h⟩
  obtain ⟨G52, g52, f52⟩ : ∃ G : Mem → Int → Int → Int → Int → Int → Int → Int → Int → Int → Prop, (∀ μ x1 x2 x3 x4 x5 x6 x7 x8 x9, G μ x1 x2 x3 x4 x5 x6 x7 x8 x9 → V g X 10 μ [(0, Rv 11), (1, Iv x1), (2, Iv x2), (3, Iv x3), (4, Iv x4), (5, Iv x5), (6, Iv x6), (7, Iv x7), (8, Iv x8), (9, Iv x9)] 52 []) ∧ (∀ μ x1 x2 x3 x4 x5 x6 x7 x8 x9, V g X 10 μ [(0, Rv 11), (1, Iv x1), (2, Iv x2), (3, Iv x3), (4, Iv x4), (5, Iv x5), (6, Iv x6), (7, Iv x7), (8, Iv x8), (9, Iv x9)] 52 [] → G μ x1 x2 x3 x4 x5 x6 x7 x8 x9) := ⟨fun μ x1 x2 x3 x4 x5 x6 x7 x8 x9 => V g X 10 μ [(0, Rv 11), (1, Iv x1), (2, Iv x2), (3, Iv x3), (4, Iv x4), (5, Iv x5), (6, Iv x6), (7, Iv x7), (8, Iv x8), (9, Iv x9)] 52 [], fun _ _ _ _ _ _ _ _ _ _ h => h, fun _ _ _ _ _ _ _ _ _ _ h => h⟩
  have K112 : ∀ (μ : Mem) (x1 : Int) (x2 : Int) (x3 : Int) (x4 : Int) (x5 : Int) (x6 : Int) (x7 : Int) (x9 : Int) (s0 : Int) (s1 : Int), b_X11_bound_112 G4 G34 G52 Post μ x1 x2 x3 x4 x5 x6 x7 x9 s0 s1 → V g X 10 μ [(0, Rv 11), (1, Iv x1), (2, Iv x2), (3, Iv x3), (4, Iv x4), (5, Iv x5), (6, Iv x6), (7, Iv x7), (9, Iv x9)] 112 [Iv s1, Iv s0] := by
    intro μ x1 x2 x3 x4 x5 x6 x7 x9 s0 s1 hb
    unfold b_X11_bound_112 at hb
    refine r_iadd (pc := 112) F dX11_bound_112 ?_
    refine V.nmI (fun x_1 ex_1 => ?_)
    have hb := hb x_1 ex_1
    refine r_istore (pc := 113) (lv' := [(8, Iv x_1), (0, Rv 11), (1, Iv x1), (2, Iv x2), (3, Iv x3), (4, Iv x4), (5, Iv x5), (6, Iv x6), (7, Iv x7), (9, Iv x9)]) F dX11_bound_113 (by decide) rfl ?_
    refine r_iincN (pc := 115) 9 (lf := fun x_2 => [(9, Iv x_2), (8, Iv x_1), (0, Rv 11), (1, Iv x1), (2, Iv x2), (3, Iv x3), (4, Iv x4), (5, Iv x5), (6, Iv x6), (7, Iv x7)]) F dX11_bound_115 rfl (by decide) rfl (fun x_2 ex_2 => ?_)
    have hb := hb x_2 ex_2
    refine r_goto (pc := 118) (tgt := 52) F dX11_bound_118 (by decide) ?_
    exact V.sub [2, 3, 4, 5, 6, 7, 8, 9, 1, 0] rfl (g52 μ x1 x2 x3 x4 x5 x6 x7 x_1 x_2 hb)
  have K85 : ∀ (μ : Mem) (x1 : Int) (x2 : Int) (x3 : Int) (x4 : Int) (x5 : Int) (x6 : Int) (x8 : Int) (x9 : Int) (s0 : Int) (s1 : Int), b_X11_bound_85 G4 G34 G52 Post μ x1 x2 x3 x4 x5 x6 x8 x9 s0 s1 → V g X 10 μ [(0, Rv 11), (1, Iv x1), (2, Iv x2), (3, Iv x3), (4, Iv x4), (5, Iv x5), (6, Iv x6), (8, Iv x8), (9, Iv x9)] 85 [Iv s1, Iv s0] := by
    intro μ x1 x2 x3 x4 x5 x6 x8 x9 s0 s1 hb
    unfold b_X11_bound_85 at hb
    refine r_iadd (pc := 85) F dX11_bound_85 ?_
    refine V.nmI (fun x_3 ex_3 => ?_)
    have hb := hb x_3 ex_3
    refine r_istore (pc := 86) (lv' := [(7, Iv x_3), (0, Rv 11), (1, Iv x1), (2, Iv x2), (3, Iv x3), (4, Iv x4), (5, Iv x5), (6, Iv x6), (8, Iv x8), (9, Iv x9)]) F dX11_bound_86 (by decide) rfl ?_
    refine r_iload (pc := 88) 8 F dX11_bound_88 rfl ?_
    refine r_iload (pc := 90) 9 F dX11_bound_90 rfl ?_
    refine r_iload_n (pc := 92) 3 F dX11_bound_92 rfl rfl ?_
    refine r_icmp_le (pc := 93) (tgt := 111) F dX11_bound_93 (by decide) (fun c_4 => ?_) (fun c_4 => ?_)
    · have hb := hb.1 c_4
      refine r_iconst (pc := 111) F dX11_bound_111 (inR_lit rfl) ?_
      exact V.sub [1, 2, 3, 4, 5, 6, 7, 0, 9] rfl (K112 μ x1 x2 x3 x4 x5 x6 x_3 x9 x8 0 hb)
    · have hb := hb.2 c_4
      refine r_aload_n (pc := 96) 1 F dX11_bound_96 rfl rfl ?_
      refine gf_RX11_31 (pc := 97) F dX11_bound_97 ?_
      refine r_iconst (pc := 100) F dX11_bound_100 (inR_lit rfl) ?_
      refine r_iload (pc := 101) 7 F dX11_bound_101 rfl ?_
      refine r_imul (pc := 103) F dX11_bound_103 ?_
      refine r_iload (pc := 104) 9 F dX11_bound_104 rfl ?_
      refine r_iadd (pc := 106) F dX11_bound_106 ?_
      have hg_5 := hb.1
      have hb := hb.2
      refine r_iald (pc := 107) F lc97.1 lc97.2.1 lc97.2.2 hg_5 dX11_bound_107 ?_
      refine r_goto (pc := 108) (tgt := 112) F dX11_bound_108 (by decide) ?_
      exact V.sub [1, 2, 3, 4, 5, 6, 7, 0, 9] rfl (K112 μ x1 x2 x3 x4 x5 x6 x_3 x9 x8 (μ 97 (wrap ((wrap (4 * x6)) + x9)).toNat) hb)
  have K165 : ∀ (μ : Mem) (x1 : Int) (x2 : Int) (x3 : Int) (x4 : Int) (x6 : Int) (s0 : Int), b_X11_bound_165 G4 G34 G52 Post μ x1 x2 x3 x4 x6 s0 → V g X 10 μ [(0, Rv 11), (1, Iv x1), (2, Iv x2), (3, Iv x3), (4, Iv x4), (6, Iv x6)] 165 [Iv s0] := by
    intro μ x1 x2 x3 x4 x6 s0 hb
    unfold b_X11_bound_165 at hb
    refine r_istore (pc := 165) (lv' := [(5, Iv s0), (0, Rv 11), (1, Iv x1), (2, Iv x2), (3, Iv x3), (4, Iv x4), (6, Iv x6)]) F dX11_bound_165 (by decide) rfl ?_
    refine r_iincN (pc := 167) 6 (lf := fun x_6 => [(6, Iv x_6), (5, Iv s0), (0, Rv 11), (1, Iv x1), (2, Iv x2), (3, Iv x3), (4, Iv x4)]) F dX11_bound_167 rfl (by decide) rfl (fun x_6 ex_6 => ?_)
    have hb := hb x_6 ex_6
    refine r_goto (pc := 170) (tgt := 34) F dX11_bound_170 (by decide) ?_
    exact V.sub [2, 3, 4, 5, 6, 1, 0] rfl (g34 μ x1 x2 x3 x4 s0 x_6 hb)
  have K149 : ∀ (μ : Mem) (x1 : Int) (x2 : Int) (x3 : Int) (x5 : Int) (x6 : Int) (x8 : Int) (s0 : Int), b_X11_bound_149 G4 G34 G52 Post μ x1 x2 x3 x5 x6 x8 s0 → V g X 10 μ [(0, Rv 11), (1, Iv x1), (2, Iv x2), (3, Iv x3), (5, Iv x5), (6, Iv x6), (8, Iv x8)] 149 [Iv s0] := by
    intro μ x1 x2 x3 x5 x6 x8 s0 hb
    unfold b_X11_bound_149 at hb
    refine r_istore (pc := 149) (lv' := [(4, Iv s0), (0, Rv 11), (1, Iv x1), (2, Iv x2), (3, Iv x3), (5, Iv x5), (6, Iv x6), (8, Iv x8)]) F dX11_bound_149 (by decide) rfl ?_
    refine r_iload (pc := 151) 7 F dX11_bound_151 rfl ?_
    refine r_iload (pc := 153) 5 F dX11_bound_153 rfl ?_
    refine r_icmp_ge (pc := 155) (tgt := 163) F dX11_bound_155 (by decide) (fun c_7 => ?_) (fun c_7 => ?_)
    · have hb := hb.1 c_7
      refine r_iload (pc := 163) 5 F dX11_bound_163 rfl ?_
      exact V.sub [1, 2, 3, 4, 0, 6] rfl (K165 μ x1 x2 x3 s0 x6 x5 hb)
    · have hb := hb.2 c_7
      refine r_iload (pc := 158) 7 F dX11_bound_158 rfl ?_
      refine r_goto (pc := 160) (tgt := 165) F dX11_bound_160 (by decide) ?_
      exact V.sub [1, 2, 3, 4, 0, 6] rfl (K165 μ x1 x2 x3 s0 x6 x8 hb)
  have K195 : ∀ (μ : Mem) (x2 : Int) (s0 : Int), b_X11_bound_195 G4 G34 G52 Post μ x2 s0 → V g X 10 μ [(0, Rv 11), (2, Iv x2)] 195 [Iv s0] := by
    intro μ x2 s0 hb
    unfold b_X11_bound_195 at hb
    refine r_istore_n (pc := 195) (lv' := [(1, Iv s0), (0, Rv 11), (2, Iv x2)]) F dX11_bound_195 rfl (by decide) rfl ?_
    refine r_iincN (pc := 196) 2 (lf := fun x_8 => [(2, Iv x_8), (1, Iv s0), (0, Rv 11)]) F dX11_bound_196 rfl (by decide) rfl (fun x_8 ex_8 => ?_)
    have hb := hb x_8 ex_8
    refine r_goto (pc := 199) (tgt := 4) F dX11_bound_199 (by decide) ?_
    exact V.sub [2, 1, 0] rfl (g4 μ s0 x_8 hb)
  have K4 : ∀ (μ : Mem) (x1 : Int) (x2 : Int), b_X11_bound_4 G4 G34 G52 Post μ x1 x2 → V g X 10 μ [(0, Rv 11), (1, Iv x1), (2, Iv x2)] 4 [] := by
    intro μ x1 x2 hb
    unfold b_X11_bound_4 at hb
    refine r_iload_n (pc := 4) 2 F dX11_bound_4 rfl rfl ?_
    refine r_aload_n (pc := 5) 0 F dX11_bound_5 rfl rfl ?_
    refine gf_RX11_34 (pc := 6) F dX11_bound_6 ?_
    refine r_icmp_ge (pc := 9) (tgt := 202) F dX11_bound_9 (by decide) (fun c_9 => ?_) (fun c_9 => ?_)
    · have hb := hb.1 c_9
      refine r_iload_n (pc := 202) 1 F dX11_bound_202 rfl rfl ?_
      exact r_iret (pc := 203) F hR hr dX11_bound_203 hb
    · have hb := hb.2 c_9
      refine r_aload_n (pc := 12) 0 F dX11_bound_12 rfl rfl ?_
      refine gf_RX11_83 (pc := 13) F dX11_bound_13 ?_
      refine r_if_le (pc := 16) (tgt := 202) F dX11_bound_16 (by decide) (fun c_10 => ?_) (fun c_10 => ?_)
      · have hb := hb.1 c_10
        refine r_iload_n (pc := 202) 1 F dX11_bound_202 rfl rfl ?_
        exact r_iret (pc := 203) F hR hr dX11_bound_203 hb
      · have hb := hb.2 c_10
        refine r_iconst (pc := 19) F dX11_bound_19 (inR_lit rfl) ?_
        refine r_istore_n (pc := 20) (lv' := [(3, Iv 0), (0, Rv 11), (1, Iv x1), (2, Iv x2)]) F dX11_bound_20 rfl (by decide) rfl ?_
        refine r_sipush (pc := 21) F dX11_bound_21 (inR_lit rfl) (by decide) ?_
        refine r_istore (pc := 24) (lv' := [(4, Iv 1000), (3, Iv 0), (0, Rv 11), (1, Iv x1), (2, Iv x2)]) F dX11_bound_24 (by decide) rfl ?_
        refine r_sipush (pc := 26) F dX11_bound_26 (inR_lit rfl) (by decide) ?_
        refine r_istore (pc := 29) (lv' := [(5, Iv 1000), (4, Iv 1000), (3, Iv 0), (0, Rv 11), (1, Iv x1), (2, Iv x2)]) F dX11_bound_29 (by decide) rfl ?_
        refine r_iconst (pc := 31) F dX11_bound_31 (inR_lit rfl) ?_
        refine r_istore (pc := 32) (lv' := [(6, Iv 0), (5, Iv 1000), (4, Iv 1000), (3, Iv 0), (0, Rv 11), (1, Iv x1), (2, Iv x2)]) F dX11_bound_32 (by decide) rfl ?_
        exact V.sub [4, 5, 6, 3, 2, 1, 0] rfl (g34 μ x1 x2 0 1000 1000 0 hb)
  have K34 : ∀ (μ : Mem) (x1 : Int) (x2 : Int) (x3 : Int) (x4 : Int) (x5 : Int) (x6 : Int), b_X11_bound_34 G4 G34 G52 Post μ x1 x2 x3 x4 x5 x6 → V g X 10 μ [(0, Rv 11), (1, Iv x1), (2, Iv x2), (3, Iv x3), (4, Iv x4), (5, Iv x5), (6, Iv x6)] 34 [] := by
    intro μ x1 x2 x3 x4 x5 x6 hb
    unfold b_X11_bound_34 at hb
    refine r_iload (pc := 34) 6 F dX11_bound_34 rfl ?_
    refine r_aload_n (pc := 36) 0 F dX11_bound_36 rfl rfl ?_
    refine gf_RX11_83 (pc := 37) F dX11_bound_37 ?_
    refine r_icmp_ge (pc := 40) (tgt := 173) F dX11_bound_40 (by decide) (fun c_11 => ?_) (fun c_11 => ?_)
    · have hb := hb.1 c_11
      refine r_iload_n (pc := 173) 3 F dX11_bound_173 rfl rfl ?_
      refine r_iload (pc := 174) 4 F dX11_bound_174 rfl ?_
      refine r_iadd (pc := 176) F dX11_bound_176 ?_
      refine r_iload (pc := 177) 5 F dX11_bound_177 rfl ?_
      refine r_iadd (pc := 179) F dX11_bound_179 ?_
      refine r_iload_n (pc := 180) 1 F dX11_bound_180 rfl rfl ?_
      refine r_icmp_le (pc := 181) (tgt := 194) F dX11_bound_181 (by decide) (fun c_12 => ?_) (fun c_12 => ?_)
      · have hb := hb.1 c_12
        refine r_iload_n (pc := 194) 1 F dX11_bound_194 rfl rfl ?_
        exact V.sub [0, 2] rfl (K195 μ x2 x1 hb)
      · have hb := hb.2 c_12
        refine r_iload_n (pc := 184) 3 F dX11_bound_184 rfl rfl ?_
        refine r_iload (pc := 185) 4 F dX11_bound_185 rfl ?_
        refine r_iadd (pc := 187) F dX11_bound_187 ?_
        refine r_iload (pc := 188) 5 F dX11_bound_188 rfl ?_
        refine r_iadd (pc := 190) F dX11_bound_190 ?_
        refine r_goto (pc := 191) (tgt := 195) F dX11_bound_191 (by decide) ?_
        exact V.sub [0, 2] rfl (K195 μ x2 (wrap ((wrap (x3 + x4)) + x5)) hb)
    · have hb := hb.2 c_11
      refine r_iconst (pc := 43) F dX11_bound_43 (inR_lit rfl) ?_
      refine r_istore (pc := 44) (lv' := [(7, Iv 0), (0, Rv 11), (1, Iv x1), (2, Iv x2), (3, Iv x3), (4, Iv x4), (5, Iv x5), (6, Iv x6)]) F dX11_bound_44 (by decide) rfl ?_
      refine r_iconst (pc := 46) F dX11_bound_46 (inR_lit rfl) ?_
      refine r_istore (pc := 47) (lv' := [(8, Iv 0), (7, Iv 0), (0, Rv 11), (1, Iv x1), (2, Iv x2), (3, Iv x3), (4, Iv x4), (5, Iv x5), (6, Iv x6)]) F dX11_bound_47 (by decide) rfl ?_
      refine r_iconst (pc := 49) F dX11_bound_49 (inR_lit rfl) ?_
      refine r_istore (pc := 50) (lv' := [(9, Iv 0), (8, Iv 0), (7, Iv 0), (0, Rv 11), (1, Iv x1), (2, Iv x2), (3, Iv x3), (4, Iv x4), (5, Iv x5), (6, Iv x6)]) F dX11_bound_50 (by decide) rfl ?_
      exact V.sub [3, 4, 5, 6, 7, 8, 9, 2, 1, 0] rfl (g52 μ x1 x2 x3 x4 x5 x6 0 0 0 hb)
  have K52 : ∀ (μ : Mem) (x1 : Int) (x2 : Int) (x3 : Int) (x4 : Int) (x5 : Int) (x6 : Int) (x7 : Int) (x8 : Int) (x9 : Int), b_X11_bound_52 G4 G34 G52 Post μ x1 x2 x3 x4 x5 x6 x7 x8 x9 → V g X 10 μ [(0, Rv 11), (1, Iv x1), (2, Iv x2), (3, Iv x3), (4, Iv x4), (5, Iv x5), (6, Iv x6), (7, Iv x7), (8, Iv x8), (9, Iv x9)] 52 [] := by
    intro μ x1 x2 x3 x4 x5 x6 x7 x8 x9 hb
    unfold b_X11_bound_52 at hb
    refine r_iload (pc := 52) 9 F dX11_bound_52 rfl ?_
    refine r_aload_n (pc := 54) 0 F dX11_bound_54 rfl rfl ?_
    refine gf_RX11_34 (pc := 55) F dX11_bound_55 ?_
    refine r_icmp_ge (pc := 58) (tgt := 121) F dX11_bound_58 (by decide) (fun c_13 => ?_) (fun c_13 => ?_)
    · have hb := hb.1 c_13
      refine r_iload_n (pc := 121) 3 F dX11_bound_121 rfl rfl ?_
      refine r_aload_n (pc := 122) 0 F dX11_bound_122 rfl rfl ?_
      refine gf_RX11_31 (pc := 123) F dX11_bound_123 ?_
      refine r_iconst (pc := 126) F dX11_bound_126 (inR_lit rfl) ?_
      refine r_iload (pc := 127) 6 F dX11_bound_127 rfl ?_
      refine r_imul (pc := 129) F dX11_bound_129 ?_
      refine r_iload_n (pc := 130) 2 F dX11_bound_130 rfl rfl ?_
      refine r_iadd (pc := 131) F dX11_bound_131 ?_
      have hg_14 := hb.1
      have hb := hb.2
      refine r_iald (pc := 132) F lc97.1 lc97.2.1 lc97.2.2 hg_14 dX11_bound_132 ?_
      refine r_iadd (pc := 133) F dX11_bound_133 ?_
      refine V.nmI (fun x_15 ex_15 => ?_)
      have hb := hb x_15 ex_15
      refine r_istore_n (pc := 134) (lv' := [(3, Iv x_15), (0, Rv 11), (1, Iv x1), (2, Iv x2), (4, Iv x4), (5, Iv x5), (6, Iv x6), (7, Iv x7), (8, Iv x8), (9, Iv x9)]) F dX11_bound_134 rfl (by decide) rfl ?_
      refine r_iload (pc := 135) 7 F dX11_bound_135 rfl ?_
      refine r_iload (pc := 137) 4 F dX11_bound_137 rfl ?_
      refine r_icmp_ge (pc := 139) (tgt := 147) F dX11_bound_139 (by decide) (fun c_16 => ?_) (fun c_16 => ?_)
      · have hb := hb.1 c_16
        refine r_iload (pc := 147) 4 F dX11_bound_147 rfl ?_
        exact V.sub [1, 2, 3, 0, 5, 6, 8] rfl (K149 μ x1 x2 x_15 x5 x6 x8 x4 hb)
      · have hb := hb.2 c_16
        refine r_iload (pc := 142) 7 F dX11_bound_142 rfl ?_
        refine r_goto (pc := 144) (tgt := 149) F dX11_bound_144 (by decide) ?_
        exact V.sub [1, 2, 3, 0, 5, 6, 8] rfl (K149 μ x1 x2 x_15 x5 x6 x8 x7 hb)
    · have hb := hb.2 c_13
      refine r_iload (pc := 61) 7 F dX11_bound_61 rfl ?_
      refine r_iload (pc := 63) 9 F dX11_bound_63 rfl ?_
      refine r_iload_n (pc := 65) 2 F dX11_bound_65 rfl rfl ?_
      refine r_icmp_ge (pc := 66) (tgt := 84) F dX11_bound_66 (by decide) (fun c_17 => ?_) (fun c_17 => ?_)
      · have hb := hb.1 c_17
        refine r_iconst (pc := 84) F dX11_bound_84 (inR_lit rfl) ?_
        exact V.sub [0, 1, 2, 3, 4, 5, 6, 8, 9] rfl (K85 μ x1 x2 x3 x4 x5 x6 x8 x9 x7 0 hb)
      · have hb := hb.2 c_17
        refine r_aload_n (pc := 69) 0 F dX11_bound_69 rfl rfl ?_
        refine gf_RX11_31 (pc := 70) F dX11_bound_70 ?_
        refine r_iconst (pc := 73) F dX11_bound_73 (inR_lit rfl) ?_
        refine r_iload (pc := 74) 6 F dX11_bound_74 rfl ?_
        refine r_imul (pc := 76) F dX11_bound_76 ?_
        refine r_iload (pc := 77) 9 F dX11_bound_77 rfl ?_
        refine r_iadd (pc := 79) F dX11_bound_79 ?_
        have hg_18 := hb.1
        have hb := hb.2
        refine r_iald (pc := 80) F lc97.1 lc97.2.1 lc97.2.2 hg_18 dX11_bound_80 ?_
        refine r_goto (pc := 81) (tgt := 85) F dX11_bound_81 (by decide) ?_
        exact V.sub [0, 1, 2, 3, 4, 5, 6, 8, 9] rfl (K85 μ x1 x2 x3 x4 x5 x6 x8 x9 x7 (μ 97 (wrap ((wrap (4 * x6)) + x9)).toNat) hb)
  have hb := hb G4 G34 G52 (fun μ x1 x2 hb => f4 μ x1 x2 (K4 μ x1 x2 hb)) (fun μ x1 x2 x3 x4 x5 x6 hb => f34 μ x1 x2 x3 x4 x5 x6 (K34 μ x1 x2 x3 x4 x5 x6 hb)) (fun μ x1 x2 x3 x4 x5 x6 x7 x8 x9 hb => f52 μ x1 x2 x3 x4 x5 x6 x7 x8 x9 (K52 μ x1 x2 x3 x4 x5 x6 x7 x8 x9 hb))
  unfold b_X11_bound_e at hb
  refine r_iconst (pc := 0) F dX11_bound_0 (inR_lit rfl) ?_
  refine r_istore_n (pc := 1) (lv' := [(1, Iv 0), (0, Rv 11)]) F dX11_bound_1 rfl (by decide) rfl ?_
  refine r_iconst (pc := 2) F dX11_bound_2 (inR_lit rfl) ?_
  refine r_istore_n (pc := 3) (lv' := [(2, Iv 0), (1, Iv 0), (0, Rv 11)]) F dX11_bound_3 rfl (by decide) rfl ?_
  exact V.sub [2, 1, 0] rfl (g4 μ 0 0 hb)
