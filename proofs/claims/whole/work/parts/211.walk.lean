/-! Walks: X11_leaf, X11_size, X11_leastMinutes, X11_levelOf, X11_least, X11_levels, X11_likes, X11_minute, X11_needs, X11_next, X11_onTime. By program. -/
set_option maxHeartbeats 4000000 in
set_option maxRecDepth 100000 in
theorem c_X11_leaf {g : Wc} {l : Launch} (μ : Mem) (p0 : Int) (Post : Pst) (hb : wp_X11_leaf μ p0 Post) : MtC g l yX11_leaf cX11_leaf 2 (some .int) 1 [Rv 11, Iv p0] μ (QI g Post) := by
  intro hok
  refine enter (own := RX11) (by decide) rfl (Nat.le_of_ble_eq_true rfl) hok (fun X hl F hr hR => ?_)
  subst hl
  show V g X 2 μ [(0, Rv 11), (1, Iv p0)] 0 []
  unfold wp_X11_leaf at hb
  have hb := hb
  unfold b_X11_leaf_e at hb
  refine r_iload_n (pc := 0) 1 F dX11_leaf_0 rfl rfl ?_
  refine r_i2l (pc := 1) F dX11_leaf_1 ?_
  refine r_ldc2 (pc := 2) F kl_RX11_134 (x := (-1)) (by decide) (inRL_lit rfl) dX11_leaf_2 ?_
  refine r_aload_n (pc := 5) 0 F dX11_leaf_5 rfl rfl ?_
  refine gf_RX11_179 (pc := 6) F dX11_leaf_6 ?_
  refine r_iconst (pc := 9) F dX11_leaf_9 (inR_lit rfl) ?_
  refine r_isub (pc := 10) F dX11_leaf_10 ?_
  refine r_i2l (pc := 11) F dX11_leaf_11 ?_
  refine r_callSI (pc := 12) (avs := [Lv p0, Lv (-1), Lv (wrap ((μ 11 15) - 1))]) (st := []) F (c_X11_in μ p0 (-1) (wrap ((μ 11 15) - 1)) _ hb) (by decide) cal_X11_in st_X11_in lk_RX11_86 rfl rfl (Nat.le_of_ble_eq_true rfl) dX11_leaf_12 (fun r_1 μ_2 hb => ?_)
  refine r_if_ne (pc := 15) (tgt := 21) F dX11_leaf_15 (by decide) (fun c_3 => ?_) (fun c_3 => ?_)
  · have hb := hb.1 c_3
    refine r_aload_n (pc := 21) 0 F dX11_leaf_21 rfl rfl ?_
    refine gf_RX11_179 (pc := 22) F dX11_leaf_22 ?_
    refine r_bipush (pc := 25) F dX11_leaf_25 (inR_lit rfl) (by decide) ?_
    refine r_icmp_ne (pc := 27) (tgt := 33) F dX11_leaf_27 (by decide) (fun c_4 => ?_) (fun c_4 => ?_)
    · have hb := hb.1 c_4
      refine r_aload_n (pc := 33) 0 F dX11_leaf_33 rfl rfl ?_
      refine gf_RX11_50 (pc := 34) F dX11_leaf_34 ?_
      refine r_aload_n (pc := 37) 0 F dX11_leaf_37 rfl rfl ?_
      refine gf_RX11_179 (pc := 38) F dX11_leaf_38 ?_
      refine r_iload_n (pc := 41) 1 F dX11_leaf_41 rfl rfl ?_
      have hg_5 := hb.1
      have hb := hb.2
      refine r_iast (pc := 42) F lc102.1 lc102.2.1 lc102.2.2 hg_5 dX11_leaf_42 ?_
      refine V.nmM (fun μ_6 eμ_6 => ?_)
      have hb := hb μ_6 eμ_6
      refine r_aload_n (pc := 43) 0 F dX11_leaf_43 rfl rfl ?_
      refine r_dup (pc := 44) F dX11_leaf_44 rfl ?_
      refine gf_RX11_179 (pc := 45) F dX11_leaf_45 ?_
      refine r_iconst (pc := 48) F dX11_leaf_48 (inR_lit rfl) ?_
      refine r_iadd (pc := 49) F dX11_leaf_49 ?_
      refine pf_RX11_179 (pc := 50) F dX11_leaf_50 ?_
      refine V.nmM (fun μ_7 eμ_7 => ?_)
      have hb := hb μ_7 eμ_7
      refine r_aload_n (pc := 53) 0 F dX11_leaf_53 rfl rfl ?_
      refine gf_RX11_179 (pc := 54) F dX11_leaf_54 ?_
      refine r_iconst (pc := 57) F dX11_leaf_57 (inR_lit rfl) ?_
      refine r_isub (pc := 58) F dX11_leaf_58 ?_
      exact r_iret (pc := 59) F hR hr dX11_leaf_59 hb
    · have hb := hb.2 c_4
      refine r_bipush (pc := 30) F dX11_leaf_30 (inR_lit rfl) (by decide) ?_
      exact r_iret (pc := 32) F hR hr dX11_leaf_32 hb
  · have hb := hb.2 c_3
    refine r_bipush (pc := 18) F dX11_leaf_18 (inR_lit rfl) (by decide) ?_
    exact r_iret (pc := 20) F hR hr dX11_leaf_20 hb
set_option maxHeartbeats 4000000 in
set_option maxRecDepth 100000 in
theorem c_X11_size {g : Wc} {l : Launch} (μ : Mem) (p0 : Int) (Post : Pst) (hb : wp_X11_size μ p0 Post) : MtC g l yX11_size cX11_size 3 (some .int) 0 [Iv p0] μ (QI g Post) := by
  intro hok
  refine enter (own := RX11) (by decide) rfl (Nat.le_of_ble_eq_true rfl) hok (fun X hl F hr hR => ?_)
  subst hl
  show V g X 3 μ [(0, Iv p0)] 0 []
  unfold wp_X11_size at hb
  obtain ⟨G4, g4, f4⟩ : ∃ G : Mem → Int → Int → Int → Prop, (∀ μ x0 x1 x2, G μ x0 x1 x2 → V g X 3 μ [(0, Iv x0), (1, Iv x1), (2, Iv x2)] 4 []) ∧ (∀ μ x0 x1 x2, V g X 3 μ [(0, Iv x0), (1, Iv x1), (2, Iv x2)] 4 [] → G μ x0 x1 x2) := ⟨fun μ x0 x1 x2 => V g X 3 μ [(0, Iv x0), (1, Iv x1), (2, Iv x2)] 4 [], fun _ _ _ _ h => h, fun _ _ _ _ h => h⟩
  have K4 : ∀ (μ : Mem) (x0 : Int) (x1 : Int) (x2 : Int), b_X11_size_4 G4 Post μ x0 x1 x2 → V g X 3 μ [(0, Iv x0), (1, Iv x1), (2, Iv x2)] 4 [] := by
    intro μ x0 x1 x2 hb
    unfold b_X11_size_4 at hb
    refine r_iload_n (pc := 4) 2 F dX11_size_4 rfl rfl ?_
    refine r_bipush (pc := 5) F dX11_size_5 (inR_lit rfl) (by decide) ?_
    refine r_icmp_ge (pc := 7) (tgt := 24) F dX11_size_7 (by decide) (fun c_1 => ?_) (fun c_1 => ?_)
    · have hb := hb.1 c_1
      refine r_iload_n (pc := 24) 1 F dX11_size_24 rfl rfl ?_
      exact r_iret (pc := 25) F hR hr dX11_size_25 hb
    · have hb := hb.2 c_1
      refine r_iload_n (pc := 10) 1 F dX11_size_10 rfl rfl ?_
      refine r_iload_n (pc := 11) 0 F dX11_size_11 rfl rfl ?_
      refine r_iload_n (pc := 12) 2 F dX11_size_12 rfl rfl ?_
      refine r_ishr (pc := 13) F dX11_size_13 ?_
      refine r_iconst (pc := 14) F dX11_size_14 (inR_lit rfl) ?_
      refine r_iand (pc := 15) F dX11_size_15 ?_
      refine r_iadd (pc := 16) F dX11_size_16 ?_
      refine V.nmI (fun x_2 ex_2 => ?_)
      have hb := hb x_2 ex_2
      refine r_istore_n (pc := 17) (lv' := [(1, Iv x_2), (0, Iv x0), (2, Iv x2)]) F dX11_size_17 rfl (by decide) rfl ?_
      refine r_iincN (pc := 18) 2 (lf := fun x_3 => [(2, Iv x_3), (1, Iv x_2), (0, Iv x0)]) F dX11_size_18 rfl (by decide) rfl (fun x_3 ex_3 => ?_)
      have hb := hb x_3 ex_3
      refine r_goto (pc := 21) (tgt := 4) F dX11_size_21 (by decide) ?_
      exact V.sub [2, 1, 0] rfl (g4 μ x0 x_2 x_3 hb)
  have hb := hb G4 (fun μ x0 x1 x2 hb => f4 μ x0 x1 x2 (K4 μ x0 x1 x2 hb))
  unfold b_X11_size_e at hb
  refine r_iconst (pc := 0) F dX11_size_0 (inR_lit rfl) ?_
  refine r_istore_n (pc := 1) (lv' := [(1, Iv 0), (0, Iv p0)]) F dX11_size_1 rfl (by decide) rfl ?_
  refine r_iconst (pc := 2) F dX11_size_2 (inR_lit rfl) ?_
  refine r_istore_n (pc := 3) (lv' := [(2, Iv 0), (1, Iv 0), (0, Iv p0)]) F dX11_size_3 rfl (by decide) rfl ?_
  exact V.sub [2, 1, 0] rfl (g4 μ p0 0 0 hb)
set_option maxHeartbeats 4000000 in
set_option maxRecDepth 100000 in
theorem c_X11_leastMinutes {g : Wc} {l : Launch} (μ : Mem) (Post : Pst) (hb : wp_X11_leastMinutes μ Post) : MtC g l yX11_leastMinutes cX11_leastMinutes 5 (some .int) 1 [Rv 11] μ (QI g Post) := by
  intro hok
  refine enter (own := RX11) (by decide) rfl (Nat.le_of_ble_eq_true rfl) hok (fun X hl F hr hR => ?_)
  subst hl
  show V g X 5 μ [(0, Rv 11)] 0 []
  unfold wp_X11_leastMinutes at hb
  obtain ⟨G11, g11, f11⟩ : ∃ G : Mem → Int → Int → Prop, (∀ μ x1 x2, G μ x1 x2 → V g X 5 μ [(0, Rv 11), (1, Iv x1), (2, Iv x2)] 11 []) ∧ (∀ μ x1 x2, V g X 5 μ [(0, Rv 11), (1, Iv x1), (2, Iv x2)] 11 [] → G μ x1 x2) := ⟨fun μ x1 x2 => V g X 5 μ [(0, Rv 11), (1, Iv x1), (2, Iv x2)] 11 [], fun _ _ _ h => h, fun _ _ _ h => h⟩
  obtain ⟨G40, g40, f40⟩ : ∃ G : Mem → Int → Int → Prop, (∀ μ x1 x2, G μ x1 x2 → V g X 5 μ [(0, Rv 11), (1, Iv x1), (2, Iv x2)] 40 []) ∧ (∀ μ x1 x2, V g X 5 μ [(0, Rv 11), (1, Iv x1), (2, Iv x2)] 40 [] → G μ x1 x2) := ⟨fun μ x1 x2 => V g X 5 μ [(0, Rv 11), (1, Iv x1), (2, Iv x2)] 40 [], fun _ _ _ h => h, fun _ _ _ h => h⟩
  obtain ⟨G65, g65, f65⟩ : ∃ G : Mem → Int → Int → Int → Int → Prop, (∀ μ x1 x2 x3 x4, G μ x1 x2 x3 x4 → V g X 5 μ [(0, Rv 11), (1, Iv x1), (2, Iv x2), (3, Iv x3), (4, Iv x4)] 65 []) ∧ (∀ μ x1 x2 x3 x4, V g X 5 μ [(0, Rv 11), (1, Iv x1), (2, Iv x2), (3, Iv x3), (4, Iv x4)] 65 [] → G μ x1 x2 x3 x4) := ⟨fun μ x1 x2 x3 x4 => V g X 5 μ [(0, Rv 11), (1, Iv x1), (2, Iv x2), (3, Iv x3), (4, Iv x4)] 65 [], fun _ _ _ _ _ h => h, fun _ _ _ _ _ h => h⟩
  have K31 : ∀ (μ : Mem) (x1 : Int) (x2 : Int) (s1 : Int) (s2 : Int), b_X11_leastMinutes_31 G11 G40 G65 Post μ x1 x2 s1 s2 → V g X 5 μ [(0, Rv 11), (1, Iv x1), (2, Iv x2)] 31 [Iv s2, Iv s1, Rv 111] := by
    intro μ x1 x2 s1 s2 hb
    unfold b_X11_leastMinutes_31 at hb
    have hg_1 := hb.1
    have hb := hb.2
    refine r_iast (pc := 31) F lc111.1 lc111.2.1 lc111.2.2 hg_1 dX11_leastMinutes_31 ?_
    refine V.nmM (fun μ_2 eμ_2 => ?_)
    have hb := hb μ_2 eμ_2
    refine r_iincN (pc := 32) 2 (lf := fun x_3 => [(2, Iv x_3), (0, Rv 11), (1, Iv x1)]) F dX11_leastMinutes_32 rfl (by decide) rfl (fun x_3 ex_3 => ?_)
    have hb := hb x_3 ex_3
    refine r_goto (pc := 35) (tgt := 11) F dX11_leastMinutes_35 (by decide) ?_
    exact V.sub [1, 2, 0] rfl (g11 μ_2 x1 x_3 hb)
  have K119 : ∀ (μ : Mem) (x1 : Int) (x2 : Int) (x3 : Int) (x4 : Int), b_X11_leastMinutes_119 G11 G40 G65 Post μ x1 x2 x3 x4 → V g X 5 μ [(0, Rv 11), (1, Iv x1), (2, Iv x2), (3, Iv x3), (4, Iv x4)] 119 [] := by
    intro μ x1 x2 x3 x4 hb
    unfold b_X11_leastMinutes_119 at hb
    refine r_iload (pc := 119) 4 F dX11_leastMinutes_119 rfl ?_
    refine r_iconst (pc := 121) F dX11_leastMinutes_121 (inR_lit rfl) ?_
    refine r_isub (pc := 122) F dX11_leastMinutes_122 ?_
    refine r_iload_n (pc := 123) 3 F dX11_leastMinutes_123 rfl rfl ?_
    refine r_iand (pc := 124) F dX11_leastMinutes_124 ?_
    refine V.nmI (fun x_4 ex_4 => ?_)
    have hb := hb x_4 ex_4
    refine r_istore (pc := 125) (lv' := [(4, Iv x_4), (0, Rv 11), (1, Iv x1), (2, Iv x2), (3, Iv x3)]) F dX11_leastMinutes_125 (by decide) rfl ?_
    refine r_goto (pc := 127) (tgt := 65) F dX11_leastMinutes_127 (by decide) ?_
    exact V.sub [1, 2, 3, 4, 0] rfl (g65 μ x1 x2 x3 x_4 hb)
  have K130 : ∀ (μ : Mem) (x1 : Int) (x2 : Int), b_X11_leastMinutes_130 G11 G40 G65 Post μ x1 x2 → V g X 5 μ [(0, Rv 11), (1, Iv x1), (2, Iv x2)] 130 [] := by
    intro μ x1 x2 hb
    unfold b_X11_leastMinutes_130 at hb
    refine r_iincN (pc := 130) 2 (lf := fun x_5 => [(2, Iv x_5), (0, Rv 11), (1, Iv x1)]) F dX11_leastMinutes_130 rfl (by decide) rfl (fun x_5 ex_5 => ?_)
    have hb := hb x_5 ex_5
    refine r_goto (pc := 133) (tgt := 40) F dX11_leastMinutes_133 (by decide) ?_
    exact V.sub [1, 2, 0] rfl (g40 μ x1 x_5 hb)
  have K11 : ∀ (μ : Mem) (x1 : Int) (x2 : Int), b_X11_leastMinutes_11 G11 G40 G65 Post μ x1 x2 → V g X 5 μ [(0, Rv 11), (1, Iv x1), (2, Iv x2)] 11 [] := by
    intro μ x1 x2 hb
    unfold b_X11_leastMinutes_11 at hb
    refine r_iload_n (pc := 11) 2 F dX11_leastMinutes_11 rfl rfl ?_
    refine r_iload_n (pc := 12) 1 F dX11_leastMinutes_12 rfl rfl ?_
    refine r_icmp_gt (pc := 13) (tgt := 38) F dX11_leastMinutes_13 (by decide) (fun c_6 => ?_) (fun c_6 => ?_)
    · have hb := hb.1 c_6
      refine r_iconst (pc := 38) F dX11_leastMinutes_38 (inR_lit rfl) ?_
      refine r_istore_n (pc := 39) (lv' := [(2, Iv 0), (0, Rv 11), (1, Iv x1)]) F dX11_leastMinutes_39 rfl (by decide) rfl ?_
      exact V.sub [1, 2, 0] rfl (g40 μ x1 0 hb)
    · have hb := hb.2 c_6
      refine r_aload_n (pc := 16) 0 F dX11_leastMinutes_16 rfl rfl ?_
      refine gf_RX11_80 (pc := 17) F dX11_leastMinutes_17 ?_
      refine r_iload_n (pc := 20) 2 F dX11_leastMinutes_20 rfl rfl ?_
      refine r_iload_n (pc := 21) 2 F dX11_leastMinutes_21 rfl rfl ?_
      refine r_if_ne (pc := 22) (tgt := 29) F dX11_leastMinutes_22 (by decide) (fun c_7 => ?_) (fun c_7 => ?_)
      · have hb := hb.1 c_7
        refine r_bipush (pc := 29) F dX11_leastMinutes_29 (inR_lit rfl) (by decide) ?_
        exact V.sub [0, 1, 2] rfl (K31 μ x1 x2 x2 100 hb)
      · have hb := hb.2 c_7
        refine r_iconst (pc := 25) F dX11_leastMinutes_25 (inR_lit rfl) ?_
        refine r_goto (pc := 26) (tgt := 31) F dX11_leastMinutes_26 (by decide) ?_
        exact V.sub [0, 1, 2] rfl (K31 μ x1 x2 x2 0 hb)
  have K40 : ∀ (μ : Mem) (x1 : Int) (x2 : Int), b_X11_leastMinutes_40 G11 G40 G65 Post μ x1 x2 → V g X 5 μ [(0, Rv 11), (1, Iv x1), (2, Iv x2)] 40 [] := by
    intro μ x1 x2 hb
    unfold b_X11_leastMinutes_40 at hb
    refine r_iload_n (pc := 40) 2 F dX11_leastMinutes_40 rfl rfl ?_
    refine r_iload_n (pc := 41) 1 F dX11_leastMinutes_41 rfl rfl ?_
    refine r_icmp_ge (pc := 42) (tgt := 136) F dX11_leastMinutes_42 (by decide) (fun c_8 => ?_) (fun c_8 => ?_)
    · have hb := hb.1 c_8
      refine r_aload_n (pc := 136) 0 F dX11_leastMinutes_136 rfl rfl ?_
      refine gf_RX11_80 (pc := 137) F dX11_leastMinutes_137 ?_
      refine r_iload_n (pc := 140) 1 F dX11_leastMinutes_140 rfl rfl ?_
      have hg_9 := hb.1
      have hb := hb.2
      refine r_iald (pc := 141) F lc111.1 lc111.2.1 lc111.2.2 hg_9 dX11_leastMinutes_141 ?_
      exact r_iret (pc := 142) F hR hr dX11_leastMinutes_142 hb
    · have hb := hb.2 c_8
      refine r_aload_n (pc := 45) 0 F dX11_leastMinutes_45 rfl rfl ?_
      refine gf_RX11_80 (pc := 46) F dX11_leastMinutes_46 ?_
      refine r_iload_n (pc := 49) 2 F dX11_leastMinutes_49 rfl rfl ?_
      have hg_10 := hb.1
      have hb := hb.2
      refine r_iald (pc := 50) F lc111.1 lc111.2.1 lc111.2.2 hg_10 dX11_leastMinutes_50 ?_
      refine r_bipush (pc := 51) F dX11_leastMinutes_51 (inR_lit rfl) (by decide) ?_
      refine r_icmp_ge (pc := 53) (tgt := 130) F dX11_leastMinutes_53 (by decide) (fun c_11 => ?_) (fun c_11 => ?_)
      · have hb := hb.1 c_11
        exact V.sub [0, 1, 2] rfl (K130 μ x1 x2 hb)
      · have hb := hb.2 c_11
        refine r_aload_n (pc := 56) 0 F dX11_leastMinutes_56 rfl rfl ?_
        refine r_iload_n (pc := 57) 2 F dX11_leastMinutes_57 rfl rfl ?_
        refine r_callI (pc := 58) (avs := [Iv x2]) (st := []) F (c_X11_freeBehind μ x2 _ hb) (by decide) cal_X11_freeBehind calv_X11_freeBehind lk_RX11_181 rfl rfl (Nat.le_of_ble_eq_true rfl) dX11_leastMinutes_58 (fun r_12 μ_13 hb => ?_)
        refine r_istore_n (pc := 61) (lv' := [(3, Iv r_12), (0, Rv 11), (1, Iv x1), (2, Iv x2)]) F dX11_leastMinutes_61 rfl (by decide) rfl ?_
        refine r_iload_n (pc := 62) 0 F dX11_leastMinutes_62 rfl rfl ?_
        refine r_istore (pc := 63) (lv' := [(4, Iv r_12), (3, Iv r_12), (0, Rv 11), (1, Iv x1), (2, Iv x2)]) F dX11_leastMinutes_63 (by decide) rfl ?_
        exact V.sub [2, 3, 4, 1, 0] rfl (g65 μ_13 x1 x2 r_12 r_12 hb)
  have K65 : ∀ (μ : Mem) (x1 : Int) (x2 : Int) (x3 : Int) (x4 : Int), b_X11_leastMinutes_65 G11 G40 G65 Post μ x1 x2 x3 x4 → V g X 5 μ [(0, Rv 11), (1, Iv x1), (2, Iv x2), (3, Iv x3), (4, Iv x4)] 65 [] := by
    intro μ x1 x2 x3 x4 hb
    unfold b_X11_leastMinutes_65 at hb
    refine r_iload (pc := 65) 4 F dX11_leastMinutes_65 rfl ?_
    refine r_if_le (pc := 67) (tgt := 130) F dX11_leastMinutes_67 (by decide) (fun c_14 => ?_) (fun c_14 => ?_)
    · have hb := hb.1 c_14
      exact V.sub [0, 1, 2] rfl (K130 μ x1 x2 hb)
    · have hb := hb.2 c_14
      refine r_iload (pc := 70) 4 F dX11_leastMinutes_70 rfl ?_
      refine r_callSI (pc := 72) (avs := [Iv x4]) (st := []) F (c_X11_size μ x4 _ hb) (by decide) cal_X11_size st_X11_size lk_RX11_187 rfl rfl (Nat.le_of_ble_eq_true rfl) dX11_leastMinutes_72 (fun r_15 μ_16 hb => ?_)
      refine r_aload_n (pc := 75) 0 F dX11_leastMinutes_75 rfl rfl ?_
      refine gf_RX11_53 (pc := 76) F dX11_leastMinutes_76 ?_
      refine r_icmp_gt (pc := 79) (tgt := 119) F dX11_leastMinutes_79 (by decide) (fun c_17 => ?_) (fun c_17 => ?_)
      · have hb := hb.1 c_17
        exact V.sub [0, 1, 2, 3, 4] rfl (K119 μ_16 x1 x2 x3 x4 hb)
      · have hb := hb.2 c_17
        refine r_aload_n (pc := 82) 0 F dX11_leastMinutes_82 rfl rfl ?_
        refine gf_RX11_80 (pc := 83) F dX11_leastMinutes_83 ?_
        refine r_iload_n (pc := 86) 2 F dX11_leastMinutes_86 rfl rfl ?_
        have hg_18 := hb.1
        have hb := hb.2
        refine r_iald (pc := 87) F lc111.1 lc111.2.1 lc111.2.2 hg_18 dX11_leastMinutes_87 ?_
        refine r_iconst (pc := 88) F dX11_leastMinutes_88 (inR_lit rfl) ?_
        refine r_iadd (pc := 89) F dX11_leastMinutes_89 ?_
        refine r_aload_n (pc := 90) 0 F dX11_leastMinutes_90 rfl rfl ?_
        refine gf_RX11_80 (pc := 91) F dX11_leastMinutes_91 ?_
        refine r_iload_n (pc := 94) 2 F dX11_leastMinutes_94 rfl rfl ?_
        refine r_iload (pc := 95) 4 F dX11_leastMinutes_95 rfl ?_
        refine r_ior (pc := 97) F dX11_leastMinutes_97 ?_
        have hg_19 := hb.1
        have hb := hb.2
        refine r_iald (pc := 98) F lc111.1 lc111.2.1 lc111.2.2 hg_19 dX11_leastMinutes_98 ?_
        refine r_icmp_ge (pc := 99) (tgt := 119) F dX11_leastMinutes_99 (by decide) (fun c_20 => ?_) (fun c_20 => ?_)
        · have hb := hb.1 c_20
          exact V.sub [0, 1, 2, 3, 4] rfl (K119 μ_16 x1 x2 x3 x4 hb)
        · have hb := hb.2 c_20
          refine r_aload_n (pc := 102) 0 F dX11_leastMinutes_102 rfl rfl ?_
          refine gf_RX11_80 (pc := 103) F dX11_leastMinutes_103 ?_
          refine r_iload_n (pc := 106) 2 F dX11_leastMinutes_106 rfl rfl ?_
          refine r_iload (pc := 107) 4 F dX11_leastMinutes_107 rfl ?_
          refine r_ior (pc := 109) F dX11_leastMinutes_109 ?_
          refine r_aload_n (pc := 110) 0 F dX11_leastMinutes_110 rfl rfl ?_
          refine gf_RX11_80 (pc := 111) F dX11_leastMinutes_111 ?_
          refine r_iload_n (pc := 114) 2 F dX11_leastMinutes_114 rfl rfl ?_
          have hg_21 := hb.1
          have hb := hb.2
          refine r_iald (pc := 115) F lc111.1 lc111.2.1 lc111.2.2 hg_21 dX11_leastMinutes_115 ?_
          refine r_iconst (pc := 116) F dX11_leastMinutes_116 (inR_lit rfl) ?_
          refine r_iadd (pc := 117) F dX11_leastMinutes_117 ?_
          have hg_22 := hb.1
          have hb := hb.2
          refine r_iast (pc := 118) F lc111.1 lc111.2.1 lc111.2.2 hg_22 dX11_leastMinutes_118 ?_
          refine V.nmM (fun μ_23 eμ_23 => ?_)
          have hb := hb μ_23 eμ_23
          exact V.sub [0, 1, 2, 3, 4] rfl (K119 μ_23 x1 x2 x3 x4 hb)
  have hb := hb G11 G40 G65 (fun μ x1 x2 hb => f11 μ x1 x2 (K11 μ x1 x2 hb)) (fun μ x1 x2 hb => f40 μ x1 x2 (K40 μ x1 x2 hb)) (fun μ x1 x2 x3 x4 hb => f65 μ x1 x2 x3 x4 (K65 μ x1 x2 x3 x4 hb))
  unfold b_X11_leastMinutes_e at hb
  refine r_iconst (pc := 0) F dX11_leastMinutes_0 (inR_lit rfl) ?_
  refine r_aload_n (pc := 1) 0 F dX11_leastMinutes_1 rfl rfl ?_
  refine gf_RX11_179 (pc := 2) F dX11_leastMinutes_2 ?_
  refine r_ishl (pc := 5) F dX11_leastMinutes_5 ?_
  refine r_iconst (pc := 6) F dX11_leastMinutes_6 (inR_lit rfl) ?_
  refine r_isub (pc := 7) F dX11_leastMinutes_7 ?_
  refine V.nmI (fun x_24 ex_24 => ?_)
  have hb := hb x_24 ex_24
  refine r_istore_n (pc := 8) (lv' := [(1, Iv x_24), (0, Rv 11)]) F dX11_leastMinutes_8 rfl (by decide) rfl ?_
  refine r_iconst (pc := 9) F dX11_leastMinutes_9 (inR_lit rfl) ?_
  refine r_istore_n (pc := 10) (lv' := [(2, Iv 0), (1, Iv x_24), (0, Rv 11)]) F dX11_leastMinutes_10 rfl (by decide) rfl ?_
  exact V.sub [2, 1, 0] rfl (g11 μ x_24 0 hb)
set_option maxHeartbeats 4000000 in
set_option maxRecDepth 100000 in
theorem c_X11_levelOf {g : Wc} {l : Launch} (μ : Mem) (p0 : Int) (Post : Pst) (hb : wp_X11_levelOf μ p0 Post) : MtC g l yX11_levelOf cX11_levelOf 4 (some .int) 0 [Rv 11, Iv p0] μ (QI g Post) := by
  intro hok
  refine enter (own := RX11) (by decide) rfl (Nat.le_of_ble_eq_true rfl) hok (fun X hl F hr hR => ?_)
  subst hl
  show V g X 4 μ [(0, Rv 11), (1, Iv p0)] 0 []
  unfold wp_X11_levelOf at hb
  obtain ⟨G4, g4, f4⟩ : ∃ G : Mem → Int → Int → Prop, (∀ μ x2 x3, G μ x2 x3 → V g X 4 μ [(0, Rv 11), (2, Iv x2), (3, Iv x3)] 4 []) ∧ (∀ μ x2 x3, V g X 4 μ [(0, Rv 11), (2, Iv x2), (3, Iv x3)] 4 [] → G μ x2 x3) := ⟨fun μ x2 x3 => V g X 4 μ [(0, Rv 11), (2, Iv x2), (3, Iv x3)] 4 [], fun _ _ _ h => h, fun _ _ _ h => h⟩
  have K4 : ∀ (μ : Mem) (x2 : Int) (x3 : Int), b_X11_levelOf_4 G4 Post μ x2 x3 → V g X 4 μ [(0, Rv 11), (2, Iv x2), (3, Iv x3)] 4 [] := by
    intro μ x2 x3 hb
    unfold b_X11_levelOf_4 at hb
    refine r_aload_n (pc := 4) 0 F dX11_levelOf_4 rfl rfl ?_
    refine gf_RX11_50 (pc := 5) F dX11_levelOf_5 ?_
    refine r_iload_n (pc := 8) 2 F dX11_levelOf_8 rfl rfl ?_
    have hg_1 := hb.1
    have hb := hb.2
    refine r_iald (pc := 9) F lc102.1 lc102.2.1 lc102.2.2 hg_1 dX11_levelOf_9 ?_
    refine r_iconst (pc := 10) F dX11_levelOf_10 (inR_lit rfl) ?_
    refine r_icmp_eq (pc := 11) (tgt := 27) F dX11_levelOf_11 (by decide) (fun c_2 => ?_) (fun c_2 => ?_)
    · have hb := hb.1 c_2
      refine r_iload_n (pc := 27) 1 F dX11_levelOf_27 rfl rfl ?_
      exact r_iret (pc := 28) F hR hr dX11_levelOf_28 hb
    · have hb := hb.2 c_2
      refine r_aload_n (pc := 14) 0 F dX11_levelOf_14 rfl rfl ?_
      refine gf_RX11_50 (pc := 15) F dX11_levelOf_15 ?_
      refine r_iload_n (pc := 18) 2 F dX11_levelOf_18 rfl rfl ?_
      have hg_3 := hb.1
      have hb := hb.2
      refine r_iald (pc := 19) F lc102.1 lc102.2.1 lc102.2.2 hg_3 dX11_levelOf_19 ?_
      refine V.nmI (fun x_4 ex_4 => ?_)
      have hb := hb x_4 ex_4
      refine r_istore_n (pc := 20) (lv' := [(3, Iv x_4), (0, Rv 11), (2, Iv x2)]) F dX11_levelOf_20 rfl (by decide) rfl ?_
      refine r_iincN (pc := 21) 2 (lf := fun x_5 => [(2, Iv x_5), (3, Iv x_4), (0, Rv 11)]) F dX11_levelOf_21 rfl (by decide) rfl (fun x_5 ex_5 => ?_)
      have hb := hb x_5 ex_5
      refine r_goto (pc := 24) (tgt := 4) F dX11_levelOf_24 (by decide) ?_
      exact V.sub [2, 0, 1] rfl (g4 μ x_5 x_4 hb)
  have hb := hb G4 (fun μ x2 x3 hb => f4 μ x2 x3 (K4 μ x2 x3 hb))
  unfold b_X11_levelOf_e at hb
  refine r_iconst (pc := 0) F dX11_levelOf_0 (inR_lit rfl) ?_
  refine r_istore_n (pc := 1) (lv' := [(2, Iv 1), (0, Rv 11), (1, Iv p0)]) F dX11_levelOf_1 rfl (by decide) rfl ?_
  refine r_iload_n (pc := 2) 2 F dX11_levelOf_2 rfl rfl ?_
  refine r_istore_n (pc := 3) (lv' := [(3, Iv p0), (2, Iv 1), (0, Rv 11), (1, Iv p0)]) F dX11_levelOf_3 rfl (by decide) rfl ?_
  exact V.sub [2, 1, 0] rfl (g4 μ 1 p0 hb)
set_option maxHeartbeats 4000000 in
set_option maxRecDepth 100000 in
theorem c_X11_least {g : Wc} {l : Launch} (μ : Mem) (p0 : Int) (Post : Pst) (hb : wp_X11_least μ p0 Post) : MtC g l yX11_least cX11_least 6 (some .int) 2 [Rv 11, Iv p0] μ (QI g Post) := by
  intro hok
  refine enter (own := RX11) (by decide) rfl (Nat.le_of_ble_eq_true rfl) hok (fun X hl F hr hR => ?_)
  subst hl
  show V g X 6 μ [(0, Rv 11), (1, Iv p0)] 0 []
  unfold wp_X11_least at hb
  obtain ⟨G26, g26, f26⟩ : ∃ G : Mem → Int → Int → Prop, (∀ μ x2 x3, G μ x2 x3 → V g X 6 μ [(0, Rv 11), (2, Iv x2), (3, Iv x3)] 26 []) ∧ (∀ μ x2 x3, V g X 6 μ [(0, Rv 11), (2, Iv x2), (3, Iv x3)] 26 [] → G μ x2 x3) := ⟨fun μ x2 x3 => V g X 6 μ [(0, Rv 11), (2, Iv x2), (3, Iv x3)] 26 [], fun _ _ _ h => h, fun _ _ _ h => h⟩
  obtain ⟨G40, g40, f40⟩ : ∃ G : Mem → Int → Int → Int → Int → Prop, (∀ μ x2 x3 x4 x5, G μ x2 x3 x4 x5 → V g X 6 μ [(0, Rv 11), (2, Iv x2), (3, Iv x3), (4, Iv x4), (5, Iv x5)] 40 []) ∧ (∀ μ x2 x3 x4 x5, V g X 6 μ [(0, Rv 11), (2, Iv x2), (3, Iv x3), (4, Iv x4), (5, Iv x5)] 40 [] → G μ x2 x3 x4 x5) := ⟨fun μ x2 x3 x4 x5 => V g X 6 μ [(0, Rv 11), (2, Iv x2), (3, Iv x3), (4, Iv x4), (5, Iv x5)] 40 [], fun _ _ _ _ _ h => h, fun _ _ _ _ _ h => h⟩
  have K66 : ∀ (μ : Mem) (x2 : Int) (x3 : Int) (x5 : Int) (s0 : Int) (s1 : Int), b_X11_least_66 G26 G40 Post μ x2 x3 x5 s0 s1 → V g X 6 μ [(0, Rv 11), (2, Iv x2), (3, Iv x3), (5, Iv x5)] 66 [Iv s1, Iv s0] := by
    intro μ x2 x3 x5 s0 s1 hb
    unfold b_X11_least_66 at hb
    refine r_iadd (pc := 66) F dX11_least_66 ?_
    refine V.nmI (fun x_1 ex_1 => ?_)
    have hb := hb x_1 ex_1
    refine r_istore (pc := 67) (lv' := [(4, Iv x_1), (0, Rv 11), (2, Iv x2), (3, Iv x3), (5, Iv x5)]) F dX11_least_67 (by decide) rfl ?_
    refine r_iincN (pc := 69) 4 (lf := fun x_2 => [(5, Iv x_2), (4, Iv x_1), (0, Rv 11), (2, Iv x2), (3, Iv x3)]) F dX11_least_69 rfl (by decide) rfl (fun x_2 ex_2 => ?_)
    have hb := hb x_2 ex_2
    refine r_goto (pc := 72) (tgt := 40) F dX11_least_72 (by decide) ?_
    exact V.sub [2, 3, 4, 1, 0] rfl (g40 μ x2 x3 x_1 x_2 hb)
  have K116 : ∀ (μ : Mem) (x3 : Int) (s0 : Int), b_X11_least_116 G26 G40 Post μ x3 s0 → V g X 6 μ [(0, Rv 11), (3, Iv x3)] 116 [Iv s0] := by
    intro μ x3 s0 hb
    unfold b_X11_least_116 at hb
    refine r_istore_n (pc := 116) (lv' := [(2, Iv s0), (0, Rv 11), (3, Iv x3)]) F dX11_least_116 rfl (by decide) rfl ?_
    refine r_iincN (pc := 117) 2 (lf := fun x_3 => [(3, Iv x_3), (2, Iv s0), (0, Rv 11)]) F dX11_least_117 rfl (by decide) rfl (fun x_3 ex_3 => ?_)
    have hb := hb x_3 ex_3
    refine r_goto (pc := 120) (tgt := 26) F dX11_least_120 (by decide) ?_
    exact V.sub [2, 1, 0] rfl (g26 μ s0 x_3 hb)
  have K102 : ∀ (μ : Mem) (x2 : Int) (x3 : Int) (s0 : Int), b_X11_least_102 G26 G40 Post μ x2 x3 s0 → V g X 6 μ [(0, Rv 11), (2, Iv x2), (3, Iv x3)] 102 [Iv s0] := by
    intro μ x2 x3 s0 hb
    unfold b_X11_least_102 at hb
    refine r_istore (pc := 102) (lv' := [(5, Iv s0), (0, Rv 11), (2, Iv x2), (3, Iv x3)]) F dX11_least_102 (by decide) rfl ?_
    refine r_iload (pc := 104) 0 F dX11_least_104 rfl ?_
    refine r_iload_n (pc := 106) 2 F dX11_least_106 rfl rfl ?_
    refine r_icmp_le (pc := 107) (tgt := 115) F dX11_least_107 (by decide) (fun c_4 => ?_) (fun c_4 => ?_)
    · have hb := hb.1 c_4
      refine r_iload_n (pc := 115) 2 F dX11_least_115 rfl rfl ?_
      exact V.sub [1, 3] rfl (K116 μ x3 x2 hb)
    · have hb := hb.2 c_4
      refine r_iload (pc := 110) 0 F dX11_least_110 rfl ?_
      refine r_goto (pc := 112) (tgt := 116) F dX11_least_112 (by decide) ?_
      exact V.sub [1, 3] rfl (K116 μ x3 s0 hb)
  have K26 : ∀ (μ : Mem) (x2 : Int) (x3 : Int), b_X11_least_26 G26 G40 Post μ x2 x3 → V g X 6 μ [(0, Rv 11), (2, Iv x2), (3, Iv x3)] 26 [] := by
    intro μ x2 x3 hb
    unfold b_X11_least_26 at hb
    refine r_iload_n (pc := 26) 2 F dX11_least_26 rfl rfl ?_
    refine r_aload_n (pc := 27) 0 F dX11_least_27 rfl rfl ?_
    refine gf_RX11_179 (pc := 28) F dX11_least_28 ?_
    refine r_icmp_gt (pc := 31) (tgt := 123) F dX11_least_31 (by decide) (fun c_5 => ?_) (fun c_5 => ?_)
    · have hb := hb.1 c_5
      refine r_iload_n (pc := 123) 1 F dX11_least_123 rfl rfl ?_
      exact r_iret (pc := 124) F hR hr dX11_least_124 hb
    · have hb := hb.2 c_5
      refine r_iconst (pc := 34) F dX11_least_34 (inR_lit rfl) ?_
      refine r_istore (pc := 35) (lv' := [(4, Iv 0), (0, Rv 11), (2, Iv x2), (3, Iv x3)]) F dX11_least_35 (by decide) rfl ?_
      refine r_iconst (pc := 37) F dX11_least_37 (inR_lit rfl) ?_
      refine r_istore (pc := 38) (lv' := [(5, Iv 0), (4, Iv 0), (0, Rv 11), (2, Iv x2), (3, Iv x3)]) F dX11_least_38 (by decide) rfl ?_
      exact V.sub [2, 3, 4, 1, 0] rfl (g40 μ x2 x3 0 0 hb)
  have K40 : ∀ (μ : Mem) (x2 : Int) (x3 : Int) (x4 : Int) (x5 : Int), b_X11_least_40 G26 G40 Post μ x2 x3 x4 x5 → V g X 6 μ [(0, Rv 11), (2, Iv x2), (3, Iv x3), (4, Iv x4), (5, Iv x5)] 40 [] := by
    intro μ x2 x3 x4 x5 hb
    unfold b_X11_least_40 at hb
    refine r_iload (pc := 40) 4 F dX11_least_40 rfl ?_
    refine r_aload_n (pc := 42) 0 F dX11_least_42 rfl rfl ?_
    refine gf_RX11_179 (pc := 43) F dX11_least_43 ?_
    refine r_icmp_ge (pc := 46) (tgt := 75) F dX11_least_46 (by decide) (fun c_6 => ?_) (fun c_6 => ?_)
    · have hb := hb.1 c_6
      refine r_iload (pc := 75) 3 F dX11_least_75 rfl ?_
      refine r_if_ne (pc := 77) (tgt := 84) F dX11_least_77 (by decide) (fun c_7 => ?_) (fun c_7 => ?_)
      · have hb := hb.1 c_7
        refine r_iload_n (pc := 84) 2 F dX11_least_84 rfl rfl ?_
        refine r_iconst (pc := 85) F dX11_least_85 (inR_lit rfl) ?_
        refine r_isub (pc := 86) F dX11_least_86 ?_
        refine r_iload (pc := 87) 3 F dX11_least_87 rfl ?_
        refine r_aload_n (pc := 89) 0 F dX11_least_89 rfl rfl ?_
        refine gf_RX11_53 (pc := 90) F dX11_least_90 ?_
        refine r_iadd (pc := 93) F dX11_least_93 ?_
        refine r_iconst (pc := 94) F dX11_least_94 (inR_lit rfl) ?_
        refine r_isub (pc := 95) F dX11_least_95 ?_
        refine r_aload_n (pc := 96) 0 F dX11_least_96 rfl rfl ?_
        refine gf_RX11_53 (pc := 97) F dX11_least_97 ?_
        refine r_idiv (pc := 100) F dX11_least_100 hb.1 ?_
        have hb := hb.2
        refine r_iadd (pc := 101) F dX11_least_101 ?_
        exact V.sub [0, 1, 2] rfl (K102 μ x2 x3 (wrap ((wrap (x3 - 1)) + (idv (wrap ((wrap (x4 + (μ 11 17))) - 1)) (μ 11 17)))) hb)
      · have hb := hb.2 c_7
        refine r_iconst (pc := 80) F dX11_least_80 (inR_lit rfl) ?_
        refine r_goto (pc := 81) (tgt := 102) F dX11_least_81 (by decide) ?_
        exact V.sub [0, 1, 2] rfl (K102 μ x2 x3 0 hb)
    · have hb := hb.2 c_6
      refine r_iload (pc := 49) 3 F dX11_least_49 rfl ?_
      refine r_aload_n (pc := 51) 0 F dX11_least_51 rfl rfl ?_
      refine r_iload (pc := 52) 4 F dX11_least_52 rfl ?_
      refine r_callI (pc := 54) (avs := [Iv x5]) (st := [Iv x4]) F (c_X11_levelOf μ x5 _ hb) (by decide) cal_X11_levelOf calv_X11_levelOf lk_RX11_184 rfl rfl (Nat.le_of_ble_eq_true rfl) dX11_least_54 (fun r_8 μ_9 hb => ?_)
      refine r_iload_n (pc := 57) 2 F dX11_least_57 rfl rfl ?_
      refine r_icmp_lt (pc := 58) (tgt := 65) F dX11_least_58 (by decide) (fun c_10 => ?_) (fun c_10 => ?_)
      · have hb := hb.1 c_10
        refine r_iconst (pc := 65) F dX11_least_65 (inR_lit rfl) ?_
        exact V.sub [0, 1, 2, 4] rfl (K66 μ_9 x2 x3 x5 x4 0 hb)
      · have hb := hb.2 c_10
        refine r_iconst (pc := 61) F dX11_least_61 (inR_lit rfl) ?_
        refine r_goto (pc := 62) (tgt := 66) F dX11_least_62 (by decide) ?_
        exact V.sub [0, 1, 2, 4] rfl (K66 μ_9 x2 x3 x5 x4 1 hb)
  have hb := hb G26 G40 (fun μ x2 x3 hb => f26 μ x2 x3 (K26 μ x2 x3 hb)) (fun μ x2 x3 x4 x5 hb => f40 μ x2 x3 x4 x5 (K40 μ x2 x3 x4 x5 hb))
  unfold b_X11_least_e at hb
  refine r_iload_n (pc := 0) 1 F dX11_least_0 rfl rfl ?_
  refine r_i2l (pc := 1) F dX11_least_1 ?_
  refine r_lconst (pc := 2) (x := 0) F dX11_least_2 (inRL_lit rfl) (by decide) ?_
  refine r_lconst (pc := 3) (x := 1) F dX11_least_3 (inRL_lit rfl) (by decide) ?_
  refine r_callSI (pc := 4) (avs := [Lv p0, Lv 0, Lv 1]) (st := []) F (c_X11_in μ p0 0 1 _ hb) (by decide) cal_X11_in st_X11_in lk_RX11_86 rfl rfl (Nat.le_of_ble_eq_true rfl) dX11_least_4 (fun r_11 μ_12 hb => ?_)
  refine r_if_ne (pc := 7) (tgt := 13) F dX11_least_7 (by decide) (fun c_13 => ?_) (fun c_13 => ?_)
  · have hb := hb.1 c_13
    refine r_iload_n (pc := 13) 1 F dX11_least_13 rfl rfl ?_
    refine r_if_ne (pc := 14) (tgt := 22) F dX11_least_14 (by decide) (fun c_14 => ?_) (fun c_14 => ?_)
    · have hb := hb.1 c_14
      refine r_iconst (pc := 22) F dX11_least_22 (inR_lit rfl) ?_
      refine r_istore_n (pc := 23) (lv' := [(2, Iv 0), (0, Rv 11), (1, Iv p0)]) F dX11_least_23 rfl (by decide) rfl ?_
      refine r_iconst (pc := 24) F dX11_least_24 (inR_lit rfl) ?_
      refine r_istore_n (pc := 25) (lv' := [(3, Iv 1), (2, Iv 0), (0, Rv 11), (1, Iv p0)]) F dX11_least_25 rfl (by decide) rfl ?_
      exact V.sub [2, 1, 0] rfl (g26 μ_12 0 1 hb)
    · have hb := hb.2 c_14
      refine r_aload_n (pc := 17) 0 F dX11_least_17 rfl rfl ?_
      refine r_callI (pc := 18) (avs := []) (st := []) F (c_X11_leastMinutes μ_12 _ hb) (by decide) cal_X11_leastMinutes calv_X11_leastMinutes lk_RX11_190 rfl rfl (Nat.le_of_ble_eq_true rfl) dX11_least_18 (fun r_15 μ_16 hb => ?_)
      exact r_iret (pc := 21) F hR hr dX11_least_21 hb
  · have hb := hb.2 c_13
    refine r_bipush (pc := 10) F dX11_least_10 (inR_lit rfl) (by decide) ?_
    exact r_iret (pc := 12) F hR hr dX11_least_12 hb
set_option maxHeartbeats 4000000 in
set_option maxRecDepth 100000 in
theorem c_X11_levels {g : Wc} {l : Launch} (μ : Mem) (p0 : Int) (Post : Pst) (hb : wp_X11_levels μ p0 Post) : MtC g l yX11_levels cX11_levels 8 (some .int) 1 [Rv 11, Iv p0] μ (QI g Post) := by
  intro hok
  refine enter (own := RX11) (by decide) rfl (Nat.le_of_ble_eq_true rfl) hok (fun X hl F hr hR => ?_)
  subst hl
  show V g X 8 μ [(0, Rv 11), (1, Iv p0)] 0 []
  unfold wp_X11_levels at hb
  obtain ⟨G25, g25, f25⟩ : ∃ G : Mem → Int → Int → Int → Prop, (∀ μ x1 x2 x3, G μ x1 x2 x3 → V g X 8 μ [(0, Rv 11), (1, Iv x1), (2, Iv x2), (3, Iv x3)] 25 []) ∧ (∀ μ x1 x2 x3, V g X 8 μ [(0, Rv 11), (1, Iv x1), (2, Iv x2), (3, Iv x3)] 25 [] → G μ x1 x2 x3) := ⟨fun μ x1 x2 x3 => V g X 8 μ [(0, Rv 11), (1, Iv x1), (2, Iv x2), (3, Iv x3)] 25 [], fun _ _ _ _ h => h, fun _ _ _ _ h => h⟩
  obtain ⟨G47, g47, f47⟩ : ∃ G : Mem → Int → Int → Int → Int → Int → Prop, (∀ μ x1 x2 x3 x4 x5, G μ x1 x2 x3 x4 x5 → V g X 8 μ [(0, Rv 11), (1, Iv x1), (2, Iv x2), (3, Iv x3), (4, Iv x4), (5, Iv x5)] 47 []) ∧ (∀ μ x1 x2 x3 x4 x5, V g X 8 μ [(0, Rv 11), (1, Iv x1), (2, Iv x2), (3, Iv x3), (4, Iv x4), (5, Iv x5)] 47 [] → G μ x1 x2 x3 x4 x5) := ⟨fun μ x1 x2 x3 x4 x5 => V g X 8 μ [(0, Rv 11), (1, Iv x1), (2, Iv x2), (3, Iv x3), (4, Iv x4), (5, Iv x5)] 47 [], fun _ _ _ _ _ _ h => h, fun _ _ _ _ _ _ h => h⟩
  obtain ⟨G67, g67, f67⟩ : ∃ G : Mem → Int → Int → Int → Int → Int → Int → Int → Prop, (∀ μ x1 x2 x3 x4 x5 x6 x7, G μ x1 x2 x3 x4 x5 x6 x7 → V g X 8 μ [(0, Rv 11), (1, Iv x1), (2, Iv x2), (3, Iv x3), (4, Iv x4), (5, Iv x5), (6, Iv x6), (7, Iv x7)] 67 []) ∧ (∀ μ x1 x2 x3 x4 x5 x6 x7, V g X 8 μ [(0, Rv 11), (1, Iv x1), (2, Iv x2), (3, Iv x3), (4, Iv x4), (5, Iv x5), (6, Iv x6), (7, Iv x7)] 67 [] → G μ x1 x2 x3 x4 x5 x6 x7) := ⟨fun μ x1 x2 x3 x4 x5 x6 x7 => V g X 8 μ [(0, Rv 11), (1, Iv x1), (2, Iv x2), (3, Iv x3), (4, Iv x4), (5, Iv x5), (6, Iv x6), (7, Iv x7)] 67 [], fun _ _ _ _ _ _ _ _ h => h, fun _ _ _ _ _ _ _ _ h => h⟩
  have K115 : ∀ (μ : Mem) (x1 : Int) (x2 : Int) (x3 : Int) (x4 : Int) (x5 : Int) (x7 : Int) (s0 : Int), b_X11_levels_115 G25 G47 G67 Post μ x1 x2 x3 x4 x5 x7 s0 → V g X 8 μ [(0, Rv 11), (1, Iv x1), (2, Iv x2), (3, Iv x3), (4, Iv x4), (5, Iv x5), (7, Iv x7)] 115 [Iv s0] := by
    intro μ x1 x2 x3 x4 x5 x7 s0 hb
    unfold b_X11_levels_115 at hb
    refine r_istore (pc := 115) (lv' := [(6, Iv s0), (0, Rv 11), (1, Iv x1), (2, Iv x2), (3, Iv x3), (4, Iv x4), (5, Iv x5), (7, Iv x7)]) F dX11_levels_115 (by decide) rfl ?_
    refine r_iincN (pc := 117) 7 (lf := fun x_1 => [(7, Iv x_1), (6, Iv s0), (0, Rv 11), (1, Iv x1), (2, Iv x2), (3, Iv x3), (4, Iv x4), (5, Iv x5)]) F dX11_levels_117 rfl (by decide) rfl (fun x_1 ex_1 => ?_)
    have hb := hb x_1 ex_1
    refine r_goto (pc := 120) (tgt := 67) F dX11_levels_120 (by decide) ?_
    exact V.sub [2, 3, 4, 5, 6, 7, 1, 0] rfl (g67 μ x1 x2 x3 x4 x5 s0 x_1 hb)
  have K108 : ∀ (μ : Mem) (x1 : Int) (x2 : Int) (x3 : Int) (x4 : Int) (x5 : Int) (x7 : Int), b_X11_levels_108 G25 G47 G67 Post μ x1 x2 x3 x4 x5 x7 → V g X 8 μ [(0, Rv 11), (1, Iv x1), (2, Iv x2), (3, Iv x3), (4, Iv x4), (5, Iv x5), (7, Iv x7)] 108 [] := by
    intro μ x1 x2 x3 x4 x5 x7 hb
    unfold b_X11_levels_108 at hb
    refine r_iload (pc := 108) 6 F dX11_levels_108 rfl ?_
    refine r_goto (pc := 110) (tgt := 115) F dX11_levels_110 (by decide) ?_
    exact V.sub [0, 1, 2, 3, 4, 5, 6] rfl (K115 μ x1 x2 x3 x4 x5 x7 x7 hb)
  have K113 : ∀ (μ : Mem) (x1 : Int) (x2 : Int) (x3 : Int) (x4 : Int) (x5 : Int) (x6 : Int) (x7 : Int), b_X11_levels_113 G25 G47 G67 Post μ x1 x2 x3 x4 x5 x6 x7 → V g X 8 μ [(0, Rv 11), (1, Iv x1), (2, Iv x2), (3, Iv x3), (4, Iv x4), (5, Iv x5), (6, Iv x6), (7, Iv x7)] 113 [] := by
    intro μ x1 x2 x3 x4 x5 x6 x7 hb
    unfold b_X11_levels_113 at hb
    refine r_iload (pc := 113) 6 F dX11_levels_113 rfl ?_
    exact V.sub [0, 1, 2, 3, 4, 5, 7] rfl (K115 μ x1 x2 x3 x4 x5 x7 x6 hb)
  have K155 : ∀ (μ : Mem) (x1 : Int) (x2 : Int) (x3 : Int), b_X11_levels_155 G25 G47 G67 Post μ x1 x2 x3 → V g X 8 μ [(0, Rv 11), (1, Iv x1), (2, Iv x2), (3, Iv x3)] 155 [] := by
    intro μ x1 x2 x3 hb
    unfold b_X11_levels_155 at hb
    refine r_iincN (pc := 155) 3 (lf := fun x_2 => [(3, Iv x_2), (0, Rv 11), (1, Iv x1), (2, Iv x2)]) F dX11_levels_155 rfl (by decide) rfl (fun x_2 ex_2 => ?_)
    have hb := hb x_2 ex_2
    refine r_goto (pc := 158) (tgt := 25) F dX11_levels_158 (by decide) ?_
    exact V.sub [1, 2, 3, 0] rfl (g25 μ x1 x2 x_2 hb)
  have K25 : ∀ (μ : Mem) (x1 : Int) (x2 : Int) (x3 : Int), b_X11_levels_25 G25 G47 G67 Post μ x1 x2 x3 → V g X 8 μ [(0, Rv 11), (1, Iv x1), (2, Iv x2), (3, Iv x3)] 25 [] := by
    intro μ x1 x2 x3 hb
    unfold b_X11_levels_25 at hb
    refine r_iload_n (pc := 25) 2 F dX11_levels_25 rfl rfl ?_
    refine r_iconst (pc := 26) F dX11_levels_26 (inR_lit rfl) ?_
    refine r_aload_n (pc := 27) 0 F dX11_levels_27 rfl rfl ?_
    refine gf_RX11_179 (pc := 28) F dX11_levels_28 ?_
    refine r_ishl (pc := 31) F dX11_levels_31 ?_
    refine r_iconst (pc := 32) F dX11_levels_32 (inR_lit rfl) ?_
    refine r_isub (pc := 33) F dX11_levels_33 ?_
    refine r_icmp_eq (pc := 34) (tgt := 161) F dX11_levels_34 (by decide) (fun c_3 => ?_) (fun c_3 => ?_)
    · have hb := hb.1 c_3
      refine r_iload_n (pc := 161) 1 F dX11_levels_161 rfl rfl ?_
      refine r_iconst (pc := 162) F dX11_levels_162 (inR_lit rfl) ?_
      refine r_icmp_ne (pc := 163) (tgt := 170) F dX11_levels_163 (by decide) (fun c_4 => ?_) (fun c_4 => ?_)
      · have hb := hb.1 c_4
        refine r_aload_n (pc := 170) 0 F dX11_levels_170 rfl rfl ?_
        refine gf_RX11_77 (pc := 171) F dX11_levels_171 ?_
        refine r_iload_n (pc := 174) 1 F dX11_levels_174 rfl rfl ?_
        have hg_5 := hb.1
        have hb := hb.2
        refine r_iald (pc := 175) F lc110.1 lc110.2.1 lc110.2.2 hg_5 dX11_levels_175 ?_
        exact r_iret (pc := 176) F hR hr dX11_levels_176 hb
      · have hb := hb.2 c_4
        refine r_iload_n (pc := 166) 3 F dX11_levels_166 rfl rfl ?_
        refine r_goto (pc := 167) (tgt := 176) F dX11_levels_167 (by decide) ?_
        exact r_iret (pc := 176) F hR hr dX11_levels_176 hb
    · have hb := hb.2 c_3
      refine r_aload_n (pc := 37) 0 F dX11_levels_37 rfl rfl ?_
      refine r_iload_n (pc := 38) 2 F dX11_levels_38 rfl rfl ?_
      refine r_callI (pc := 39) (avs := [Iv x2]) (st := []) F (c_X11_freeBehind μ x2 _ hb) (by decide) cal_X11_freeBehind calv_X11_freeBehind lk_RX11_181 rfl rfl (Nat.le_of_ble_eq_true rfl) dX11_levels_39 (fun r_6 μ_7 hb => ?_)
      refine r_istore (pc := 42) (lv' := [(4, Iv r_6), (0, Rv 11), (1, Iv x1), (2, Iv x2), (3, Iv x3)]) F dX11_levels_42 (by decide) rfl ?_
      refine r_iconst (pc := 44) F dX11_levels_44 (inR_lit rfl) ?_
      refine r_istore (pc := 45) (lv' := [(5, Iv 0), (4, Iv r_6), (0, Rv 11), (1, Iv x1), (2, Iv x2), (3, Iv x3)]) F dX11_levels_45 (by decide) rfl ?_
      exact V.sub [2, 3, 4, 5, 1, 0] rfl (g47 μ_7 x1 x2 x3 r_6 0 hb)
  have K47 : ∀ (μ : Mem) (x1 : Int) (x2 : Int) (x3 : Int) (x4 : Int) (x5 : Int), b_X11_levels_47 G25 G47 G67 Post μ x1 x2 x3 x4 x5 → V g X 8 μ [(0, Rv 11), (1, Iv x1), (2, Iv x2), (3, Iv x3), (4, Iv x4), (5, Iv x5)] 47 [] := by
    intro μ x1 x2 x3 x4 x5 hb
    unfold b_X11_levels_47 at hb
    refine r_iload (pc := 47) 5 F dX11_levels_47 rfl ?_
    refine r_aload_n (pc := 49) 0 F dX11_levels_49 rfl rfl ?_
    refine gf_RX11_53 (pc := 50) F dX11_levels_50 ?_
    refine r_icmp_ge (pc := 53) (tgt := 155) F dX11_levels_53 (by decide) (fun c_8 => ?_) (fun c_8 => ?_)
    · have hb := hb.1 c_8
      exact V.sub [0, 1, 2, 3] rfl (K155 μ x1 x2 x3 hb)
    · have hb := hb.2 c_8
      refine r_iload (pc := 56) 4 F dX11_levels_56 rfl ?_
      refine r_if_eq (pc := 58) (tgt := 155) F dX11_levels_58 (by decide) (fun c_9 => ?_) (fun c_9 => ?_)
      · have hb := hb.1 c_9
        exact V.sub [0, 1, 2, 3] rfl (K155 μ x1 x2 x3 hb)
      · have hb := hb.2 c_9
        refine r_iconst (pc := 61) F dX11_levels_61 (inR_lit rfl) ?_
        refine r_istore (pc := 62) (lv' := [(6, Iv (-1)), (0, Rv 11), (1, Iv x1), (2, Iv x2), (3, Iv x3), (4, Iv x4), (5, Iv x5)]) F dX11_levels_62 (by decide) rfl ?_
        refine r_iconst (pc := 64) F dX11_levels_64 (inR_lit rfl) ?_
        refine r_istore (pc := 65) (lv' := [(7, Iv 0), (6, Iv (-1)), (0, Rv 11), (1, Iv x1), (2, Iv x2), (3, Iv x3), (4, Iv x4), (5, Iv x5)]) F dX11_levels_65 (by decide) rfl ?_
        exact V.sub [2, 3, 4, 5, 6, 7, 1, 0] rfl (g67 μ x1 x2 x3 x4 x5 (-1) 0 hb)
  have K67 : ∀ (μ : Mem) (x1 : Int) (x2 : Int) (x3 : Int) (x4 : Int) (x5 : Int) (x6 : Int) (x7 : Int), b_X11_levels_67 G25 G47 G67 Post μ x1 x2 x3 x4 x5 x6 x7 → V g X 8 μ [(0, Rv 11), (1, Iv x1), (2, Iv x2), (3, Iv x3), (4, Iv x4), (5, Iv x5), (6, Iv x6), (7, Iv x7)] 67 [] := by
    intro μ x1 x2 x3 x4 x5 x6 x7 hb
    unfold b_X11_levels_67 at hb
    refine r_iload (pc := 67) 7 F dX11_levels_67 rfl ?_
    refine r_aload_n (pc := 69) 0 F dX11_levels_69 rfl rfl ?_
    refine gf_RX11_179 (pc := 70) F dX11_levels_70 ?_
    refine r_icmp_ge (pc := 73) (tgt := 123) F dX11_levels_73 (by decide) (fun c_10 => ?_) (fun c_10 => ?_)
    · have hb := hb.1 c_10
      refine r_aload_n (pc := 123) 0 F dX11_levels_123 rfl rfl ?_
      refine gf_RX11_77 (pc := 124) F dX11_levels_124 ?_
      refine r_iload (pc := 127) 6 F dX11_levels_127 rfl ?_
      refine r_iload_n (pc := 129) 3 F dX11_levels_129 rfl rfl ?_
      have hg_11 := hb.1
      have hb := hb.2
      refine r_iast (pc := 130) F lc110.1 lc110.2.1 lc110.2.2 hg_11 dX11_levels_130 ?_
      refine V.nmM (fun μ_12 eμ_12 => ?_)
      have hb := hb μ_12 eμ_12
      refine r_iload (pc := 131) 4 F dX11_levels_131 rfl ?_
      refine r_iconst (pc := 133) F dX11_levels_133 (inR_lit rfl) ?_
      refine r_iload (pc := 134) 6 F dX11_levels_134 rfl ?_
      refine r_ishl (pc := 136) F dX11_levels_136 ?_
      refine r_iconst (pc := 137) F dX11_levels_137 (inR_lit rfl) ?_
      refine r_ixor (pc := 138) F dX11_levels_138 ?_
      refine r_iand (pc := 139) F dX11_levels_139 ?_
      refine V.nmI (fun x_13 ex_13 => ?_)
      have hb := hb x_13 ex_13
      refine r_istore (pc := 140) (lv' := [(4, Iv x_13), (0, Rv 11), (1, Iv x1), (2, Iv x2), (3, Iv x3), (5, Iv x5), (6, Iv x6), (7, Iv x7)]) F dX11_levels_140 (by decide) rfl ?_
      refine r_iload_n (pc := 142) 3 F dX11_levels_142 rfl rfl ?_
      refine r_iconst (pc := 143) F dX11_levels_143 (inR_lit rfl) ?_
      refine r_iload (pc := 144) 6 F dX11_levels_144 rfl ?_
      refine r_ishl (pc := 146) F dX11_levels_146 ?_
      refine r_ior (pc := 147) F dX11_levels_147 ?_
      refine V.nmI (fun x_14 ex_14 => ?_)
      have hb := hb x_14 ex_14
      refine r_istore_n (pc := 148) (lv' := [(2, Iv x_14), (4, Iv x_13), (0, Rv 11), (1, Iv x1), (3, Iv x3), (5, Iv x5), (6, Iv x6), (7, Iv x7)]) F dX11_levels_148 rfl (by decide) rfl ?_
      refine r_iincN (pc := 149) 5 (lf := fun x_15 => [(5, Iv x_15), (2, Iv x_14), (4, Iv x_13), (0, Rv 11), (1, Iv x1), (3, Iv x3), (6, Iv x6), (7, Iv x7)]) F dX11_levels_149 rfl (by decide) rfl (fun x_15 ex_15 => ?_)
      have hb := hb x_15 ex_15
      refine r_goto (pc := 152) (tgt := 47) F dX11_levels_152 (by decide) ?_
      exact V.sub [3, 4, 1, 5, 2, 0] rfl (g47 μ_12 x1 x_14 x3 x_13 x_15 hb)
    · have hb := hb.2 c_10
      refine r_iload (pc := 76) 4 F dX11_levels_76 rfl ?_
      refine r_iload (pc := 78) 7 F dX11_levels_78 rfl ?_
      refine r_ishr (pc := 80) F dX11_levels_80 ?_
      refine r_iconst (pc := 81) F dX11_levels_81 (inR_lit rfl) ?_
      refine r_iand (pc := 82) F dX11_levels_82 ?_
      refine r_iconst (pc := 83) F dX11_levels_83 (inR_lit rfl) ?_
      refine r_icmp_ne (pc := 84) (tgt := 113) F dX11_levels_84 (by decide) (fun c_16 => ?_) (fun c_16 => ?_)
      · have hb := hb.1 c_16
        exact V.sub [0, 1, 2, 3, 4, 5, 6, 7] rfl (K113 μ x1 x2 x3 x4 x5 x6 x7 hb)
      · have hb := hb.2 c_16
        refine r_iload (pc := 87) 6 F dX11_levels_87 rfl ?_
        refine r_iconst (pc := 89) F dX11_levels_89 (inR_lit rfl) ?_
        refine r_icmp_eq (pc := 90) (tgt := 108) F dX11_levels_90 (by decide) (fun c_17 => ?_) (fun c_17 => ?_)
        · have hb := hb.1 c_17
          exact V.sub [0, 1, 2, 3, 4, 5, 7] rfl (K108 μ x1 x2 x3 x4 x5 x7 hb)
        · have hb := hb.2 c_17
          refine r_aload_n (pc := 93) 0 F dX11_levels_93 rfl rfl ?_
          refine r_iload (pc := 94) 7 F dX11_levels_94 rfl ?_
          refine r_callI (pc := 96) (avs := [Iv x7]) (st := []) F (c_X11_levelOf μ x7 _ hb) (by decide) cal_X11_levelOf calv_X11_levelOf lk_RX11_184 rfl rfl (Nat.le_of_ble_eq_true rfl) dX11_levels_96 (fun r_18 μ_19 hb => ?_)
          refine r_aload_n (pc := 99) 0 F dX11_levels_99 rfl rfl ?_
          refine r_iload (pc := 100) 6 F dX11_levels_100 rfl ?_
          refine r_callI (pc := 102) (avs := [Iv x6]) (st := [Iv r_18]) F (c_X11_levelOf μ_19 x6 _ hb) (by decide) cal_X11_levelOf calv_X11_levelOf lk_RX11_184 rfl rfl (Nat.le_of_ble_eq_true rfl) dX11_levels_102 (fun r_20 μ_21 hb => ?_)
          refine r_icmp_le (pc := 105) (tgt := 113) F dX11_levels_105 (by decide) (fun c_22 => ?_) (fun c_22 => ?_)
          · have hb := hb.1 c_22
            exact V.sub [0, 1, 2, 3, 4, 5, 6, 7] rfl (K113 μ_21 x1 x2 x3 x4 x5 x6 x7 hb)
          · have hb := hb.2 c_22
            exact V.sub [0, 1, 2, 3, 4, 5, 7] rfl (K108 μ_21 x1 x2 x3 x4 x5 x7 hb)
  have hb := hb G25 G47 G67 (fun μ x1 x2 x3 hb => f25 μ x1 x2 x3 (K25 μ x1 x2 x3 hb)) (fun μ x1 x2 x3 x4 x5 hb => f47 μ x1 x2 x3 x4 x5 (K47 μ x1 x2 x3 x4 x5 hb)) (fun μ x1 x2 x3 x4 x5 x6 x7 hb => f67 μ x1 x2 x3 x4 x5 x6 x7 (K67 μ x1 x2 x3 x4 x5 x6 x7 hb))
  unfold b_X11_levels_e at hb
  refine r_iload_n (pc := 0) 1 F dX11_levels_0 rfl rfl ?_
  refine r_i2l (pc := 1) F dX11_levels_1 ?_
  refine r_ldc2 (pc := 2) F kl_RX11_134 (x := (-1)) (by decide) (inRL_lit rfl) dX11_levels_2 ?_
  refine r_aload_n (pc := 5) 0 F dX11_levels_5 rfl rfl ?_
  refine gf_RX11_179 (pc := 6) F dX11_levels_6 ?_
  refine r_iconst (pc := 9) F dX11_levels_9 (inR_lit rfl) ?_
  refine r_isub (pc := 10) F dX11_levels_10 ?_
  refine r_i2l (pc := 11) F dX11_levels_11 ?_
  refine r_callSI (pc := 12) (avs := [Lv p0, Lv (-1), Lv (wrap ((μ 11 15) - 1))]) (st := []) F (c_X11_in μ p0 (-1) (wrap ((μ 11 15) - 1)) _ hb) (by decide) cal_X11_in st_X11_in lk_RX11_86 rfl rfl (Nat.le_of_ble_eq_true rfl) dX11_levels_12 (fun r_23 μ_24 hb => ?_)
  refine r_if_ne (pc := 15) (tgt := 21) F dX11_levels_15 (by decide) (fun c_25 => ?_) (fun c_25 => ?_)
  · have hb := hb.1 c_25
    refine r_iconst (pc := 21) F dX11_levels_21 (inR_lit rfl) ?_
    refine r_istore_n (pc := 22) (lv' := [(2, Iv 0), (0, Rv 11), (1, Iv p0)]) F dX11_levels_22 rfl (by decide) rfl ?_
    refine r_iconst (pc := 23) F dX11_levels_23 (inR_lit rfl) ?_
    refine r_istore_n (pc := 24) (lv' := [(3, Iv 0), (2, Iv 0), (0, Rv 11), (1, Iv p0)]) F dX11_levels_24 rfl (by decide) rfl ?_
    exact V.sub [2, 3, 1, 0] rfl (g25 μ_24 p0 0 0 hb)
  · have hb := hb.2 c_25
    refine r_bipush (pc := 18) F dX11_levels_18 (inR_lit rfl) (by decide) ?_
    exact r_iret (pc := 20) F hR hr dX11_levels_20 hb
set_option maxHeartbeats 4000000 in
set_option maxRecDepth 100000 in
theorem c_X11_likes {g : Wc} {l : Launch} (μ : Mem) (p0 : Int) (Post : Pst) (hb : wp_X11_likes μ p0 Post) : MtC g l yX11_likes cX11_likes 3 (some .int) 1 [Rv 11, Iv p0] μ (QI g Post) := by
  intro hok
  refine enter (own := RX11) (by decide) rfl (Nat.le_of_ble_eq_true rfl) hok (fun X hl F hr hR => ?_)
  subst hl
  show V g X 3 μ [(0, Rv 11), (1, Iv p0)] 0 []
  unfold wp_X11_likes at hb
  have hb := hb
  unfold b_X11_likes_e at hb
  refine r_iload_n (pc := 0) 1 F dX11_likes_0 rfl rfl ?_
  refine r_i2l (pc := 1) F dX11_likes_1 ?_
  refine r_lconst (pc := 2) (x := 1) F dX11_likes_2 (inRL_lit rfl) (by decide) ?_
  refine r_ldc2 (pc := 3) F kl_RX11_96 (x := 4) (by decide) (inRL_lit rfl) dX11_likes_3 ?_
  refine r_callSI (pc := 6) (avs := [Lv p0, Lv 1, Lv 4]) (st := []) F (c_X11_in μ p0 1 4 _ hb) (by decide) cal_X11_in st_X11_in lk_RX11_86 rfl rfl (Nat.le_of_ble_eq_true rfl) dX11_likes_6 (fun r_1 μ_2 hb => ?_)
  refine r_if_ne (pc := 9) (tgt := 15) F dX11_likes_9 (by decide) (fun c_3 => ?_) (fun c_3 => ?_)
  · have hb := hb.1 c_3
    refine r_aload_n (pc := 15) 0 F dX11_likes_15 rfl rfl ?_
    refine gf_RX11_53 (pc := 16) F dX11_likes_16 ?_
    refine V.nmI (fun x_4 ex_4 => ?_)
    have hb := hb x_4 ex_4
    refine r_istore_n (pc := 19) (lv' := [(2, Iv x_4), (0, Rv 11), (1, Iv p0)]) F dX11_likes_19 rfl (by decide) rfl ?_
    refine r_aload_n (pc := 20) 1 F dX11_likes_20 rfl rfl ?_
    refine r_iload_n (pc := 21) 2 F dX11_likes_21 rfl rfl ?_
    refine pf_RX11_53 (pc := 22) F dX11_likes_22 ?_
    refine V.nmM (fun μ_5 eμ_5 => ?_)
    have hb := hb μ_5 eμ_5
    refine r_iload_n (pc := 25) 0 F dX11_likes_25 rfl rfl ?_
    exact r_iret (pc := 26) F hR hr dX11_likes_26 hb
  · have hb := hb.2 c_3
    refine r_bipush (pc := 12) F dX11_likes_12 (inR_lit rfl) (by decide) ?_
    exact r_iret (pc := 14) F hR hr dX11_likes_14 hb
set_option maxHeartbeats 4000000 in
set_option maxRecDepth 100000 in
theorem c_X11_minute {g : Wc} {l : Launch} (μ : Mem) (p0 : Int) (Post : Pst) (hb : wp_X11_minute μ p0 Post) : MtC g l yX11_minute cX11_minute 3 (some .int) 1 [Rv 11, Iv p0] μ (QI g Post) := by
  intro hok
  refine enter (own := RX11) (by decide) rfl (Nat.le_of_ble_eq_true rfl) hok (fun X hl F hr hR => ?_)
  subst hl
  show V g X 3 μ [(0, Rv 11), (1, Iv p0)] 0 []
  unfold wp_X11_minute at hb
  have hb := hb
  unfold b_X11_minute_e at hb
  refine r_iload_n (pc := 0) 1 F dX11_minute_0 rfl rfl ?_
  refine r_i2l (pc := 1) F dX11_minute_1 ?_
  refine r_lconst (pc := 2) (x := 0) F dX11_minute_2 (inRL_lit rfl) (by decide) ?_
  refine r_ldc2 (pc := 3) F kl_RX11_149 (x := 999) (by decide) (inRL_lit rfl) dX11_minute_3 ?_
  refine r_callSI (pc := 6) (avs := [Lv p0, Lv 0, Lv 999]) (st := []) F (c_X11_in μ p0 0 999 _ hb) (by decide) cal_X11_in st_X11_in lk_RX11_86 rfl rfl (Nat.le_of_ble_eq_true rfl) dX11_minute_6 (fun r_1 μ_2 hb => ?_)
  refine r_if_ne (pc := 9) (tgt := 15) F dX11_minute_9 (by decide) (fun c_3 => ?_) (fun c_3 => ?_)
  · have hb := hb.1 c_3
    refine r_aload_n (pc := 15) 0 F dX11_minute_15 rfl rfl ?_
    refine r_callI (pc := 16) (avs := []) (st := []) F (c_X11_goBroken μ_2 _ hb) (by decide) cal_X11_goBroken calv_X11_goBroken lk_RX11_145 rfl rfl (Nat.le_of_ble_eq_true rfl) dX11_minute_16 (fun r_4 μ_5 hb => ?_)
    refine r_istore_n (pc := 19) (lv' := [(2, Iv r_4), (0, Rv 11), (1, Iv p0)]) F dX11_minute_19 rfl (by decide) rfl ?_
    refine r_aload_n (pc := 20) 1 F dX11_minute_20 rfl rfl ?_
    refine gf_RX11_62 (pc := 21) F dX11_minute_21 ?_
    refine r_iload_n (pc := 24) 2 F dX11_minute_24 rfl rfl ?_
    have hg_6 := hb.1
    have hb := hb.2
    refine r_iald (pc := 25) F lc105.1 lc105.2.1 lc105.2.2 hg_6 dX11_minute_25 ?_
    exact r_iret (pc := 26) F hR hr dX11_minute_26 hb
  · have hb := hb.2 c_3
    refine r_bipush (pc := 12) F dX11_minute_12 (inR_lit rfl) (by decide) ?_
    exact r_iret (pc := 14) F hR hr dX11_minute_14 hb
set_option maxHeartbeats 4000000 in
set_option maxRecDepth 100000 in
theorem c_X11_needs {g : Wc} {l : Launch} (μ : Mem) (p0 : Int) (p1 : Int) (p2 : Int) (Post : Pst) (hb : wp_X11_needs μ p0 p1 p2 Post) : MtC g l yX11_needs cX11_needs 5 (some .int) 2 [Rv 11, Iv p0, Iv p1, Iv p2] μ (QI g Post) := by
  intro hok
  refine enter (own := RX11) (by decide) rfl (Nat.le_of_ble_eq_true rfl) hok (fun X hl F hr hR => ?_)
  subst hl
  show V g X 5 μ [(0, Rv 11), (1, Iv p0), (2, Iv p1), (3, Iv p2)] 0 []
  unfold wp_X11_needs at hb
  have hb := hb
  unfold b_X11_needs_e at hb
  refine r_aload_n (pc := 0) 0 F dX11_needs_0 rfl rfl ?_
  refine r_iload_n (pc := 1) 1 F dX11_needs_1 rfl rfl ?_
  refine r_callI (pc := 2) (avs := [Iv p0]) (st := []) F (c_X11_isWork μ p0 _ hb) (by decide) cal_X11_isWork calv_X11_isWork lk_RX11_92 rfl rfl (Nat.le_of_ble_eq_true rfl) dX11_needs_2 (fun r_1 μ_2 hb => ?_)
  refine r_if_eq (pc := 5) (tgt := 32) F dX11_needs_5 (by decide) (fun c_3 => ?_) (fun c_3 => ?_)
  · have hb := hb.1 c_3
    refine r_bipush (pc := 32) F dX11_needs_32 (inR_lit rfl) (by decide) ?_
    exact r_iret (pc := 34) F hR hr dX11_needs_34 hb
  · have hb := hb.2 c_3
    refine r_iload_n (pc := 8) 2 F dX11_needs_8 rfl rfl ?_
    refine r_i2l (pc := 9) F dX11_needs_9 ?_
    refine r_lconst (pc := 10) (x := 0) F dX11_needs_10 (inRL_lit rfl) (by decide) ?_
    refine r_ldc2 (pc := 11) F kl_RX11_160 (x := 3) (by decide) (inRL_lit rfl) dX11_needs_11 ?_
    refine r_callSI (pc := 14) (avs := [Lv p1, Lv 0, Lv 3]) (st := []) F (c_X11_in μ_2 p1 0 3 _ hb) (by decide) cal_X11_in st_X11_in lk_RX11_86 rfl rfl (Nat.le_of_ble_eq_true rfl) dX11_needs_14 (fun r_4 μ_5 hb => ?_)
    refine r_if_eq (pc := 17) (tgt := 32) F dX11_needs_17 (by decide) (fun c_6 => ?_) (fun c_6 => ?_)
    · have hb := hb.1 c_6
      refine r_bipush (pc := 32) F dX11_needs_32 (inR_lit rfl) (by decide) ?_
      exact r_iret (pc := 34) F hR hr dX11_needs_34 hb
    · have hb := hb.2 c_6
      refine r_iload_n (pc := 20) 3 F dX11_needs_20 rfl rfl ?_
      refine r_i2l (pc := 21) F dX11_needs_21 ?_
      refine r_lconst (pc := 22) (x := 1) F dX11_needs_22 (inRL_lit rfl) (by decide) ?_
      refine r_ldc2 (pc := 23) F kl_RX11_90 (x := 40) (by decide) (inRL_lit rfl) dX11_needs_23 ?_
      refine r_callSI (pc := 26) (avs := [Lv p2, Lv 1, Lv 40]) (st := []) F (c_X11_in μ_5 p2 1 40 _ hb) (by decide) cal_X11_in st_X11_in lk_RX11_86 rfl rfl (Nat.le_of_ble_eq_true rfl) dX11_needs_26 (fun r_7 μ_8 hb => ?_)
      refine r_if_ne (pc := 29) (tgt := 35) F dX11_needs_29 (by decide) (fun c_9 => ?_) (fun c_9 => ?_)
      · have hb := hb.1 c_9
        refine r_aload_n (pc := 35) 0 F dX11_needs_35 rfl rfl ?_
        refine gf_RX11_31 (pc := 36) F dX11_needs_36 ?_
        refine r_iconst (pc := 39) F dX11_needs_39 (inR_lit rfl) ?_
        refine r_iload_n (pc := 40) 1 F dX11_needs_40 rfl rfl ?_
        refine r_imul (pc := 41) F dX11_needs_41 ?_
        refine r_iload_n (pc := 42) 2 F dX11_needs_42 rfl rfl ?_
        refine r_iadd (pc := 43) F dX11_needs_43 ?_
        have hg_10 := hb.1
        have hb := hb.2
        refine r_iald (pc := 44) F lc97.1 lc97.2.1 lc97.2.2 hg_10 dX11_needs_44 ?_
        refine V.nmI (fun x_11 ex_11 => ?_)
        have hb := hb x_11 ex_11
        refine r_istore (pc := 45) (lv' := [(4, Iv x_11), (0, Rv 11), (1, Iv p0), (2, Iv p1), (3, Iv p2)]) F dX11_needs_45 (by decide) rfl ?_
        refine r_aload_n (pc := 47) 1 F dX11_needs_47 rfl rfl ?_
        refine gf_RX11_31 (pc := 48) F dX11_needs_48 ?_
        refine r_iconst (pc := 51) F dX11_needs_51 (inR_lit rfl) ?_
        refine r_iload_n (pc := 52) 2 F dX11_needs_52 rfl rfl ?_
        refine r_imul (pc := 53) F dX11_needs_53 ?_
        refine r_iload_n (pc := 54) 3 F dX11_needs_54 rfl rfl ?_
        refine r_iadd (pc := 55) F dX11_needs_55 ?_
        refine r_iload_n (pc := 56) 4 F dX11_needs_56 rfl rfl ?_
        have hg_12 := hb.1
        have hb := hb.2
        refine r_iast (pc := 57) F lc97.1 lc97.2.1 lc97.2.2 hg_12 dX11_needs_57 ?_
        refine V.nmM (fun μ_13 eμ_13 => ?_)
        have hb := hb μ_13 eμ_13
        refine r_iload (pc := 58) 0 F dX11_needs_58 rfl ?_
        exact r_iret (pc := 60) F hR hr dX11_needs_60 hb
      · have hb := hb.2 c_9
        refine r_bipush (pc := 32) F dX11_needs_32 (inR_lit rfl) (by decide) ?_
        exact r_iret (pc := 34) F hR hr dX11_needs_34 hb
set_option maxHeartbeats 4000000 in
set_option maxRecDepth 100000 in
theorem c_X11_next {g : Wc} {l : Launch} (μ : Mem) (p0 : Int) (Post : Pst) (hb : wp_X11_next μ p0 Post) : MtC g l yX11_next cX11_next 4 (some .int) 2 [Rv 11, Iv p0] μ (QI g Post) := by
  intro hok
  refine enter (own := RX11) (by decide) rfl (Nat.le_of_ble_eq_true rfl) hok (fun X hl F hr hR => ?_)
  subst hl
  show V g X 4 μ [(0, Rv 11), (1, Iv p0)] 0 []
  unfold wp_X11_next at hb
  obtain ⟨G4, g4, f4⟩ : ∃ G : Mem → Int → Int → Int → Prop, (∀ μ x1 x2 x3, G μ x1 x2 x3 → V g X 4 μ [(0, Rv 11), (1, Iv x1), (2, Iv x2), (3, Iv x3)] 4 []) ∧ (∀ μ x1 x2 x3, V g X 4 μ [(0, Rv 11), (1, Iv x1), (2, Iv x2), (3, Iv x3)] 4 [] → G μ x1 x2 x3) := ⟨fun μ x1 x2 x3 => V g X 4 μ [(0, Rv 11), (1, Iv x1), (2, Iv x2), (3, Iv x3)] 4 [], fun _ _ _ _ h => h, fun _ _ _ _ h => h⟩
  have K31 : ∀ (μ : Mem) (x1 : Int) (x3 : Int) (s0 : Int), b_X11_next_31 G4 Post μ x1 x3 s0 → V g X 4 μ [(0, Rv 11), (1, Iv x1), (3, Iv x3)] 31 [Iv s0] := by
    intro μ x1 x3 s0 hb
    unfold b_X11_next_31 at hb
    refine r_istore_n (pc := 31) (lv' := [(2, Iv s0), (0, Rv 11), (1, Iv x1), (3, Iv x3)]) F dX11_next_31 rfl (by decide) rfl ?_
    refine r_iincN (pc := 32) 3 (lf := fun x_1 => [(3, Iv x_1), (2, Iv s0), (0, Rv 11), (1, Iv x1)]) F dX11_next_32 rfl (by decide) rfl (fun x_1 ex_1 => ?_)
    have hb := hb x_1 ex_1
    refine r_goto (pc := 35) (tgt := 4) F dX11_next_35 (by decide) ?_
    exact V.sub [2, 3, 1, 0] rfl (g4 μ x1 s0 x_1 hb)
  have K26 : ∀ (μ : Mem) (x1 : Int) (x3 : Int), b_X11_next_26 G4 Post μ x1 x3 → V g X 4 μ [(0, Rv 11), (1, Iv x1), (3, Iv x3)] 26 [] := by
    intro μ x1 x3 hb
    unfold b_X11_next_26 at hb
    refine r_iconst (pc := 26) F dX11_next_26 (inR_lit rfl) ?_
    refine r_goto (pc := 27) (tgt := 31) F dX11_next_27 (by decide) ?_
    exact V.sub [0, 1, 2] rfl (K31 μ x1 x3 1 hb)
  have K4 : ∀ (μ : Mem) (x1 : Int) (x2 : Int) (x3 : Int), b_X11_next_4 G4 Post μ x1 x2 x3 → V g X 4 μ [(0, Rv 11), (1, Iv x1), (2, Iv x2), (3, Iv x3)] 4 [] := by
    intro μ x1 x2 x3 hb
    unfold b_X11_next_4 at hb
    refine r_iload_n (pc := 4) 3 F dX11_next_4 rfl rfl ?_
    refine r_aload_n (pc := 5) 0 F dX11_next_5 rfl rfl ?_
    refine gf_RX11_151 (pc := 6) F dX11_next_6 ?_
    refine r_icmp_ge (pc := 9) (tgt := 38) F dX11_next_9 (by decide) (fun c_2 => ?_) (fun c_2 => ?_)
    · have hb := hb.1 c_2
      refine r_aload_n (pc := 38) 0 F dX11_next_38 rfl rfl ?_
      refine r_iload_n (pc := 39) 1 F dX11_next_39 rfl rfl ?_
      refine r_callI (pc := 40) (avs := [Iv x1]) (st := []) F (c_X11_isWork μ x1 _ hb) (by decide) cal_X11_isWork calv_X11_isWork lk_RX11_92 rfl rfl (Nat.le_of_ble_eq_true rfl) dX11_next_40 (fun r_3 μ_4 hb => ?_)
      refine r_if_eq (pc := 43) (tgt := 50) F dX11_next_43 (by decide) (fun c_5 => ?_) (fun c_5 => ?_)
      · have hb := hb.1 c_5
        refine r_bipush (pc := 50) F dX11_next_50 (inR_lit rfl) (by decide) ?_
        exact r_iret (pc := 52) F hR hr dX11_next_52 hb
      · have hb := hb.2 c_5
        refine r_iload_n (pc := 46) 2 F dX11_next_46 rfl rfl ?_
        refine r_if_eq (pc := 47) (tgt := 53) F dX11_next_47 (by decide) (fun c_6 => ?_) (fun c_6 => ?_)
        · have hb := hb.1 c_6
          refine r_aload_n (pc := 53) 0 F dX11_next_53 rfl rfl ?_
          refine gf_RX11_41 (pc := 54) F dX11_next_54 ?_
          refine r_aload_n (pc := 57) 0 F dX11_next_57 rfl rfl ?_
          refine gf_RX11_151 (pc := 58) F dX11_next_58 ?_
          refine r_iload_n (pc := 61) 1 F dX11_next_61 rfl rfl ?_
          have hg_7 := hb.1
          have hb := hb.2
          refine r_iast (pc := 62) F lc99.1 lc99.2.1 lc99.2.2 hg_7 dX11_next_62 ?_
          refine V.nmM (fun μ_8 eμ_8 => ?_)
          have hb := hb μ_8 eμ_8
          refine r_aload_n (pc := 63) 0 F dX11_next_63 rfl rfl ?_
          refine r_dup (pc := 64) F dX11_next_64 rfl ?_
          refine gf_RX11_151 (pc := 65) F dX11_next_65 ?_
          refine r_iconst (pc := 68) F dX11_next_68 (inR_lit rfl) ?_
          refine r_iadd (pc := 69) F dX11_next_69 ?_
          refine pf_RX11_151 (pc := 70) F dX11_next_70 ?_
          refine V.nmM (fun μ_9 eμ_9 => ?_)
          have hb := hb μ_9 eμ_9
          refine r_aload_n (pc := 73) 0 F dX11_next_73 rfl rfl ?_
          refine gf_RX11_151 (pc := 74) F dX11_next_74 ?_
          exact r_iret (pc := 77) F hR hr dX11_next_77 hb
        · have hb := hb.2 c_6
          refine r_bipush (pc := 50) F dX11_next_50 (inR_lit rfl) (by decide) ?_
          exact r_iret (pc := 52) F hR hr dX11_next_52 hb
    · have hb := hb.2 c_2
      refine r_iload_n (pc := 12) 2 F dX11_next_12 rfl rfl ?_
      refine r_if_ne (pc := 13) (tgt := 26) F dX11_next_13 (by decide) (fun c_10 => ?_) (fun c_10 => ?_)
      · have hb := hb.1 c_10
        exact V.sub [0, 1, 3] rfl (K26 μ x1 x3 hb)
      · have hb := hb.2 c_10
        refine r_aload_n (pc := 16) 0 F dX11_next_16 rfl rfl ?_
        refine gf_RX11_41 (pc := 17) F dX11_next_17 ?_
        refine r_iload_n (pc := 20) 3 F dX11_next_20 rfl rfl ?_
        have hg_11 := hb.1
        have hb := hb.2
        refine r_iald (pc := 21) F lc99.1 lc99.2.1 lc99.2.2 hg_11 dX11_next_21 ?_
        refine r_iload_n (pc := 22) 1 F dX11_next_22 rfl rfl ?_
        refine r_icmp_ne (pc := 23) (tgt := 30) F dX11_next_23 (by decide) (fun c_12 => ?_) (fun c_12 => ?_)
        · have hb := hb.1 c_12
          refine r_iconst (pc := 30) F dX11_next_30 (inR_lit rfl) ?_
          exact V.sub [0, 1, 3] rfl (K31 μ x1 x3 0 hb)
        · have hb := hb.2 c_12
          exact V.sub [0, 1, 3] rfl (K26 μ x1 x3 hb)
  have hb := hb G4 (fun μ x1 x2 x3 hb => f4 μ x1 x2 x3 (K4 μ x1 x2 x3 hb))
  unfold b_X11_next_e at hb
  refine r_iconst (pc := 0) F dX11_next_0 (inR_lit rfl) ?_
  refine r_istore_n (pc := 1) (lv' := [(2, Iv 0), (0, Rv 11), (1, Iv p0)]) F dX11_next_1 rfl (by decide) rfl ?_
  refine r_iconst (pc := 2) F dX11_next_2 (inR_lit rfl) ?_
  refine r_istore_n (pc := 3) (lv' := [(3, Iv 0), (2, Iv 0), (0, Rv 11), (1, Iv p0)]) F dX11_next_3 rfl (by decide) rfl ?_
  exact V.sub [2, 3, 1, 0] rfl (g4 μ p0 0 0 hb)
set_option maxHeartbeats 4000000 in
set_option maxRecDepth 100000 in
theorem c_X11_onTime {g : Wc} {l : Launch} (μ : Mem) (Post : Pst) (hb : wp_X11_onTime μ Post) : MtC g l yX11_onTime cX11_onTime 7 (some .int) 2 [Rv 11] μ (QI g Post) := by
  intro hok
  refine enter (own := RX11) (by decide) rfl (Nat.le_of_ble_eq_true rfl) hok (fun X hl F hr hR => ?_)
  subst hl
  show V g X 7 μ [(0, Rv 11)] 0 []
  unfold wp_X11_onTime at hb
  obtain ⟨G10, g10, f10⟩ : ∃ G : Mem → Int → Int → Int → Prop, (∀ μ x1 x2 x3, G μ x1 x2 x3 → V g X 7 μ [(0, Rv 11), (1, Iv x1), (2, Iv x2), (3, Iv x3)] 10 []) ∧ (∀ μ x1 x2 x3, V g X 7 μ [(0, Rv 11), (1, Iv x1), (2, Iv x2), (3, Iv x3)] 10 [] → G μ x1 x2 x3) := ⟨fun μ x1 x2 x3 => V g X 7 μ [(0, Rv 11), (1, Iv x1), (2, Iv x2), (3, Iv x3)] 10 [], fun _ _ _ _ h => h, fun _ _ _ _ h => h⟩
  obtain ⟨G64, g64, f64⟩ : ∃ G : Mem → Int → Int → Int → Int → Int → Prop, (∀ μ x1 x2 x3 x4 x5, G μ x1 x2 x3 x4 x5 → V g X 7 μ [(0, Rv 11), (1, Iv x1), (2, Iv x2), (3, Iv x3), (4, Iv x4), (5, Iv x5)] 64 []) ∧ (∀ μ x1 x2 x3 x4 x5, V g X 7 μ [(0, Rv 11), (1, Iv x1), (2, Iv x2), (3, Iv x3), (4, Iv x4), (5, Iv x5)] 64 [] → G μ x1 x2 x3 x4 x5) := ⟨fun μ x1 x2 x3 x4 x5 => V g X 7 μ [(0, Rv 11), (1, Iv x1), (2, Iv x2), (3, Iv x3), (4, Iv x4), (5, Iv x5)] 64 [], fun _ _ _ _ _ _ h => h, fun _ _ _ _ _ _ h => h⟩
  have K137 : ∀ (μ : Mem) (x1 : Int) (x2 : Int) (x3 : Int) (x5 : Int) (s0 : Int), b_X11_onTime_137 G10 G64 Post μ x1 x2 x3 x5 s0 → V g X 7 μ [(0, Rv 11), (1, Iv x1), (2, Iv x2), (3, Iv x3), (5, Iv x5)] 137 [Iv s0] := by
    intro μ x1 x2 x3 x5 s0 hb
    unfold b_X11_onTime_137 at hb
    refine r_istore (pc := 137) (lv' := [(4, Iv s0), (0, Rv 11), (1, Iv x1), (2, Iv x2), (3, Iv x3), (5, Iv x5)]) F dX11_onTime_137 (by decide) rfl ?_
    refine r_iincN (pc := 139) 5 (lf := fun x_1 => [(5, Iv x_1), (4, Iv s0), (0, Rv 11), (1, Iv x1), (2, Iv x2), (3, Iv x3)]) F dX11_onTime_139 rfl (by decide) rfl (fun x_1 ex_1 => ?_)
    have hb := hb x_1 ex_1
    refine r_goto (pc := 142) (tgt := 64) F dX11_onTime_142 (by decide) ?_
    exact V.sub [2, 3, 4, 5, 1, 0] rfl (g64 μ x1 x2 x3 s0 x_1 hb)
  have K118 : ∀ (μ : Mem) (x1 : Int) (x2 : Int) (x3 : Int) (x4 : Int) (x5 : Int) (s0 : Int), b_X11_onTime_118 G10 G64 Post μ x1 x2 x3 x4 x5 s0 → V g X 7 μ [(0, Rv 11), (1, Iv x1), (2, Iv x2), (3, Iv x3), (4, Iv x4), (5, Iv x5)] 118 [Iv s0] := by
    intro μ x1 x2 x3 x4 x5 s0 hb
    unfold b_X11_onTime_118 at hb
    refine r_istore (pc := 118) (lv' := [(6, Iv s0), (0, Rv 11), (1, Iv x1), (2, Iv x2), (3, Iv x3), (4, Iv x4), (5, Iv x5)]) F dX11_onTime_118 (by decide) rfl ?_
    refine r_iload (pc := 120) 0 F dX11_onTime_120 rfl ?_
    refine r_if_eq (pc := 122) (tgt := 135) F dX11_onTime_122 (by decide) (fun c_2 => ?_) (fun c_2 => ?_)
    · have hb := hb.1 c_2
      refine r_iload (pc := 135) 5 F dX11_onTime_135 rfl ?_
      exact V.sub [1, 2, 3, 4, 6] rfl (K137 μ x1 x2 x3 x5 x4 hb)
    · have hb := hb.2 c_2
      refine r_aload_n (pc := 125) 1 F dX11_onTime_125 rfl rfl ?_
      refine gf_RX11_56 (pc := 126) F dX11_onTime_126 ?_
      refine r_iload (pc := 129) 6 F dX11_onTime_129 rfl ?_
      have hg_3 := hb.1
      have hb := hb.2
      refine r_iald (pc := 131) F lc103.1 lc103.2.1 lc103.2.2 hg_3 dX11_onTime_131 ?_
      refine r_goto (pc := 132) (tgt := 137) F dX11_onTime_132 (by decide) ?_
      exact V.sub [1, 2, 3, 4, 6] rfl (K137 μ x1 x2 x3 x5 (μ 103 x5.toNat) hb)
  have K113 : ∀ (μ : Mem) (x1 : Int) (x2 : Int) (x3 : Int) (x4 : Int) (x5 : Int), b_X11_onTime_113 G10 G64 Post μ x1 x2 x3 x4 x5 → V g X 7 μ [(0, Rv 11), (1, Iv x1), (2, Iv x2), (3, Iv x3), (4, Iv x4), (5, Iv x5)] 113 [] := by
    intro μ x1 x2 x3 x4 x5 hb
    unfold b_X11_onTime_113 at hb
    refine r_iconst (pc := 113) F dX11_onTime_113 (inR_lit rfl) ?_
    refine r_goto (pc := 114) (tgt := 118) F dX11_onTime_114 (by decide) ?_
    exact V.sub [0, 1, 2, 3, 4, 5] rfl (K118 μ x1 x2 x3 x4 x5 1 hb)
  have K117 : ∀ (μ : Mem) (x1 : Int) (x2 : Int) (x3 : Int) (x4 : Int) (x5 : Int), b_X11_onTime_117 G10 G64 Post μ x1 x2 x3 x4 x5 → V g X 7 μ [(0, Rv 11), (1, Iv x1), (2, Iv x2), (3, Iv x3), (4, Iv x4), (5, Iv x5)] 117 [] := by
    intro μ x1 x2 x3 x4 x5 hb
    unfold b_X11_onTime_117 at hb
    refine r_iconst (pc := 117) F dX11_onTime_117 (inR_lit rfl) ?_
    exact V.sub [0, 1, 2, 3, 4, 5] rfl (K118 μ x1 x2 x3 x4 x5 0 hb)
  have K164 : ∀ (μ : Mem) (x1 : Int) (x2 : Int) (x3 : Int), b_X11_onTime_164 G10 G64 Post μ x1 x2 x3 → V g X 7 μ [(0, Rv 11), (1, Iv x1), (2, Iv x2), (3, Iv x3)] 164 [] := by
    intro μ x1 x2 x3 hb
    unfold b_X11_onTime_164 at hb
    refine r_iincN (pc := 164) 3 (lf := fun x_4 => [(3, Iv x_4), (0, Rv 11), (1, Iv x1), (2, Iv x2)]) F dX11_onTime_164 rfl (by decide) rfl (fun x_4 ex_4 => ?_)
    have hb := hb x_4 ex_4
    refine r_goto (pc := 167) (tgt := 10) F dX11_onTime_167 (by decide) ?_
    exact V.sub [1, 2, 3, 0] rfl (g10 μ x1 x2 x_4 hb)
  have K10 : ∀ (μ : Mem) (x1 : Int) (x2 : Int) (x3 : Int), b_X11_onTime_10 G10 G64 Post μ x1 x2 x3 → V g X 7 μ [(0, Rv 11), (1, Iv x1), (2, Iv x2), (3, Iv x3)] 10 [] := by
    intro μ x1 x2 x3 hb
    unfold b_X11_onTime_10 at hb
    refine r_iload_n (pc := 10) 3 F dX11_onTime_10 rfl rfl ?_
    refine r_aload_n (pc := 11) 0 F dX11_onTime_11 rfl rfl ?_
    refine gf_RX11_83 (pc := 12) F dX11_onTime_12 ?_
    refine r_icmp_ge (pc := 15) (tgt := 170) F dX11_onTime_15 (by decide) (fun c_5 => ?_) (fun c_5 => ?_)
    · have hb := hb.1 c_5
      refine r_iload_n (pc := 170) 1 F dX11_onTime_170 rfl rfl ?_
      exact r_iret (pc := 171) F hR hr dX11_onTime_171 hb
    · have hb := hb.2 c_5
      refine r_iload_n (pc := 18) 1 F dX11_onTime_18 rfl rfl ?_
      refine r_iconst (pc := 19) F dX11_onTime_19 (inR_lit rfl) ?_
      refine r_aload_n (pc := 20) 0 F dX11_onTime_20 rfl rfl ?_
      refine gf_RX11_56 (pc := 21) F dX11_onTime_21 ?_
      refine r_iload_n (pc := 24) 3 F dX11_onTime_24 rfl rfl ?_
      have hg_6 := hb.1
      have hb := hb.2
      refine r_iald (pc := 25) F lc103.1 lc103.2.1 lc103.2.2 hg_6 dX11_onTime_25 ?_
      refine r_ishl (pc := 26) F dX11_onTime_26 ?_
      refine r_ior (pc := 27) F dX11_onTime_27 ?_
      refine V.nmI (fun x_7 ex_7 => ?_)
      have hb := hb x_7 ex_7
      refine r_istore_n (pc := 28) (lv' := [(1, Iv x_7), (0, Rv 11), (2, Iv x2), (3, Iv x3)]) F dX11_onTime_28 rfl (by decide) rfl ?_
      refine r_iload_n (pc := 29) 2 F dX11_onTime_29 rfl rfl ?_
      refine r_aload_n (pc := 30) 1 F dX11_onTime_30 rfl rfl ?_
      refine gf_RX11_7 (pc := 31) F dX11_onTime_31 ?_
      refine r_aload_n (pc := 34) 1 F dX11_onTime_34 rfl rfl ?_
      refine gf_RX11_56 (pc := 35) F dX11_onTime_35 ?_
      refine r_iload_n (pc := 38) 3 F dX11_onTime_38 rfl rfl ?_
      have hg_8 := hb.1
      have hb := hb.2
      refine r_iald (pc := 39) F lc103.1 lc103.2.1 lc103.2.2 hg_8 dX11_onTime_39 ?_
      have hg_9 := hb.1
      have hb := hb.2
      refine r_iald (pc := 40) F lc90.1 lc90.2.1 lc90.2.2 hg_9 dX11_onTime_40 ?_
      refine r_iadd (pc := 41) F dX11_onTime_41 ?_
      refine V.nmI (fun x_10 ex_10 => ?_)
      have hb := hb x_10 ex_10
      refine r_istore_n (pc := 42) (lv' := [(2, Iv x_10), (1, Iv x_7), (0, Rv 11), (3, Iv x3)]) F dX11_onTime_42 rfl (by decide) rfl ?_
      refine r_iload_n (pc := 43) 0 F dX11_onTime_43 rfl rfl ?_
      refine r_aload_n (pc := 44) 2 F dX11_onTime_44 rfl rfl ?_
      refine gf_RX11_16 (pc := 45) F dX11_onTime_45 ?_
      refine r_aload_n (pc := 48) 2 F dX11_onTime_48 rfl rfl ?_
      refine gf_RX11_56 (pc := 49) F dX11_onTime_49 ?_
      refine r_iload_n (pc := 52) 3 F dX11_onTime_52 rfl rfl ?_
      have hg_11 := hb.1
      have hb := hb.2
      refine r_iald (pc := 53) F lc103.1 lc103.2.1 lc103.2.2 hg_11 dX11_onTime_53 ?_
      have hg_12 := hb.1
      have hb := hb.2
      refine r_iald (pc := 54) F lc92.1 lc92.2.1 lc92.2.2 hg_12 dX11_onTime_54 ?_
      refine r_icmp_le (pc := 55) (tgt := 164) F dX11_onTime_55 (by decide) (fun c_13 => ?_) (fun c_13 => ?_)
      · have hb := hb.1 c_13
        exact V.sub [2, 1, 0, 3] rfl (K164 μ x_7 x_10 x3 hb)
      · have hb := hb.2 c_13
        refine r_iconst (pc := 58) F dX11_onTime_58 (inR_lit rfl) ?_
        refine r_istore (pc := 59) (lv' := [(4, Iv (-1)), (2, Iv x_10), (1, Iv x_7), (0, Rv 11), (3, Iv x3)]) F dX11_onTime_59 (by decide) rfl ?_
        refine r_iconst (pc := 61) F dX11_onTime_61 (inR_lit rfl) ?_
        refine r_istore (pc := 62) (lv' := [(5, Iv 0), (4, Iv (-1)), (2, Iv x_10), (1, Iv x_7), (0, Rv 11), (3, Iv x3)]) F dX11_onTime_62 (by decide) rfl ?_
        exact V.sub [4, 3, 2, 5, 1, 0] rfl (g64 μ x_7 x_10 x3 (-1) 0 hb)
  have K64 : ∀ (μ : Mem) (x1 : Int) (x2 : Int) (x3 : Int) (x4 : Int) (x5 : Int), b_X11_onTime_64 G10 G64 Post μ x1 x2 x3 x4 x5 → V g X 7 μ [(0, Rv 11), (1, Iv x1), (2, Iv x2), (3, Iv x3), (4, Iv x4), (5, Iv x5)] 64 [] := by
    intro μ x1 x2 x3 x4 x5 hb
    unfold b_X11_onTime_64 at hb
    refine r_iload (pc := 64) 5 F dX11_onTime_64 rfl ?_
    refine r_iload_n (pc := 66) 3 F dX11_onTime_66 rfl rfl ?_
    refine r_icmp_gt (pc := 67) (tgt := 145) F dX11_onTime_67 (by decide) (fun c_14 => ?_) (fun c_14 => ?_)
    · have hb := hb.1 c_14
      refine r_iload_n (pc := 145) 1 F dX11_onTime_145 rfl rfl ?_
      refine r_iconst (pc := 146) F dX11_onTime_146 (inR_lit rfl) ?_
      refine r_iload (pc := 147) 4 F dX11_onTime_147 rfl ?_
      refine r_ishl (pc := 149) F dX11_onTime_149 ?_
      refine r_iconst (pc := 150) F dX11_onTime_150 (inR_lit rfl) ?_
      refine r_ixor (pc := 151) F dX11_onTime_151 ?_
      refine r_iand (pc := 152) F dX11_onTime_152 ?_
      refine V.nmI (fun x_15 ex_15 => ?_)
      have hb := hb x_15 ex_15
      refine r_istore_n (pc := 153) (lv' := [(1, Iv x_15), (0, Rv 11), (2, Iv x2), (3, Iv x3), (4, Iv x4), (5, Iv x5)]) F dX11_onTime_153 rfl (by decide) rfl ?_
      refine r_iload_n (pc := 154) 2 F dX11_onTime_154 rfl rfl ?_
      refine r_aload_n (pc := 155) 1 F dX11_onTime_155 rfl rfl ?_
      refine gf_RX11_7 (pc := 156) F dX11_onTime_156 ?_
      refine r_iload (pc := 159) 4 F dX11_onTime_159 rfl ?_
      have hg_16 := hb.1
      have hb := hb.2
      refine r_iald (pc := 161) F lc90.1 lc90.2.1 lc90.2.2 hg_16 dX11_onTime_161 ?_
      refine r_isub (pc := 162) F dX11_onTime_162 ?_
      refine V.nmI (fun x_17 ex_17 => ?_)
      have hb := hb x_17 ex_17
      refine r_istore_n (pc := 163) (lv' := [(2, Iv x_17), (1, Iv x_15), (0, Rv 11), (3, Iv x3), (4, Iv x4), (5, Iv x5)]) F dX11_onTime_163 rfl (by decide) rfl ?_
      exact V.sub [2, 1, 0, 3] rfl (K164 μ x_15 x_17 x3 hb)
    · have hb := hb.2 c_14
      refine r_iload_n (pc := 70) 1 F dX11_onTime_70 rfl rfl ?_
      refine r_aload_n (pc := 71) 0 F dX11_onTime_71 rfl rfl ?_
      refine gf_RX11_56 (pc := 72) F dX11_onTime_72 ?_
      refine r_iload (pc := 75) 5 F dX11_onTime_75 rfl ?_
      have hg_18 := hb.1
      have hb := hb.2
      refine r_iald (pc := 77) F lc103.1 lc103.2.1 lc103.2.2 hg_18 dX11_onTime_77 ?_
      refine r_ishr (pc := 78) F dX11_onTime_78 ?_
      refine r_iconst (pc := 79) F dX11_onTime_79 (inR_lit rfl) ?_
      refine r_iand (pc := 80) F dX11_onTime_80 ?_
      refine r_iconst (pc := 81) F dX11_onTime_81 (inR_lit rfl) ?_
      refine r_icmp_ne (pc := 82) (tgt := 117) F dX11_onTime_82 (by decide) (fun c_19 => ?_) (fun c_19 => ?_)
      · have hb := hb.1 c_19
        exact V.sub [0, 1, 2, 3, 4, 5] rfl (K117 μ x1 x2 x3 x4 x5 hb)
      · have hb := hb.2 c_19
        refine r_iload (pc := 85) 4 F dX11_onTime_85 rfl ?_
        refine r_iconst (pc := 87) F dX11_onTime_87 (inR_lit rfl) ?_
        refine r_icmp_eq (pc := 88) (tgt := 113) F dX11_onTime_88 (by decide) (fun c_20 => ?_) (fun c_20 => ?_)
        · have hb := hb.1 c_20
          exact V.sub [0, 1, 2, 3, 4, 5] rfl (K113 μ x1 x2 x3 x4 x5 hb)
        · have hb := hb.2 c_20
          refine r_aload_n (pc := 91) 0 F dX11_onTime_91 rfl rfl ?_
          refine gf_RX11_7 (pc := 92) F dX11_onTime_92 ?_
          refine r_aload_n (pc := 95) 0 F dX11_onTime_95 rfl rfl ?_
          refine gf_RX11_56 (pc := 96) F dX11_onTime_96 ?_
          refine r_iload (pc := 99) 5 F dX11_onTime_99 rfl ?_
          have hg_21 := hb.1
          have hb := hb.2
          refine r_iald (pc := 101) F lc103.1 lc103.2.1 lc103.2.2 hg_21 dX11_onTime_101 ?_
          have hg_22 := hb.1
          have hb := hb.2
          refine r_iald (pc := 102) F lc90.1 lc90.2.1 lc90.2.2 hg_22 dX11_onTime_102 ?_
          refine r_aload_n (pc := 103) 0 F dX11_onTime_103 rfl rfl ?_
          refine gf_RX11_7 (pc := 104) F dX11_onTime_104 ?_
          refine r_iload (pc := 107) 4 F dX11_onTime_107 rfl ?_
          have hg_23 := hb.1
          have hb := hb.2
          refine r_iald (pc := 109) F lc90.1 lc90.2.1 lc90.2.2 hg_23 dX11_onTime_109 ?_
          refine r_icmp_lt (pc := 110) (tgt := 117) F dX11_onTime_110 (by decide) (fun c_24 => ?_) (fun c_24 => ?_)
          · have hb := hb.1 c_24
            exact V.sub [0, 1, 2, 3, 4, 5] rfl (K117 μ x1 x2 x3 x4 x5 hb)
          · have hb := hb.2 c_24
            exact V.sub [0, 1, 2, 3, 4, 5] rfl (K113 μ x1 x2 x3 x4 x5 hb)
  have hb := hb G10 G64 (fun μ x1 x2 x3 hb => f10 μ x1 x2 x3 (K10 μ x1 x2 x3 hb)) (fun μ x1 x2 x3 x4 x5 hb => f64 μ x1 x2 x3 x4 x5 (K64 μ x1 x2 x3 x4 x5 hb))
  unfold b_X11_onTime_e at hb
  refine r_aload_n (pc := 0) 0 F dX11_onTime_0 rfl rfl ?_
  refine r_callV (pc := 1) (avs := []) (st := []) F (c_X11_byDue μ _ hb) (by decide) cal_X11_byDue calv_X11_byDue lk_RX11_142 rfl rfl (Nat.le_of_ble_eq_true rfl) dX11_onTime_1 (fun μ_26 hb => ?_)
  refine r_iconst (pc := 4) F dX11_onTime_4 (inR_lit rfl) ?_
  refine r_istore_n (pc := 5) (lv' := [(1, Iv 0), (0, Rv 11)]) F dX11_onTime_5 rfl (by decide) rfl ?_
  refine r_iconst (pc := 6) F dX11_onTime_6 (inR_lit rfl) ?_
  refine r_istore_n (pc := 7) (lv' := [(2, Iv 0), (1, Iv 0), (0, Rv 11)]) F dX11_onTime_7 rfl (by decide) rfl ?_
  refine r_iconst (pc := 8) F dX11_onTime_8 (inR_lit rfl) ?_
  refine r_istore_n (pc := 9) (lv' := [(3, Iv 0), (2, Iv 0), (1, Iv 0), (0, Rv 11)]) F dX11_onTime_9 rfl (by decide) rfl ?_
  exact V.sub [3, 2, 1, 0] rfl (g10 μ_26 0 0 0 hb)
