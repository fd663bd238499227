/-! Walks: X10_work, X11_allAhead, X11_in, X11_isWork, X11_ahead, X11_allMinutes, X11_anew, X11_any, X11_benchAt, X11_benches, X11_firstOrder, X11_isLawful, X11_makes. By program. -/
set_option maxHeartbeats 4000000 in
set_option maxRecDepth 100000 in
theorem c_X10_work {g : Wc} {l : Launch} (μ : Mem) (p0 : Int) (Post : Pst) (hb : wp_X10_work μ p0 Post) : MtC g l yX10_work cX10_work 2 (some .int) 2 [Rv 0, Iv p0] μ (QI g Post) := by
  intro hok
  refine enter (own := RX10) (by decide) rfl (Nat.le_of_ble_eq_true rfl) hok (fun X hl F hr hR => ?_)
  subst hl
  show V g X 2 μ [(0, Rv 0), (1, Iv p0)] 0 []
  unfold wp_X10_work at hb
  have hb := hb
  unfold b_X10_work_e at hb
  refine r_iload_n (pc := 0) 1 F dX10_work_0 rfl rfl ?_
  refine r_gets0 (pc := 1) F kg_RX10_83 dX10_work_1 ?_
  refine r_iconst (pc := 4) F dX10_work_4 (inR_lit rfl) ?_
  refine r_tald0 (pc := 5) F ⟨by decide, by decide⟩ dX10_work_5 ?_
  refine r_gets1 (pc := 6) F kg_RX10_87 dX10_work_6 ?_
  refine r_iconst (pc := 9) F dX10_work_9 (inR_lit rfl) ?_
  refine r_tald1 (pc := 10) F ⟨by decide, by decide⟩ dX10_work_10 ?_
  refine r_callSI (pc := 11) (avs := [Iv p0, Iv (stv 0 (0 : Int).toNat), Iv (stv 1 (0 : Int).toNat)]) (st := []) F (c_X10_isFrom μ p0 (stv 0 (0 : Int).toNat) (stv 1 (0 : Int).toNat) _ hb) (by decide) cal_X10_isFrom st_X10_isFrom lk_RX10_90 rfl rfl (Nat.le_of_ble_eq_true rfl) dX10_work_11 (fun r_1 μ_2 hb => ?_)
  refine r_if_ne (pc := 14) (tgt := 20) F dX10_work_14 (by decide) (fun c_3 => ?_) (fun c_3 => ?_)
  · have hb := hb.1 c_3
    refine r_aload_n (pc := 20) 0 F dX10_work_20 rfl rfl ?_
    refine gf_RX10_10 (pc := 21) F dX10_work_21 ?_
    refine gf_RX10_94 (pc := 24) F dX10_work_24 ?_
    refine r_bipush (pc := 27) F dX10_work_27 (inR_lit rfl) (by decide) ?_
    refine r_icmp_lt (pc := 29) (tgt := 35) F dX10_work_29 (by decide) (fun c_4 => ?_) (fun c_4 => ?_)
    · have hb := hb.1 c_4
      refine r_aload_n (pc := 35) 0 F dX10_work_35 rfl rfl ?_
      refine gf_RX10_10 (pc := 36) F dX10_work_36 ?_
      refine r_iload_n (pc := 39) 1 F dX10_work_39 rfl rfl ?_
      refine r_callI (pc := 40) (avs := [Iv p0]) (st := []) F (c_X9_add μ_2 p0 _ hb) (by decide) cal_X9_add calv_X9_add lk_RX10_98 rfl rfl (Nat.le_of_ble_eq_true rfl) dX10_work_40 (fun r_5 μ_6 hb => ?_)
      exact r_iret (pc := 43) F hR hr dX10_work_43 hb
    · have hb := hb.2 c_4
      refine r_bipush (pc := 32) F dX10_work_32 (inR_lit rfl) (by decide) ?_
      exact r_iret (pc := 34) F hR hr dX10_work_34 hb
  · have hb := hb.2 c_3
    refine r_bipush (pc := 17) F dX10_work_17 (inR_lit rfl) (by decide) ?_
    exact r_iret (pc := 19) F hR hr dX10_work_19 hb
set_option maxHeartbeats 4000000 in
set_option maxRecDepth 100000 in
theorem c_X11_allAhead {g : Wc} {l : Launch} (μ : Mem) (p0 : Int) (Post : Pst) (hb : wp_X11_allAhead μ p0 Post) : MtC g l yX11_allAhead cX11_allAhead 5 (some .int) 0 [Rv 11, Iv p0] μ (QI g Post) := by
  intro hok
  refine enter (own := RX11) (by decide) rfl (Nat.le_of_ble_eq_true rfl) hok (fun X hl F hr hR => ?_)
  subst hl
  show V g X 5 μ [(0, Rv 11), (1, Iv p0)] 0 []
  unfold wp_X11_allAhead at hb
  obtain ⟨G9, g9, f9⟩ : ∃ G : Mem → Int → Int → Prop, (∀ μ x2 x3, G μ x2 x3 → V g X 5 μ [(0, Rv 11), (2, Iv x2), (3, Iv x3)] 9 []) ∧ (∀ μ x2 x3, V g X 5 μ [(0, Rv 11), (2, Iv x2), (3, Iv x3)] 9 [] → G μ x2 x3) := ⟨fun μ x2 x3 => V g X 5 μ [(0, Rv 11), (2, Iv x2), (3, Iv x3)] 9 [], fun _ _ _ h => h, fun _ _ _ h => h⟩
  obtain ⟨G18, g18, f18⟩ : ∃ G : Mem → Int → Int → Int → Prop, (∀ μ x2 x3 x4, G μ x2 x3 x4 → V g X 5 μ [(0, Rv 11), (2, Iv x2), (3, Iv x3), (4, Iv x4)] 18 []) ∧ (∀ μ x2 x3 x4, V g X 5 μ [(0, Rv 11), (2, Iv x2), (3, Iv x3), (4, Iv x4)] 18 [] → G μ x2 x3 x4) := ⟨fun μ x2 x3 x4 => V g X 5 μ [(0, Rv 11), (2, Iv x2), (3, Iv x3), (4, Iv x4)] 18 [], fun _ _ _ _ h => h, fun _ _ _ _ h => h⟩
  have K49 : ∀ (μ : Mem) (x3 : Int) (x4 : Int) (s0 : Int) (s1 : Int), b_X11_allAhead_49 G9 G18 Post μ x3 x4 s0 s1 → V g X 5 μ [(0, Rv 11), (3, Iv x3), (4, Iv x4)] 49 [Iv s1, Iv s0] := by
    intro μ x3 x4 s0 s1 hb
    unfold b_X11_allAhead_49 at hb
    refine r_ior (pc := 49) F dX11_allAhead_49 ?_
    refine V.nmI (fun x_1 ex_1 => ?_)
    have hb := hb x_1 ex_1
    refine r_istore_n (pc := 50) (lv' := [(2, Iv x_1), (0, Rv 11), (3, Iv x3), (4, Iv x4)]) F dX11_allAhead_50 rfl (by decide) rfl ?_
    refine r_iincN (pc := 51) 3 (lf := fun x_2 => [(4, Iv x_2), (2, Iv x_1), (0, Rv 11), (3, Iv x3)]) F dX11_allAhead_51 rfl (by decide) rfl (fun x_2 ex_2 => ?_)
    have hb := hb x_2 ex_2
    refine r_goto (pc := 54) (tgt := 18) F dX11_allAhead_54 (by decide) ?_
    exact V.sub [2, 1, 3, 0] rfl (g18 μ x_1 x3 x_2 hb)
  have K9 : ∀ (μ : Mem) (x2 : Int) (x3 : Int), b_X11_allAhead_9 G9 G18 Post μ x2 x3 → V g X 5 μ [(0, Rv 11), (2, Iv x2), (3, Iv x3)] 9 [] := by
    intro μ x2 x3 hb
    unfold b_X11_allAhead_9 at hb
    refine r_iload_n (pc := 9) 2 F dX11_allAhead_9 rfl rfl ?_
    refine r_bipush (pc := 10) F dX11_allAhead_10 (inR_lit rfl) (by decide) ?_
    refine r_icmp_ge (pc := 12) (tgt := 63) F dX11_allAhead_12 (by decide) (fun c_3 => ?_) (fun c_3 => ?_)
    · have hb := hb.1 c_3
      refine r_iload_n (pc := 63) 1 F dX11_allAhead_63 rfl rfl ?_
      exact r_iret (pc := 64) F hR hr dX11_allAhead_64 hb
    · have hb := hb.2 c_3
      refine r_iconst (pc := 15) F dX11_allAhead_15 (inR_lit rfl) ?_
      refine r_istore (pc := 16) (lv' := [(4, Iv 0), (0, Rv 11), (2, Iv x2), (3, Iv x3)]) F dX11_allAhead_16 (by decide) rfl ?_
      exact V.sub [1, 2, 3, 0] rfl (g18 μ x2 x3 0 hb)
  have K18 : ∀ (μ : Mem) (x2 : Int) (x3 : Int) (x4 : Int), b_X11_allAhead_18 G9 G18 Post μ x2 x3 x4 → V g X 5 μ [(0, Rv 11), (2, Iv x2), (3, Iv x3), (4, Iv x4)] 18 [] := by
    intro μ x2 x3 x4 hb
    unfold b_X11_allAhead_18 at hb
    refine r_iload (pc := 18) 3 F dX11_allAhead_18 rfl ?_
    refine r_aload_n (pc := 20) 0 F dX11_allAhead_20 rfl rfl ?_
    refine gf_RX11_83 (pc := 21) F dX11_allAhead_21 ?_
    refine r_icmp_ge (pc := 24) (tgt := 57) F dX11_allAhead_24 (by decide) (fun c_4 => ?_) (fun c_4 => ?_)
    · have hb := hb.1 c_4
      refine r_iincN (pc := 57) 2 (lf := fun x_5 => [(3, Iv x_5), (0, Rv 11), (2, Iv x2), (4, Iv x4)]) F dX11_allAhead_57 rfl (by decide) rfl (fun x_5 ex_5 => ?_)
      have hb := hb x_5 ex_5
      refine r_goto (pc := 60) (tgt := 9) F dX11_allAhead_60 (by decide) ?_
      exact V.sub [1, 2, 0] rfl (g9 μ x2 x_5 hb)
    · have hb := hb.2 c_4
      refine r_iload_n (pc := 27) 1 F dX11_allAhead_27 rfl rfl ?_
      refine r_iload_n (pc := 28) 1 F dX11_allAhead_28 rfl rfl ?_
      refine r_iload (pc := 29) 3 F dX11_allAhead_29 rfl ?_
      refine r_ishr (pc := 31) F dX11_allAhead_31 ?_
      refine r_iconst (pc := 32) F dX11_allAhead_32 (inR_lit rfl) ?_
      refine r_iand (pc := 33) F dX11_allAhead_33 ?_
      refine r_iconst (pc := 34) F dX11_allAhead_34 (inR_lit rfl) ?_
      refine r_icmp_ne (pc := 35) (tgt := 48) F dX11_allAhead_35 (by decide) (fun c_6 => ?_) (fun c_6 => ?_)
      · have hb := hb.1 c_6
        refine r_iconst (pc := 48) F dX11_allAhead_48 (inR_lit rfl) ?_
        exact V.sub [0, 2, 3] rfl (K49 μ x3 x4 x2 0 hb)
      · have hb := hb.2 c_6
        refine r_aload_n (pc := 38) 0 F dX11_allAhead_38 rfl rfl ?_
        refine gf_RX11_25 (pc := 39) F dX11_allAhead_39 ?_
        refine r_iload (pc := 42) 3 F dX11_allAhead_42 rfl ?_
        have hg_7 := hb.1
        have hb := hb.2
        refine r_iald (pc := 44) F lc95.1 lc95.2.1 lc95.2.2 hg_7 dX11_allAhead_44 ?_
        refine r_goto (pc := 45) (tgt := 49) F dX11_allAhead_45 (by decide) ?_
        exact V.sub [0, 2, 3] rfl (K49 μ x3 x4 x2 (μ 95 x4.toNat) hb)
  have hb := hb G9 G18 (fun μ x2 x3 hb => f9 μ x2 x3 (K9 μ x2 x3 hb)) (fun μ x2 x3 x4 hb => f18 μ x2 x3 x4 (K18 μ x2 x3 x4 hb))
  unfold b_X11_allAhead_e at hb
  refine r_aload_n (pc := 0) 0 F dX11_allAhead_0 rfl rfl ?_
  refine gf_RX11_25 (pc := 1) F dX11_allAhead_1 ?_
  refine r_iload_n (pc := 4) 1 F dX11_allAhead_4 rfl rfl ?_
  have hg_8 := hb.1
  have hb := hb.2
  refine r_iald (pc := 5) F lc95.1 lc95.2.1 lc95.2.2 hg_8 dX11_allAhead_5 ?_
  refine V.nmI (fun x_9 ex_9 => ?_)
  have hb := hb x_9 ex_9
  refine r_istore_n (pc := 6) (lv' := [(2, Iv x_9), (0, Rv 11), (1, Iv p0)]) F dX11_allAhead_6 rfl (by decide) rfl ?_
  refine r_iconst (pc := 7) F dX11_allAhead_7 (inR_lit rfl) ?_
  refine r_istore_n (pc := 8) (lv' := [(3, Iv 0), (2, Iv x_9), (0, Rv 11), (1, Iv p0)]) F dX11_allAhead_8 rfl (by decide) rfl ?_
  exact V.sub [2, 1, 0] rfl (g9 μ x_9 0 hb)
set_option maxHeartbeats 4000000 in
set_option maxRecDepth 100000 in
theorem c_X11_in {g : Wc} {l : Launch} (μ : Mem) (p0 : Int) (p1 : Int) (p2 : Int) (Post : Pst) (hb : wp_X11_in μ p0 p1 p2 Post) : MtC g l yX11_in cX11_in 6 (some .boolean) 0 [Lv p0, Lv p1, Lv p2] μ (QI g Post) := by
  intro hok
  refine enter (own := RX11) (by decide) rfl (Nat.le_of_ble_eq_true rfl) hok (fun X hl F hr hR => ?_)
  subst hl
  show V g X 6 μ [(0, Lv p0), (2, Lv p1), (4, Lv p2)] 0 []
  unfold wp_X11_in at hb
  have hb := hb
  unfold b_X11_in_e at hb
  refine r_lload_n (pc := 0) 0 F dX11_in_0 rfl rfl ?_
  refine r_lload_n (pc := 1) 1 F dX11_in_1 rfl rfl ?_
  refine r_lcmp (pc := 2) F dX11_in_2 ?_
  refine r_if_lt (pc := 3) (tgt := 17) F dX11_in_3 (by decide) (fun c_1 => ?_) (fun c_1 => ?_)
  · have hb := hb.1 c_1
    refine r_iconst (pc := 17) F dX11_in_17 (inR_lit rfl) ?_
    exact r_zret (pc := 18) F hR hr dX11_in_18 (Or.inl rfl) hb
  · have hb := hb.2 c_1
    refine r_lload_n (pc := 6) 0 F dX11_in_6 rfl rfl ?_
    refine r_lload (pc := 7) 2 F dX11_in_7 rfl ?_
    refine r_lcmp (pc := 9) F dX11_in_9 ?_
    refine r_if_gt (pc := 10) (tgt := 17) F dX11_in_10 (by decide) (fun c_2 => ?_) (fun c_2 => ?_)
    · have hb := hb.1 c_2
      refine r_iconst (pc := 17) F dX11_in_17 (inR_lit rfl) ?_
      exact r_zret (pc := 18) F hR hr dX11_in_18 (Or.inl rfl) hb
    · have hb := hb.2 c_2
      refine r_iconst (pc := 13) F dX11_in_13 (inR_lit rfl) ?_
      refine r_goto (pc := 14) (tgt := 18) F dX11_in_14 (by decide) ?_
      exact r_zret (pc := 18) F hR hr dX11_in_18 (Or.inr rfl) hb
set_option maxHeartbeats 4000000 in
set_option maxRecDepth 100000 in
theorem c_X11_isWork {g : Wc} {l : Launch} (μ : Mem) (p0 : Int) (Post : Pst) (hb : wp_X11_isWork μ p0 Post) : MtC g l yX11_isWork cX11_isWork 2 (some .boolean) 1 [Rv 11, Iv p0] μ (QI g Post) := by
  intro hok
  refine enter (own := RX11) (by decide) rfl (Nat.le_of_ble_eq_true rfl) hok (fun X hl F hr hR => ?_)
  subst hl
  show V g X 2 μ [(0, Rv 11), (1, Iv p0)] 0 []
  unfold wp_X11_isWork at hb
  have hb := hb
  unfold b_X11_isWork_e at hb
  refine r_iload_n (pc := 0) 1 F dX11_isWork_0 rfl rfl ?_
  refine r_i2l (pc := 1) F dX11_isWork_1 ?_
  refine r_lconst (pc := 2) (x := 0) F dX11_isWork_2 (inRL_lit rfl) (by decide) ?_
  refine r_aload_n (pc := 3) 0 F dX11_isWork_3 rfl rfl ?_
  refine gf_RX11_83 (pc := 4) F dX11_isWork_4 ?_
  refine r_iconst (pc := 7) F dX11_isWork_7 (inR_lit rfl) ?_
  refine r_isub (pc := 8) F dX11_isWork_8 ?_
  refine r_i2l (pc := 9) F dX11_isWork_9 ?_
  refine r_callSI (pc := 10) (avs := [Lv p0, Lv 0, Lv (wrap ((μ 11 0) - 1))]) (st := []) F (c_X11_in μ p0 0 (wrap ((μ 11 0) - 1)) _ hb) (by decide) cal_X11_in st_X11_in lk_RX11_86 rfl rfl (Nat.le_of_ble_eq_true rfl) dX11_isWork_10 (fun r_1 μ_2 hb => ?_)
  exact r_zret (pc := 13) F hR hr dX11_isWork_13 hb.1 hb.2
set_option maxHeartbeats 4000000 in
set_option maxRecDepth 100000 in
theorem c_X11_ahead {g : Wc} {l : Launch} (μ : Mem) (p0 : Int) (p1 : Int) (p2 : Int) (Post : Pst) (hb : wp_X11_ahead μ p0 p1 p2 Post) : MtC g l yX11_ahead cX11_ahead 5 (some .int) 2 [Rv 11, Iv p0, Iv p1, Iv p2] μ (QI g Post) := by
  intro hok
  refine enter (own := RX11) (by decide) rfl (Nat.le_of_ble_eq_true rfl) hok (fun X hl F hr hR => ?_)
  subst hl
  show V g X 5 μ [(0, Rv 11), (1, Iv p0), (2, Iv p1), (3, Iv p2)] 0 []
  unfold wp_X11_ahead at hb
  have K71 : ∀ (μ : Mem) (x1 : Int) (x2 : Int), b_X11_ahead_71 Post μ x1 x2 → V g X 5 μ [(0, Rv 11), (1, Iv x1), (2, Iv x2)] 71 [] := by
    intro μ x1 x2 hb
    unfold b_X11_ahead_71 at hb
    refine r_aload_n (pc := 71) 0 F dX11_ahead_71 rfl rfl ?_
    refine gf_RX11_25 (pc := 72) F dX11_ahead_72 ?_
    refine r_iload_n (pc := 75) 2 F dX11_ahead_75 rfl rfl ?_
    refine r_aload_n (pc := 76) 0 F dX11_ahead_76 rfl rfl ?_
    refine gf_RX11_25 (pc := 77) F dX11_ahead_77 ?_
    refine r_iload_n (pc := 80) 2 F dX11_ahead_80 rfl rfl ?_
    have hg_1 := hb.1
    have hb := hb.2
    refine r_iald (pc := 81) F lc95.1 lc95.2.1 lc95.2.2 hg_1 dX11_ahead_81 ?_
    refine r_iconst (pc := 82) F dX11_ahead_82 (inR_lit rfl) ?_
    refine r_iload_n (pc := 83) 1 F dX11_ahead_83 rfl rfl ?_
    refine r_ishl (pc := 84) F dX11_ahead_84 ?_
    refine r_ixor (pc := 85) F dX11_ahead_85 ?_
    have hg_2 := hb.1
    have hb := hb.2
    refine r_iast (pc := 86) F lc95.1 lc95.2.1 lc95.2.2 hg_2 dX11_ahead_86 ?_
    refine V.nmM (fun μ_3 eμ_3 => ?_)
    have hb := hb μ_3 eμ_3
    refine r_iconst (pc := 87) F dX11_ahead_87 (inR_lit rfl) ?_
    exact r_iret (pc := 88) F hR hr dX11_ahead_88 hb
  have K43 : ∀ (μ : Mem) (x1 : Int) (x2 : Int) (x3 : Int) (s0 : Int), b_X11_ahead_43 Post μ x1 x2 x3 s0 → V g X 5 μ [(0, Rv 11), (1, Iv x1), (2, Iv x2), (3, Iv x3)] 43 [Iv s0] := by
    intro μ x1 x2 x3 s0 hb
    unfold b_X11_ahead_43 at hb
    refine r_istore (pc := 43) (lv' := [(4, Iv s0), (0, Rv 11), (1, Iv x1), (2, Iv x2), (3, Iv x3)]) F dX11_ahead_43 (by decide) rfl ?_
    refine r_iload (pc := 45) 0 F dX11_ahead_45 rfl ?_
    refine r_iload_n (pc := 47) 4 F dX11_ahead_47 rfl rfl ?_
    refine r_icmp_eq (pc := 48) (tgt := 68) F dX11_ahead_48 (by decide) (fun c_4 => ?_) (fun c_4 => ?_)
    · have hb := hb.1 c_4
      refine r_bipush (pc := 68) F dX11_ahead_68 (inR_lit rfl) (by decide) ?_
      exact r_iret (pc := 70) F hR hr dX11_ahead_70 hb
    · have hb := hb.2 c_4
      refine r_iload_n (pc := 51) 4 F dX11_ahead_51 rfl rfl ?_
      refine r_if_eq (pc := 52) (tgt := 71) F dX11_ahead_52 (by decide) (fun c_5 => ?_) (fun c_5 => ?_)
      · have hb := hb.1 c_5
        exact V.sub [1, 2, 3] rfl (K71 μ x1 x2 hb)
      · have hb := hb.2 c_5
        refine r_aload_n (pc := 55) 1 F dX11_ahead_55 rfl rfl ?_
        refine r_iload_n (pc := 56) 2 F dX11_ahead_56 rfl rfl ?_
        refine r_callI (pc := 57) (avs := [Iv x1]) (st := []) F (c_X11_allAhead μ x1 _ hb) (by decide) cal_X11_allAhead calv_X11_allAhead lk_RX11_106 rfl rfl (Nat.le_of_ble_eq_true rfl) dX11_ahead_57 (fun r_6 μ_7 hb => ?_)
        refine r_iload_n (pc := 60) 3 F dX11_ahead_60 rfl rfl ?_
        refine r_ishr (pc := 61) F dX11_ahead_61 ?_
        refine r_iconst (pc := 62) F dX11_ahead_62 (inR_lit rfl) ?_
        refine r_iand (pc := 63) F dX11_ahead_63 ?_
        refine r_iconst (pc := 64) F dX11_ahead_64 (inR_lit rfl) ?_
        refine r_icmp_ne (pc := 65) (tgt := 71) F dX11_ahead_65 (by decide) (fun c_8 => ?_) (fun c_8 => ?_)
        · have hb := hb.1 c_8
          exact V.sub [1, 2, 3] rfl (K71 μ_7 x1 x2 hb)
        · have hb := hb.2 c_8
          refine r_bipush (pc := 68) F dX11_ahead_68 (inR_lit rfl) (by decide) ?_
          exact r_iret (pc := 70) F hR hr dX11_ahead_70 hb
  have hb := hb
  unfold b_X11_ahead_e at hb
  refine r_aload_n (pc := 0) 0 F dX11_ahead_0 rfl rfl ?_
  refine r_iload_n (pc := 1) 1 F dX11_ahead_1 rfl rfl ?_
  refine r_callI (pc := 2) (avs := [Iv p0]) (st := []) F (c_X11_isWork μ p0 _ hb) (by decide) cal_X11_isWork calv_X11_isWork lk_RX11_92 rfl rfl (Nat.le_of_ble_eq_true rfl) dX11_ahead_2 (fun r_9 μ_10 hb => ?_)
  refine r_if_eq (pc := 5) (tgt := 21) F dX11_ahead_5 (by decide) (fun c_11 => ?_) (fun c_11 => ?_)
  · have hb := hb.1 c_11
    refine r_bipush (pc := 21) F dX11_ahead_21 (inR_lit rfl) (by decide) ?_
    exact r_iret (pc := 23) F hR hr dX11_ahead_23 hb
  · have hb := hb.2 c_11
    refine r_aload_n (pc := 8) 0 F dX11_ahead_8 rfl rfl ?_
    refine r_iload_n (pc := 9) 2 F dX11_ahead_9 rfl rfl ?_
    refine r_callI (pc := 10) (avs := [Iv p1]) (st := []) F (c_X11_isWork μ_10 p1 _ hb) (by decide) cal_X11_isWork calv_X11_isWork lk_RX11_92 rfl rfl (Nat.le_of_ble_eq_true rfl) dX11_ahead_10 (fun r_12 μ_13 hb => ?_)
    refine r_if_eq (pc := 13) (tgt := 21) F dX11_ahead_13 (by decide) (fun c_14 => ?_) (fun c_14 => ?_)
    · have hb := hb.1 c_14
      refine r_bipush (pc := 21) F dX11_ahead_21 (inR_lit rfl) (by decide) ?_
      exact r_iret (pc := 23) F hR hr dX11_ahead_23 hb
    · have hb := hb.2 c_14
      refine r_iload_n (pc := 16) 1 F dX11_ahead_16 rfl rfl ?_
      refine r_iload_n (pc := 17) 2 F dX11_ahead_17 rfl rfl ?_
      refine r_icmp_ne (pc := 18) (tgt := 24) F dX11_ahead_18 (by decide) (fun c_15 => ?_) (fun c_15 => ?_)
      · have hb := hb.1 c_15
        refine r_aload_n (pc := 24) 0 F dX11_ahead_24 rfl rfl ?_
        refine gf_RX11_25 (pc := 25) F dX11_ahead_25 ?_
        refine r_iload_n (pc := 28) 2 F dX11_ahead_28 rfl rfl ?_
        have hg_16 := hb.1
        have hb := hb.2
        refine r_iald (pc := 29) F lc95.1 lc95.2.1 lc95.2.2 hg_16 dX11_ahead_29 ?_
        refine r_iload_n (pc := 30) 1 F dX11_ahead_30 rfl rfl ?_
        refine r_ishr (pc := 31) F dX11_ahead_31 ?_
        refine r_iconst (pc := 32) F dX11_ahead_32 (inR_lit rfl) ?_
        refine r_iand (pc := 33) F dX11_ahead_33 ?_
        refine r_iconst (pc := 34) F dX11_ahead_34 (inR_lit rfl) ?_
        refine r_icmp_ne (pc := 35) (tgt := 42) F dX11_ahead_35 (by decide) (fun c_17 => ?_) (fun c_17 => ?_)
        · have hb := hb.1 c_17
          refine r_iconst (pc := 42) F dX11_ahead_42 (inR_lit rfl) ?_
          exact V.sub [0, 1, 2, 3] rfl (K43 μ_13 p0 p1 p2 0 hb)
        · have hb := hb.2 c_17
          refine r_iconst (pc := 38) F dX11_ahead_38 (inR_lit rfl) ?_
          refine r_goto (pc := 39) (tgt := 43) F dX11_ahead_39 (by decide) ?_
          exact V.sub [0, 1, 2, 3] rfl (K43 μ_13 p0 p1 p2 1 hb)
      · have hb := hb.2 c_15
        refine r_bipush (pc := 21) F dX11_ahead_21 (inR_lit rfl) (by decide) ?_
        exact r_iret (pc := 23) F hR hr dX11_ahead_23 hb
set_option maxHeartbeats 4000000 in
set_option maxRecDepth 100000 in
theorem c_X11_allMinutes {g : Wc} {l : Launch} (μ : Mem) (p0 : Int) (Post : Pst) (hb : wp_X11_allMinutes μ p0 Post) : MtC g l yX11_allMinutes cX11_allMinutes 4 (some .int) 0 [Rv 11, Iv p0] μ (QI g Post) := by
  intro hok
  refine enter (own := RX11) (by decide) rfl (Nat.le_of_ble_eq_true rfl) hok (fun X hl F hr hR => ?_)
  subst hl
  show V g X 4 μ [(0, Rv 11), (1, Iv p0)] 0 []
  unfold wp_X11_allMinutes at hb
  obtain ⟨G4, g4, f4⟩ : ∃ G : Mem → Int → Int → Int → Prop, (∀ μ x1 x2 x3, G μ x1 x2 x3 → V g X 4 μ [(0, Rv 11), (1, Iv x1), (2, Iv x2), (3, Iv x3)] 4 []) ∧ (∀ μ x1 x2 x3, V g X 4 μ [(0, Rv 11), (1, Iv x1), (2, Iv x2), (3, Iv x3)] 4 [] → G μ x1 x2 x3) := ⟨fun μ x1 x2 x3 => V g X 4 μ [(0, Rv 11), (1, Iv x1), (2, Iv x2), (3, Iv x3)] 4 [], fun _ _ _ _ h => h, fun _ _ _ _ h => h⟩
  have K4 : ∀ (μ : Mem) (x1 : Int) (x2 : Int) (x3 : Int), b_X11_allMinutes_4 G4 Post μ x1 x2 x3 → V g X 4 μ [(0, Rv 11), (1, Iv x1), (2, Iv x2), (3, Iv x3)] 4 [] := by
    intro μ x1 x2 x3 hb
    unfold b_X11_allMinutes_4 at hb
    refine r_iload_n (pc := 4) 3 F dX11_allMinutes_4 rfl rfl ?_
    refine r_aload_n (pc := 5) 0 F dX11_allMinutes_5 rfl rfl ?_
    refine gf_RX11_47 (pc := 6) F dX11_allMinutes_6 ?_
    refine r_iload_n (pc := 9) 1 F dX11_allMinutes_9 rfl rfl ?_
    have hg_1 := hb.1
    have hb := hb.2
    refine r_iald (pc := 10) F lc101.1 lc101.2.1 lc101.2.2 hg_1 dX11_allMinutes_10 ?_
    refine r_icmp_ge (pc := 11) (tgt := 38) F dX11_allMinutes_11 (by decide) (fun c_2 => ?_) (fun c_2 => ?_)
    · have hb := hb.1 c_2
      refine r_iload_n (pc := 38) 2 F dX11_allMinutes_38 rfl rfl ?_
      exact r_iret (pc := 39) F hR hr dX11_allMinutes_39 hb
    · have hb := hb.2 c_2
      refine r_iload_n (pc := 14) 2 F dX11_allMinutes_14 rfl rfl ?_
      refine r_aload_n (pc := 15) 0 F dX11_allMinutes_15 rfl rfl ?_
      refine gf_RX11_44 (pc := 16) F dX11_allMinutes_16 ?_
      refine r_bipush (pc := 19) F dX11_allMinutes_19 (inR_lit rfl) (by decide) ?_
      refine r_iload_n (pc := 21) 1 F dX11_allMinutes_21 rfl rfl ?_
      refine r_imul (pc := 22) F dX11_allMinutes_22 ?_
      refine r_iconst (pc := 23) F dX11_allMinutes_23 (inR_lit rfl) ?_
      refine r_iload_n (pc := 24) 3 F dX11_allMinutes_24 rfl rfl ?_
      refine r_imul (pc := 25) F dX11_allMinutes_25 ?_
      refine r_iadd (pc := 26) F dX11_allMinutes_26 ?_
      refine r_iconst (pc := 27) F dX11_allMinutes_27 (inR_lit rfl) ?_
      refine r_iadd (pc := 28) F dX11_allMinutes_28 ?_
      have hg_3 := hb.1
      have hb := hb.2
      refine r_iald (pc := 29) F lc100.1 lc100.2.1 lc100.2.2 hg_3 dX11_allMinutes_29 ?_
      refine r_iadd (pc := 30) F dX11_allMinutes_30 ?_
      refine V.nmI (fun x_4 ex_4 => ?_)
      have hb := hb x_4 ex_4
      refine r_istore_n (pc := 31) (lv' := [(2, Iv x_4), (0, Rv 11), (1, Iv x1), (3, Iv x3)]) F dX11_allMinutes_31 rfl (by decide) rfl ?_
      refine r_iincN (pc := 32) 3 (lf := fun x_5 => [(3, Iv x_5), (2, Iv x_4), (0, Rv 11), (1, Iv x1)]) F dX11_allMinutes_32 rfl (by decide) rfl (fun x_5 ex_5 => ?_)
      have hb := hb x_5 ex_5
      refine r_goto (pc := 35) (tgt := 4) F dX11_allMinutes_35 (by decide) ?_
      exact V.sub [2, 3, 1, 0] rfl (g4 μ x1 x_4 x_5 hb)
  have hb := hb G4 (fun μ x1 x2 x3 hb => f4 μ x1 x2 x3 (K4 μ x1 x2 x3 hb))
  unfold b_X11_allMinutes_e at hb
  refine r_iconst (pc := 0) F dX11_allMinutes_0 (inR_lit rfl) ?_
  refine r_istore_n (pc := 1) (lv' := [(2, Iv 0), (0, Rv 11), (1, Iv p0)]) F dX11_allMinutes_1 rfl (by decide) rfl ?_
  refine r_iconst (pc := 2) F dX11_allMinutes_2 (inR_lit rfl) ?_
  refine r_istore_n (pc := 3) (lv' := [(3, Iv 0), (2, Iv 0), (0, Rv 11), (1, Iv p0)]) F dX11_allMinutes_3 rfl (by decide) rfl ?_
  exact V.sub [2, 3, 1, 0] rfl (g4 μ p0 0 0 hb)
set_option maxHeartbeats 4000000 in
set_option maxRecDepth 100000 in
theorem c_X11_anew {g : Wc} {l : Launch} (μ : Mem) (Post : Pst) (hb : wp_X11_anew μ Post) : MtC g l yX11_anew cX11_anew 2 (some .int) 0 [Rv 11] μ (QI g Post) := by
  intro hok
  refine enter (own := RX11) (by decide) rfl (Nat.le_of_ble_eq_true rfl) hok (fun X hl F hr hR => ?_)
  subst hl
  show V g X 2 μ [(0, Rv 11)] 0 []
  unfold wp_X11_anew at hb
  have hb := hb
  unfold b_X11_anew_e at hb
  refine r_aload_n (pc := 0) 0 F dX11_anew_0 rfl rfl ?_
  refine gf_RX11_151 (pc := 1) F dX11_anew_1 ?_
  refine V.nmI (fun x_1 ex_1 => ?_)
  have hb := hb x_1 ex_1
  refine r_istore_n (pc := 4) (lv' := [(1, Iv x_1), (0, Rv 11)]) F dX11_anew_4 rfl (by decide) rfl ?_
  refine r_aload_n (pc := 5) 1 F dX11_anew_5 rfl rfl ?_
  refine r_iconst (pc := 6) F dX11_anew_6 (inR_lit rfl) ?_
  refine pf_RX11_151 (pc := 7) F dX11_anew_7 ?_
  refine V.nmM (fun μ_2 eμ_2 => ?_)
  have hb := hb μ_2 eμ_2
  refine r_iload_n (pc := 10) 0 F dX11_anew_10 rfl rfl ?_
  exact r_iret (pc := 11) F hR hr dX11_anew_11 hb
set_option maxHeartbeats 4000000 in
set_option maxRecDepth 100000 in
theorem c_X11_any {g : Wc} {l : Launch} (μ : Mem) (Post : Pst) (hb : wp_X11_any μ Post) : MtC g l yX11_any cX11_any 6 (some .int) 0 [Rv 11] μ (QI g Post) := by
  intro hok
  refine enter (own := RX11) (by decide) rfl (Nat.le_of_ble_eq_true rfl) hok (fun X hl F hr hR => ?_)
  subst hl
  show V g X 6 μ [(0, Rv 11)] 0 []
  unfold wp_X11_any at hb
  obtain ⟨G9, g9, f9⟩ : ∃ G : Mem → Int → Int → Int → Int → Prop, (∀ μ x1 x2 x3 x4, G μ x1 x2 x3 x4 → V g X 6 μ [(0, Rv 11), (1, Iv x1), (2, Iv x2), (3, Iv x3), (4, Iv x4)] 9 []) ∧ (∀ μ x1 x2 x3 x4, V g X 6 μ [(0, Rv 11), (1, Iv x1), (2, Iv x2), (3, Iv x3), (4, Iv x4)] 9 [] → G μ x1 x2 x3 x4) := ⟨fun μ x1 x2 x3 x4 => V g X 6 μ [(0, Rv 11), (1, Iv x1), (2, Iv x2), (3, Iv x3), (4, Iv x4)] 9 [], fun _ _ _ _ _ h => h, fun _ _ _ _ _ h => h⟩
  have K79 : ∀ (μ : Mem) (x1 : Int) (x2 : Int) (x4 : Int) (s0 : Int), b_X11_any_79 G9 Post μ x1 x2 x4 s0 → V g X 6 μ [(0, Rv 11), (1, Iv x1), (2, Iv x2), (4, Iv x4)] 79 [Iv s0] := by
    intro μ x1 x2 x4 s0 hb
    unfold b_X11_any_79 at hb
    refine r_istore_n (pc := 79) (lv' := [(3, Iv s0), (0, Rv 11), (1, Iv x1), (2, Iv x2), (4, Iv x4)]) F dX11_any_79 rfl (by decide) rfl ?_
    refine r_iincN (pc := 80) 4 (lf := fun x_1 => [(4, Iv x_1), (3, Iv s0), (0, Rv 11), (1, Iv x1), (2, Iv x2)]) F dX11_any_80 rfl (by decide) rfl (fun x_1 ex_1 => ?_)
    have hb := hb x_1 ex_1
    refine r_goto (pc := 83) (tgt := 9) F dX11_any_83 (by decide) ?_
    exact V.sub [2, 3, 4, 1, 0] rfl (g9 μ x1 x2 s0 x_1 hb)
  have K96 : ∀ (μ : Mem) (x2 : Int) (s0 : Int), b_X11_any_96 G9 Post μ x2 s0 → V g X 6 μ [(2, Iv x2)] 96 [Iv s0] := by
    intro μ x2 s0 hb
    unfold b_X11_any_96 at hb
    refine r_istore_n (pc := 96) (lv' := [(3, Iv s0), (2, Iv x2)]) F dX11_any_96 rfl (by decide) rfl ?_
    refine r_iload_n (pc := 97) 1 F dX11_any_97 rfl rfl ?_
    refine r_iload_n (pc := 98) 0 F dX11_any_98 rfl rfl ?_
    refine r_icmp_le (pc := 99) (tgt := 106) F dX11_any_99 (by decide) (fun c_2 => ?_) (fun c_2 => ?_)
    · have hb := hb.1 c_2
      refine r_iload_n (pc := 106) 0 F dX11_any_106 rfl rfl ?_
      exact r_iret (pc := 107) F hR hr dX11_any_107 hb
    · have hb := hb.2 c_2
      refine r_iload_n (pc := 102) 1 F dX11_any_102 rfl rfl ?_
      refine r_goto (pc := 103) (tgt := 107) F dX11_any_103 (by decide) ?_
      exact r_iret (pc := 107) F hR hr dX11_any_107 hb
  have K9 : ∀ (μ : Mem) (x1 : Int) (x2 : Int) (x3 : Int) (x4 : Int), b_X11_any_9 G9 Post μ x1 x2 x3 x4 → V g X 6 μ [(0, Rv 11), (1, Iv x1), (2, Iv x2), (3, Iv x3), (4, Iv x4)] 9 [] := by
    intro μ x1 x2 x3 x4 hb
    unfold b_X11_any_9 at hb
    refine r_iload (pc := 9) 4 F dX11_any_9 rfl ?_
    refine r_aload_n (pc := 11) 0 F dX11_any_11 rfl rfl ?_
    refine gf_RX11_83 (pc := 12) F dX11_any_12 ?_
    refine r_icmp_ge (pc := 15) (tgt := 86) F dX11_any_15 (by decide) (fun c_3 => ?_) (fun c_3 => ?_)
    · have hb := hb.1 c_3
      refine r_iload_n (pc := 86) 1 F dX11_any_86 rfl rfl ?_
      refine r_iload_n (pc := 87) 3 F dX11_any_87 rfl rfl ?_
      refine r_icmp_le (pc := 88) (tgt := 95) F dX11_any_88 (by decide) (fun c_4 => ?_) (fun c_4 => ?_)
      · have hb := hb.1 c_4
        refine r_iload_n (pc := 95) 3 F dX11_any_95 rfl rfl ?_
        exact V.sub [2] rfl (K96 μ x2 x3 hb)
      · have hb := hb.2 c_4
        refine r_iload_n (pc := 91) 1 F dX11_any_91 rfl rfl ?_
        refine r_goto (pc := 92) (tgt := 96) F dX11_any_92 (by decide) ?_
        exact V.sub [2] rfl (K96 μ x2 x1 hb)
    · have hb := hb.2 c_3
      refine r_iload_n (pc := 18) 1 F dX11_any_18 rfl rfl ?_
      refine r_aload_n (pc := 19) 0 F dX11_any_19 rfl rfl ?_
      refine gf_RX11_31 (pc := 20) F dX11_any_20 ?_
      refine r_iconst (pc := 23) F dX11_any_23 (inR_lit rfl) ?_
      refine r_iload (pc := 24) 4 F dX11_any_24 rfl ?_
      refine r_imul (pc := 26) F dX11_any_26 ?_
      have hg_5 := hb.1
      have hb := hb.2
      refine r_iald (pc := 27) F lc97.1 lc97.2.1 lc97.2.2 hg_5 dX11_any_27 ?_
      refine r_iadd (pc := 28) F dX11_any_28 ?_
      refine V.nmI (fun x_6 ex_6 => ?_)
      have hb := hb x_6 ex_6
      refine r_istore_n (pc := 29) (lv' := [(1, Iv x_6), (0, Rv 11), (2, Iv x2), (3, Iv x3), (4, Iv x4)]) F dX11_any_29 rfl (by decide) rfl ?_
      refine r_iload_n (pc := 30) 2 F dX11_any_30 rfl rfl ?_
      refine r_aload_n (pc := 31) 1 F dX11_any_31 rfl rfl ?_
      refine gf_RX11_31 (pc := 32) F dX11_any_32 ?_
      refine r_iconst (pc := 35) F dX11_any_35 (inR_lit rfl) ?_
      refine r_iload (pc := 36) 4 F dX11_any_36 rfl ?_
      refine r_imul (pc := 38) F dX11_any_38 ?_
      refine r_iconst (pc := 39) F dX11_any_39 (inR_lit rfl) ?_
      refine r_iadd (pc := 40) F dX11_any_40 ?_
      have hg_7 := hb.1
      have hb := hb.2
      refine r_iald (pc := 41) F lc97.1 lc97.2.1 lc97.2.2 hg_7 dX11_any_41 ?_
      refine r_iadd (pc := 42) F dX11_any_42 ?_
      refine V.nmI (fun x_8 ex_8 => ?_)
      have hb := hb x_8 ex_8
      refine r_istore_n (pc := 43) (lv' := [(2, Iv x_8), (1, Iv x_6), (0, Rv 11), (3, Iv x3), (4, Iv x4)]) F dX11_any_43 rfl (by decide) rfl ?_
      refine r_aload_n (pc := 44) 2 F dX11_any_44 rfl rfl ?_
      refine gf_RX11_31 (pc := 45) F dX11_any_45 ?_
      refine r_iconst (pc := 48) F dX11_any_48 (inR_lit rfl) ?_
      refine r_iload (pc := 49) 4 F dX11_any_49 rfl ?_
      refine r_imul (pc := 51) F dX11_any_51 ?_
      have hg_9 := hb.1
      have hb := hb.2
      refine r_iald (pc := 52) F lc97.1 lc97.2.1 lc97.2.2 hg_9 dX11_any_52 ?_
      refine r_aload_n (pc := 53) 2 F dX11_any_53 rfl rfl ?_
      refine gf_RX11_31 (pc := 54) F dX11_any_54 ?_
      refine r_iconst (pc := 57) F dX11_any_57 (inR_lit rfl) ?_
      refine r_iload (pc := 58) 4 F dX11_any_58 rfl ?_
      refine r_imul (pc := 60) F dX11_any_60 ?_
      refine r_iconst (pc := 61) F dX11_any_61 (inR_lit rfl) ?_
      refine r_iadd (pc := 62) F dX11_any_62 ?_
      have hg_10 := hb.1
      have hb := hb.2
      refine r_iald (pc := 63) F lc97.1 lc97.2.1 lc97.2.2 hg_10 dX11_any_63 ?_
      refine r_iadd (pc := 64) F dX11_any_64 ?_
      refine V.nmI (fun x_11 ex_11 => ?_)
      have hb := hb x_11 ex_11
      refine r_istore (pc := 65) (lv' := [(5, Iv x_11), (2, Iv x_8), (1, Iv x_6), (0, Rv 11), (3, Iv x3), (4, Iv x4)]) F dX11_any_65 (by decide) rfl ?_
      refine r_iload (pc := 67) 0 F dX11_any_67 rfl ?_
      refine r_iload_n (pc := 69) 4 F dX11_any_69 rfl rfl ?_
      refine r_icmp_le (pc := 70) (tgt := 78) F dX11_any_70 (by decide) (fun c_12 => ?_) (fun c_12 => ?_)
      · have hb := hb.1 c_12
        refine r_iload_n (pc := 78) 4 F dX11_any_78 rfl rfl ?_
        exact V.sub [3, 2, 1, 5] rfl (K79 μ x_6 x_8 x4 x3 hb)
      · have hb := hb.2 c_12
        refine r_iload (pc := 73) 0 F dX11_any_73 rfl ?_
        refine r_goto (pc := 75) (tgt := 79) F dX11_any_75 (by decide) ?_
        exact V.sub [3, 2, 1, 5] rfl (K79 μ x_6 x_8 x4 x_11 hb)
  have hb := hb G9 (fun μ x1 x2 x3 x4 hb => f9 μ x1 x2 x3 x4 (K9 μ x1 x2 x3 x4 hb))
  unfold b_X11_any_e at hb
  refine r_iconst (pc := 0) F dX11_any_0 (inR_lit rfl) ?_
  refine r_istore_n (pc := 1) (lv' := [(1, Iv 0), (0, Rv 11)]) F dX11_any_1 rfl (by decide) rfl ?_
  refine r_iconst (pc := 2) F dX11_any_2 (inR_lit rfl) ?_
  refine r_istore_n (pc := 3) (lv' := [(2, Iv 0), (1, Iv 0), (0, Rv 11)]) F dX11_any_3 rfl (by decide) rfl ?_
  refine r_iconst (pc := 4) F dX11_any_4 (inR_lit rfl) ?_
  refine r_istore_n (pc := 5) (lv' := [(3, Iv 0), (2, Iv 0), (1, Iv 0), (0, Rv 11)]) F dX11_any_5 rfl (by decide) rfl ?_
  refine r_iconst (pc := 6) F dX11_any_6 (inR_lit rfl) ?_
  refine r_istore (pc := 7) (lv' := [(4, Iv 0), (3, Iv 0), (2, Iv 0), (1, Iv 0), (0, Rv 11)]) F dX11_any_7 (by decide) rfl ?_
  exact V.sub [4, 3, 2, 1, 0] rfl (g9 μ 0 0 0 0 hb)
set_option maxHeartbeats 4000000 in
set_option maxRecDepth 100000 in
theorem c_X11_benchAt {g : Wc} {l : Launch} (μ : Mem) (p0 : Int) (p1 : Int) (Post : Pst) (hb : wp_X11_benchAt μ p0 p1 Post) : MtC g l yX11_benchAt cX11_benchAt 5 (some .int) 0 [Rv 11, Iv p0, Iv p1] μ (QI g Post) := by
  intro hok
  refine enter (own := RX11) (by decide) rfl (Nat.le_of_ble_eq_true rfl) hok (fun X hl F hr hR => ?_)
  subst hl
  show V g X 5 μ [(0, Rv 11), (1, Iv p0), (2, Iv p1)] 0 []
  unfold wp_X11_benchAt at hb
  obtain ⟨G5, g5, f5⟩ : ∃ G : Mem → Int → Int → Int → Prop, (∀ μ x1 x3 x4, G μ x1 x3 x4 → V g X 5 μ [(0, Rv 11), (1, Iv x1), (3, Iv x3), (4, Iv x4)] 5 []) ∧ (∀ μ x1 x3 x4, V g X 5 μ [(0, Rv 11), (1, Iv x1), (3, Iv x3), (4, Iv x4)] 5 [] → G μ x1 x3 x4) := ⟨fun μ x1 x3 x4 => V g X 5 μ [(0, Rv 11), (1, Iv x1), (3, Iv x3), (4, Iv x4)] 5 [], fun _ _ _ _ h => h, fun _ _ _ _ h => h⟩
  have K5 : ∀ (μ : Mem) (x1 : Int) (x3 : Int) (x4 : Int), b_X11_benchAt_5 G5 Post μ x1 x3 x4 → V g X 5 μ [(0, Rv 11), (1, Iv x1), (3, Iv x3), (4, Iv x4)] 5 [] := by
    intro μ x1 x3 x4 hb
    unfold b_X11_benchAt_5 at hb
    refine r_iload_n (pc := 5) 2 F dX11_benchAt_5 rfl rfl ?_
    refine r_aload_n (pc := 6) 0 F dX11_benchAt_6 rfl rfl ?_
    refine gf_RX11_44 (pc := 7) F dX11_benchAt_7 ?_
    refine r_bipush (pc := 10) F dX11_benchAt_10 (inR_lit rfl) (by decide) ?_
    refine r_iload_n (pc := 12) 1 F dX11_benchAt_12 rfl rfl ?_
    refine r_imul (pc := 13) F dX11_benchAt_13 ?_
    refine r_iconst (pc := 14) F dX11_benchAt_14 (inR_lit rfl) ?_
    refine r_iload (pc := 15) 3 F dX11_benchAt_15 rfl ?_
    refine r_imul (pc := 17) F dX11_benchAt_17 ?_
    refine r_iadd (pc := 18) F dX11_benchAt_18 ?_
    refine r_iconst (pc := 19) F dX11_benchAt_19 (inR_lit rfl) ?_
    refine r_iadd (pc := 20) F dX11_benchAt_20 ?_
    have hg_1 := hb.1
    have hb := hb.2
    refine r_iald (pc := 21) F lc100.1 lc100.2.1 lc100.2.2 hg_1 dX11_benchAt_21 ?_
    refine r_icmp_lt (pc := 22) (tgt := 50) F dX11_benchAt_22 (by decide) (fun c_2 => ?_) (fun c_2 => ?_)
    · have hb := hb.1 c_2
      refine r_aload_n (pc := 50) 0 F dX11_benchAt_50 rfl rfl ?_
      refine gf_RX11_44 (pc := 51) F dX11_benchAt_51 ?_
      refine r_bipush (pc := 54) F dX11_benchAt_54 (inR_lit rfl) (by decide) ?_
      refine r_iload_n (pc := 56) 1 F dX11_benchAt_56 rfl rfl ?_
      refine r_imul (pc := 57) F dX11_benchAt_57 ?_
      refine r_iconst (pc := 58) F dX11_benchAt_58 (inR_lit rfl) ?_
      refine r_iload (pc := 59) 3 F dX11_benchAt_59 rfl ?_
      refine r_imul (pc := 61) F dX11_benchAt_61 ?_
      refine r_iadd (pc := 62) F dX11_benchAt_62 ?_
      have hg_3 := hb.1
      have hb := hb.2
      refine r_iald (pc := 63) F lc100.1 lc100.2.1 lc100.2.2 hg_3 dX11_benchAt_63 ?_
      exact r_iret (pc := 64) F hR hr dX11_benchAt_64 hb
    · have hb := hb.2 c_2
      refine r_iload_n (pc := 25) 2 F dX11_benchAt_25 rfl rfl ?_
      refine r_aload_n (pc := 26) 0 F dX11_benchAt_26 rfl rfl ?_
      refine gf_RX11_44 (pc := 27) F dX11_benchAt_27 ?_
      refine r_bipush (pc := 30) F dX11_benchAt_30 (inR_lit rfl) (by decide) ?_
      refine r_iload_n (pc := 32) 1 F dX11_benchAt_32 rfl rfl ?_
      refine r_imul (pc := 33) F dX11_benchAt_33 ?_
      refine r_iconst (pc := 34) F dX11_benchAt_34 (inR_lit rfl) ?_
      refine r_iload (pc := 35) 3 F dX11_benchAt_35 rfl ?_
      refine r_imul (pc := 37) F dX11_benchAt_37 ?_
      refine r_iadd (pc := 38) F dX11_benchAt_38 ?_
      refine r_iconst (pc := 39) F dX11_benchAt_39 (inR_lit rfl) ?_
      refine r_iadd (pc := 40) F dX11_benchAt_40 ?_
      have hg_4 := hb.1
      have hb := hb.2
      refine r_iald (pc := 41) F lc100.1 lc100.2.1 lc100.2.2 hg_4 dX11_benchAt_41 ?_
      refine r_isub (pc := 42) F dX11_benchAt_42 ?_
      refine V.nmI (fun x_5 ex_5 => ?_)
      have hb := hb x_5 ex_5
      refine r_istore_n (pc := 43) (lv' := [(3, Iv x_5), (0, Rv 11), (1, Iv x1), (4, Iv x4)]) F dX11_benchAt_43 rfl (by decide) rfl ?_
      refine r_iincN (pc := 44) 3 (lf := fun x_6 => [(4, Iv x_6), (3, Iv x_5), (0, Rv 11), (1, Iv x1)]) F dX11_benchAt_44 rfl (by decide) rfl (fun x_6 ex_6 => ?_)
      have hb := hb x_6 ex_6
      refine r_goto (pc := 47) (tgt := 5) F dX11_benchAt_47 (by decide) ?_
      exact V.sub [2, 3, 1, 0] rfl (g5 μ x1 x_5 x_6 hb)
  have hb := hb G5 (fun μ x1 x3 x4 hb => f5 μ x1 x3 x4 (K5 μ x1 x3 x4 hb))
  unfold b_X11_benchAt_e at hb
  refine r_iload_n (pc := 0) 2 F dX11_benchAt_0 rfl rfl ?_
  refine r_istore_n (pc := 1) (lv' := [(3, Iv p1), (0, Rv 11), (1, Iv p0), (2, Iv p1)]) F dX11_benchAt_1 rfl (by decide) rfl ?_
  refine r_iconst (pc := 2) F dX11_benchAt_2 (inR_lit rfl) ?_
  refine r_istore (pc := 3) (lv' := [(4, Iv 0), (3, Iv p1), (0, Rv 11), (1, Iv p0), (2, Iv p1)]) F dX11_benchAt_3 (by decide) rfl ?_
  exact V.sub [2, 3, 1, 0] rfl (g5 μ p0 p1 0 hb)
set_option maxHeartbeats 4000000 in
set_option maxRecDepth 100000 in
theorem c_X11_benches {g : Wc} {l : Launch} (μ : Mem) (p0 : Int) (Post : Pst) (hb : wp_X11_benches μ p0 Post) : MtC g l yX11_benches cX11_benches 3 (some .int) 1 [Rv 11, Iv p0] μ (QI g Post) := by
  intro hok
  refine enter (own := RX11) (by decide) rfl (Nat.le_of_ble_eq_true rfl) hok (fun X hl F hr hR => ?_)
  subst hl
  show V g X 3 μ [(0, Rv 11), (1, Iv p0)] 0 []
  unfold wp_X11_benches at hb
  have hb := hb
  unfold b_X11_benches_e at hb
  refine r_iload_n (pc := 0) 1 F dX11_benches_0 rfl rfl ?_
  refine r_i2l (pc := 1) F dX11_benches_1 ?_
  refine r_ldc2 (pc := 2) F kl_RX11_104 (x := 2) (by decide) (inRL_lit rfl) dX11_benches_2 ?_
  refine r_ldc2 (pc := 5) F kl_RX11_96 (x := 4) (by decide) (inRL_lit rfl) dX11_benches_5 ?_
  refine r_callSI (pc := 8) (avs := [Lv p0, Lv 2, Lv 4]) (st := []) F (c_X11_in μ p0 2 4 _ hb) (by decide) cal_X11_in st_X11_in lk_RX11_86 rfl rfl (Nat.le_of_ble_eq_true rfl) dX11_benches_8 (fun r_1 μ_2 hb => ?_)
  refine r_if_ne (pc := 11) (tgt := 17) F dX11_benches_11 (by decide) (fun c_3 => ?_) (fun c_3 => ?_)
  · have hb := hb.1 c_3
    refine r_aload_n (pc := 17) 0 F dX11_benches_17 rfl rfl ?_
    refine gf_RX11_34 (pc := 18) F dX11_benches_18 ?_
    refine V.nmI (fun x_4 ex_4 => ?_)
    have hb := hb x_4 ex_4
    refine r_istore_n (pc := 21) (lv' := [(2, Iv x_4), (0, Rv 11), (1, Iv p0)]) F dX11_benches_21 rfl (by decide) rfl ?_
    refine r_aload_n (pc := 22) 1 F dX11_benches_22 rfl rfl ?_
    refine r_iload_n (pc := 23) 2 F dX11_benches_23 rfl rfl ?_
    refine pf_RX11_34 (pc := 24) F dX11_benches_24 ?_
    refine V.nmM (fun μ_5 eμ_5 => ?_)
    have hb := hb μ_5 eμ_5
    refine r_iload_n (pc := 27) 0 F dX11_benches_27 rfl rfl ?_
    exact r_iret (pc := 28) F hR hr dX11_benches_28 hb
  · have hb := hb.2 c_3
    refine r_bipush (pc := 14) F dX11_benches_14 (inR_lit rfl) (by decide) ?_
    exact r_iret (pc := 16) F hR hr dX11_benches_16 hb
set_option maxHeartbeats 4000000 in
set_option maxRecDepth 100000 in
theorem c_X11_firstOrder {g : Wc} {l : Launch} (μ : Mem) (Post : Pst) (hb : wp_X11_firstOrder μ Post) : MtC g l yX11_firstOrder cX11_firstOrder 2 none 0 [Rv 11] μ (QV g Post) := by
  intro hok
  refine enter (own := RX11) (by decide) rfl (Nat.le_of_ble_eq_true rfl) hok (fun X hl F hr hR => ?_)
  subst hl
  show V g X 2 μ [(0, Rv 11)] 0 []
  unfold wp_X11_firstOrder at hb
  obtain ⟨G2, g2, f2⟩ : ∃ G : Mem → Int → Prop, (∀ μ x1, G μ x1 → V g X 2 μ [(0, Rv 11), (1, Iv x1)] 2 []) ∧ (∀ μ x1, V g X 2 μ [(0, Rv 11), (1, Iv x1)] 2 [] → G μ x1) := ⟨fun μ x1 => V g X 2 μ [(0, Rv 11), (1, Iv x1)] 2 [], fun _ _ h => h, fun _ _ h => h⟩
  have K2 : ∀ (μ : Mem) (x1 : Int), b_X11_firstOrder_2 G2 Post μ x1 → V g X 2 μ [(0, Rv 11), (1, Iv x1)] 2 [] := by
    intro μ x1 hb
    unfold b_X11_firstOrder_2 at hb
    refine r_iload_n (pc := 2) 1 F dX11_firstOrder_2 rfl rfl ?_
    refine r_aload_n (pc := 3) 0 F dX11_firstOrder_3 rfl rfl ?_
    refine gf_RX11_83 (pc := 4) F dX11_firstOrder_4 ?_
    refine r_icmp_ge (pc := 7) (tgt := 23) F dX11_firstOrder_7 (by decide) (fun c_1 => ?_) (fun c_1 => ?_)
    · have hb := hb.1 c_1
      exact r_vret (pc := 23) F hR hr dX11_firstOrder_23 hb
    · have hb := hb.2 c_1
      refine r_aload_n (pc := 10) 0 F dX11_firstOrder_10 rfl rfl ?_
      refine gf_RX11_56 (pc := 11) F dX11_firstOrder_11 ?_
      refine r_iload_n (pc := 14) 1 F dX11_firstOrder_14 rfl rfl ?_
      refine r_iload_n (pc := 15) 1 F dX11_firstOrder_15 rfl rfl ?_
      have hg_2 := hb.1
      have hb := hb.2
      refine r_iast (pc := 16) F lc103.1 lc103.2.1 lc103.2.2 hg_2 dX11_firstOrder_16 ?_
      refine V.nmM (fun μ_3 eμ_3 => ?_)
      have hb := hb μ_3 eμ_3
      refine r_iincN (pc := 17) 1 (lf := fun x_4 => [(1, Iv x_4), (0, Rv 11)]) F dX11_firstOrder_17 rfl (by decide) rfl (fun x_4 ex_4 => ?_)
      have hb := hb x_4 ex_4
      refine r_goto (pc := 20) (tgt := 2) F dX11_firstOrder_20 (by decide) ?_
      exact V.sub [1, 0] rfl (g2 μ_3 x_4 hb)
  have hb := hb G2 (fun μ x1 hb => f2 μ x1 (K2 μ x1 hb))
  unfold b_X11_firstOrder_e at hb
  refine r_iconst (pc := 0) F dX11_firstOrder_0 (inR_lit rfl) ?_
  refine r_istore_n (pc := 1) (lv' := [(1, Iv 0), (0, Rv 11)]) F dX11_firstOrder_1 rfl (by decide) rfl ?_
  exact V.sub [1, 0] rfl (g2 μ 0 hb)
set_option maxHeartbeats 4000000 in
set_option maxRecDepth 100000 in
theorem c_X11_isLawful {g : Wc} {l : Launch} (μ : Mem) (Post : Pst) (hb : wp_X11_isLawful μ Post) : MtC g l yX11_isLawful cX11_isLawful 3 (some .boolean) 0 [Rv 11] μ (QI g Post) := by
  intro hok
  refine enter (own := RX11) (by decide) rfl (Nat.le_of_ble_eq_true rfl) hok (fun X hl F hr hR => ?_)
  subst hl
  show V g X 3 μ [(0, Rv 11)] 0 []
  unfold wp_X11_isLawful at hb
  obtain ⟨G4, g4, f4⟩ : ∃ G : Mem → Int → Int → Prop, (∀ μ x1 x2, G μ x1 x2 → V g X 3 μ [(0, Rv 11), (1, Iv x1), (2, Iv x2)] 4 []) ∧ (∀ μ x1 x2, V g X 3 μ [(0, Rv 11), (1, Iv x1), (2, Iv x2)] 4 [] → G μ x1 x2) := ⟨fun μ x1 x2 => V g X 3 μ [(0, Rv 11), (1, Iv x1), (2, Iv x2)] 4 [], fun _ _ _ h => h, fun _ _ _ h => h⟩
  have K4 : ∀ (μ : Mem) (x1 : Int) (x2 : Int), b_X11_isLawful_4 G4 Post μ x1 x2 → V g X 3 μ [(0, Rv 11), (1, Iv x1), (2, Iv x2)] 4 [] := by
    intro μ x1 x2 hb
    unfold b_X11_isLawful_4 at hb
    refine r_iload_n (pc := 4) 2 F dX11_isLawful_4 rfl rfl ?_
    refine r_aload_n (pc := 5) 0 F dX11_isLawful_5 rfl rfl ?_
    refine gf_RX11_83 (pc := 6) F dX11_isLawful_6 ?_
    refine r_icmp_ge (pc := 9) (tgt := 49) F dX11_isLawful_9 (by decide) (fun c_1 => ?_) (fun c_1 => ?_)
    · have hb := hb.1 c_1
      refine r_iconst (pc := 49) F dX11_isLawful_49 (inR_lit rfl) ?_
      exact r_zret (pc := 50) F hR hr dX11_isLawful_50 (Or.inr rfl) hb
    · have hb := hb.2 c_1
      refine r_aload_n (pc := 12) 0 F dX11_isLawful_12 rfl rfl ?_
      refine gf_RX11_25 (pc := 13) F dX11_isLawful_13 ?_
      refine r_aload_n (pc := 16) 0 F dX11_isLawful_16 rfl rfl ?_
      refine gf_RX11_56 (pc := 17) F dX11_isLawful_17 ?_
      refine r_iload_n (pc := 20) 2 F dX11_isLawful_20 rfl rfl ?_
      have hg_2 := hb.1
      have hb := hb.2
      refine r_iald (pc := 21) F lc103.1 lc103.2.1 lc103.2.2 hg_2 dX11_isLawful_21 ?_
      have hg_3 := hb.1
      have hb := hb.2
      refine r_iald (pc := 22) F lc95.1 lc95.2.1 lc95.2.2 hg_3 dX11_isLawful_22 ?_
      refine r_iload_n (pc := 23) 1 F dX11_isLawful_23 rfl rfl ?_
      refine r_iconst (pc := 24) F dX11_isLawful_24 (inR_lit rfl) ?_
      refine r_ixor (pc := 25) F dX11_isLawful_25 ?_
      refine r_iand (pc := 26) F dX11_isLawful_26 ?_
      refine r_if_eq (pc := 27) (tgt := 32) F dX11_isLawful_27 (by decide) (fun c_4 => ?_) (fun c_4 => ?_)
      · have hb := hb.1 c_4
        refine r_iload_n (pc := 32) 1 F dX11_isLawful_32 rfl rfl ?_
        refine r_iconst (pc := 33) F dX11_isLawful_33 (inR_lit rfl) ?_
        refine r_aload_n (pc := 34) 0 F dX11_isLawful_34 rfl rfl ?_
        refine gf_RX11_56 (pc := 35) F dX11_isLawful_35 ?_
        refine r_iload_n (pc := 38) 2 F dX11_isLawful_38 rfl rfl ?_
        have hg_5 := hb.1
        have hb := hb.2
        refine r_iald (pc := 39) F lc103.1 lc103.2.1 lc103.2.2 hg_5 dX11_isLawful_39 ?_
        refine r_ishl (pc := 40) F dX11_isLawful_40 ?_
        refine r_ior (pc := 41) F dX11_isLawful_41 ?_
        refine V.nmI (fun x_6 ex_6 => ?_)
        have hb := hb x_6 ex_6
        refine r_istore_n (pc := 42) (lv' := [(1, Iv x_6), (0, Rv 11), (2, Iv x2)]) F dX11_isLawful_42 rfl (by decide) rfl ?_
        refine r_iincN (pc := 43) 2 (lf := fun x_7 => [(2, Iv x_7), (1, Iv x_6), (0, Rv 11)]) F dX11_isLawful_43 rfl (by decide) rfl (fun x_7 ex_7 => ?_)
        have hb := hb x_7 ex_7
        refine r_goto (pc := 46) (tgt := 4) F dX11_isLawful_46 (by decide) ?_
        exact V.sub [2, 1, 0] rfl (g4 μ x_6 x_7 hb)
      · have hb := hb.2 c_4
        refine r_iconst (pc := 30) F dX11_isLawful_30 (inR_lit rfl) ?_
        exact r_zret (pc := 31) F hR hr dX11_isLawful_31 (Or.inl rfl) hb
  have hb := hb G4 (fun μ x1 x2 hb => f4 μ x1 x2 (K4 μ x1 x2 hb))
  unfold b_X11_isLawful_e at hb
  refine r_iconst (pc := 0) F dX11_isLawful_0 (inR_lit rfl) ?_
  refine r_istore_n (pc := 1) (lv' := [(1, Iv 0), (0, Rv 11)]) F dX11_isLawful_1 rfl (by decide) rfl ?_
  refine r_iconst (pc := 2) F dX11_isLawful_2 (inR_lit rfl) ?_
  refine r_istore_n (pc := 3) (lv' := [(2, Iv 0), (1, Iv 0), (0, Rv 11)]) F dX11_isLawful_3 rfl (by decide) rfl ?_
  exact V.sub [2, 1, 0] rfl (g4 μ 0 0 hb)
set_option maxHeartbeats 4000000 in
set_option maxRecDepth 100000 in
theorem c_X11_makes {g : Wc} {l : Launch} (μ : Mem) (p0 : Int) (Post : Pst) (hb : wp_X11_makes μ p0 Post) : MtC g l yX11_makes cX11_makes 8 (some .int) 0 [Rv 11, Iv p0] μ (QI g Post) := by
  intro hok
  refine enter (own := RX11) (by decide) rfl (Nat.le_of_ble_eq_true rfl) hok (fun X hl F hr hR => ?_)
  subst hl
  show V g X 8 μ [(0, Rv 11), (1, Iv p0)] 0 []
  unfold wp_X11_makes at hb
  obtain ⟨G7, g7, f7⟩ : ∃ G : Mem → Int → Int → Int → Int → Prop, (∀ μ x1 x2 x3 x4, G μ x1 x2 x3 x4 → V g X 8 μ [(0, Rv 11), (1, Iv x1), (2, Iv x2), (3, Iv x3), (4, Iv x4)] 7 []) ∧ (∀ μ x1 x2 x3 x4, V g X 8 μ [(0, Rv 11), (1, Iv x1), (2, Iv x2), (3, Iv x3), (4, Iv x4)] 7 [] → G μ x1 x2 x3 x4) := ⟨fun μ x1 x2 x3 x4 => V g X 8 μ [(0, Rv 11), (1, Iv x1), (2, Iv x2), (3, Iv x3), (4, Iv x4)] 7 [], fun _ _ _ _ _ h => h, fun _ _ _ _ _ h => h⟩
  have K216 : ∀ (μ : Mem) (x1 : Int) (x2 : Int) (x3 : Int) (x4 : Int), b_X11_makes_216 G7 Post μ x1 x2 x3 x4 → V g X 8 μ [(0, Rv 11), (1, Iv x1), (2, Iv x2), (3, Iv x3), (4, Iv x4)] 216 [] := by
    intro μ x1 x2 x3 x4 hb
    unfold b_X11_makes_216 at hb
    refine r_iincN (pc := 216) 4 (lf := fun x_1 => [(4, Iv x_1), (0, Rv 11), (1, Iv x1), (2, Iv x2), (3, Iv x3)]) F dX11_makes_216 rfl (by decide) rfl (fun x_1 ex_1 => ?_)
    have hb := hb x_1 ex_1
    refine r_goto (pc := 219) (tgt := 7) F dX11_makes_219 (by decide) ?_
    exact V.sub [1, 2, 3, 4, 0] rfl (g7 μ x1 x2 x3 x_1 hb)
  have K188 : ∀ (μ : Mem) (x1 : Int) (x2 : Int) (x4 : Int) (s0 : Int), b_X11_makes_188 G7 Post μ x1 x2 x4 s0 → V g X 8 μ [(0, Rv 11), (1, Iv x1), (2, Iv x2), (4, Iv x4)] 188 [Iv s0] := by
    intro μ x1 x2 x4 s0 hb
    unfold b_X11_makes_188 at hb
    refine r_istore_n (pc := 188) (lv' := [(3, Iv s0), (0, Rv 11), (1, Iv x1), (2, Iv x2), (4, Iv x4)]) F dX11_makes_188 rfl (by decide) rfl ?_
    refine r_goto (pc := 189) (tgt := 216) F dX11_makes_189 (by decide) ?_
    exact V.sub [1, 2, 3, 0, 4] rfl (K216 μ x1 x2 s0 x4 hb)
  have K214 : ∀ (μ : Mem) (x1 : Int) (x2 : Int) (x4 : Int) (s0 : Int) (s1 : Int), b_X11_makes_214 G7 Post μ x1 x2 x4 s0 s1 → V g X 8 μ [(0, Rv 11), (1, Iv x1), (2, Iv x2), (4, Iv x4)] 214 [Iv s1, Iv s0] := by
    intro μ x1 x2 x4 s0 s1 hb
    unfold b_X11_makes_214 at hb
    refine r_iadd (pc := 214) F dX11_makes_214 ?_
    refine V.nmI (fun x_2 ex_2 => ?_)
    have hb := hb x_2 ex_2
    refine r_istore_n (pc := 215) (lv' := [(3, Iv x_2), (0, Rv 11), (1, Iv x1), (2, Iv x2), (4, Iv x4)]) F dX11_makes_215 rfl (by decide) rfl ?_
    exact V.sub [1, 2, 3, 0, 4] rfl (K216 μ x1 x2 x_2 x4 hb)
  have K128 : ∀ (μ : Mem) (x1 : Int) (x2 : Int) (x3 : Int) (x4 : Int) (x5 : Int) (s0 : Int), b_X11_makes_128 G7 Post μ x1 x2 x3 x4 x5 s0 → V g X 8 μ [(0, Rv 11), (1, Iv x1), (2, Iv x2), (3, Iv x3), (4, Iv x4), (5, Iv x5)] 128 [Iv s0] := by
    intro μ x1 x2 x3 x4 x5 s0 hb
    unfold b_X11_makes_128 at hb
    refine r_istore (pc := 128) (lv' := [(7, Iv s0), (0, Rv 11), (1, Iv x1), (2, Iv x2), (3, Iv x3), (4, Iv x4), (5, Iv x5)]) F dX11_makes_128 (by decide) rfl ?_
    refine r_iload_n (pc := 130) 2 F dX11_makes_130 rfl rfl ?_
    refine r_iconst (pc := 131) F dX11_makes_131 (inR_lit rfl) ?_
    refine r_icmp_ne (pc := 132) (tgt := 150) F dX11_makes_132 (by decide) (fun c_3 => ?_) (fun c_3 => ?_)
    · have hb := hb.1 c_3
      refine r_iload_n (pc := 150) 2 F dX11_makes_150 rfl rfl ?_
      refine r_iconst (pc := 151) F dX11_makes_151 (inR_lit rfl) ?_
      refine r_icmp_ne (pc := 152) (tgt := 171) F dX11_makes_152 (by decide) (fun c_4 => ?_) (fun c_4 => ?_)
      · have hb := hb.1 c_4
        refine r_iload_n (pc := 171) 2 F dX11_makes_171 rfl rfl ?_
        refine r_iconst (pc := 172) F dX11_makes_172 (inR_lit rfl) ?_
        refine r_icmp_ne (pc := 173) (tgt := 192) F dX11_makes_173 (by decide) (fun c_5 => ?_) (fun c_5 => ?_)
        · have hb := hb.1 c_5
          refine r_iload_n (pc := 192) 2 F dX11_makes_192 rfl rfl ?_
          refine r_iconst (pc := 193) F dX11_makes_193 (inR_lit rfl) ?_
          refine r_icmp_ne (pc := 194) (tgt := 216) F dX11_makes_194 (by decide) (fun c_6 => ?_) (fun c_6 => ?_)
          · have hb := hb.1 c_6
            exact V.sub [1, 2, 3, 4, 5] rfl (K216 μ x1 x2 x3 x4 hb)
          · have hb := hb.2 c_6
            refine r_iload_n (pc := 197) 4 F dX11_makes_197 rfl rfl ?_
            refine r_iload (pc := 198) 0 F dX11_makes_198 rfl ?_
            refine r_if_le (pc := 200) (tgt := 213) F dX11_makes_200 (by decide) (fun c_7 => ?_) (fun c_7 => ?_)
            · have hb := hb.1 c_7
              refine r_iconst (pc := 213) F dX11_makes_213 (inR_lit rfl) ?_
              exact V.sub [1, 2, 3, 5] rfl (K214 μ x1 x2 x4 x3 0 hb)
            · have hb := hb.2 c_7
              refine r_aload_n (pc := 203) 1 F dX11_makes_203 rfl rfl ?_
              refine gf_RX11_19 (pc := 204) F dX11_makes_204 ?_
              refine r_iload (pc := 207) 6 F dX11_makes_207 rfl ?_
              have hg_8 := hb.1
              have hb := hb.2
              refine r_iald (pc := 209) F lc93.1 lc93.2.1 lc93.2.2 hg_8 dX11_makes_209 ?_
              refine r_goto (pc := 210) (tgt := 214) F dX11_makes_210 (by decide) ?_
              exact V.sub [1, 2, 3, 5] rfl (K214 μ x1 x2 x4 x3 (μ 93 x5.toNat) hb)
        · have hb := hb.2 c_5
          refine r_iload (pc := 176) 0 F dX11_makes_176 rfl ?_
          refine r_iload_n (pc := 178) 4 F dX11_makes_178 rfl rfl ?_
          refine r_icmp_le (pc := 179) (tgt := 187) F dX11_makes_179 (by decide) (fun c_9 => ?_) (fun c_9 => ?_)
          · have hb := hb.1 c_9
            refine r_iload_n (pc := 187) 4 F dX11_makes_187 rfl rfl ?_
            exact V.sub [1, 2, 3, 5] rfl (K188 μ x1 x2 x4 x3 hb)
          · have hb := hb.2 c_9
            refine r_iload (pc := 182) 0 F dX11_makes_182 rfl ?_
            refine r_goto (pc := 184) (tgt := 188) F dX11_makes_184 (by decide) ?_
            exact V.sub [1, 2, 3, 5] rfl (K188 μ x1 x2 x4 s0 hb)
      · have hb := hb.2 c_4
        refine r_iload_n (pc := 155) 4 F dX11_makes_155 rfl rfl ?_
        refine r_aload_n (pc := 156) 1 F dX11_makes_156 rfl rfl ?_
        refine gf_RX11_19 (pc := 157) F dX11_makes_157 ?_
        refine r_iload (pc := 160) 6 F dX11_makes_160 rfl ?_
        have hg_10 := hb.1
        have hb := hb.2
        refine r_iald (pc := 162) F lc93.1 lc93.2.1 lc93.2.2 hg_10 dX11_makes_162 ?_
        refine r_iload (pc := 163) 0 F dX11_makes_163 rfl ?_
        refine r_imul (pc := 165) F dX11_makes_165 ?_
        refine r_iadd (pc := 166) F dX11_makes_166 ?_
        refine V.nmI (fun x_11 ex_11 => ?_)
        have hb := hb x_11 ex_11
        refine r_istore_n (pc := 167) (lv' := [(3, Iv x_11), (7, Iv s0), (0, Rv 11), (1, Iv x1), (2, Iv x2), (4, Iv x4), (5, Iv x5)]) F dX11_makes_167 rfl (by decide) rfl ?_
        refine r_goto (pc := 168) (tgt := 216) F dX11_makes_168 (by decide) ?_
        exact V.sub [2, 3, 4, 0, 5] rfl (K216 μ x1 x2 x_11 x4 hb)
    · have hb := hb.2 c_3
      refine r_iload_n (pc := 135) 4 F dX11_makes_135 rfl rfl ?_
      refine r_aload_n (pc := 136) 1 F dX11_makes_136 rfl rfl ?_
      refine gf_RX11_19 (pc := 137) F dX11_makes_137 ?_
      refine r_iload (pc := 140) 6 F dX11_makes_140 rfl ?_
      have hg_12 := hb.1
      have hb := hb.2
      refine r_iald (pc := 142) F lc93.1 lc93.2.1 lc93.2.2 hg_12 dX11_makes_142 ?_
      refine r_iload_n (pc := 143) 3 F dX11_makes_143 rfl rfl ?_
      refine r_imul (pc := 144) F dX11_makes_144 ?_
      refine r_iadd (pc := 145) F dX11_makes_145 ?_
      refine V.nmI (fun x_13 ex_13 => ?_)
      have hb := hb x_13 ex_13
      refine r_istore_n (pc := 146) (lv' := [(3, Iv x_13), (7, Iv s0), (0, Rv 11), (1, Iv x1), (2, Iv x2), (4, Iv x4), (5, Iv x5)]) F dX11_makes_146 rfl (by decide) rfl ?_
      refine r_goto (pc := 147) (tgt := 216) F dX11_makes_147 (by decide) ?_
      exact V.sub [2, 3, 4, 0, 5] rfl (K216 μ x1 x2 x_13 x4 hb)
  have K91 : ∀ (μ : Mem) (x1 : Int) (x3 : Int) (x4 : Int) (x5 : Int) (s0 : Int), b_X11_makes_91 G7 Post μ x1 x3 x4 x5 s0 → V g X 8 μ [(0, Rv 11), (1, Iv x1), (3, Iv x3), (4, Iv x4), (5, Iv x5)] 91 [Iv s0] := by
    intro μ x1 x3 x4 x5 s0 hb
    unfold b_X11_makes_91 at hb
    refine r_istore (pc := 91) (lv' := [(6, Iv s0), (0, Rv 11), (1, Iv x1), (3, Iv x3), (4, Iv x4), (5, Iv x5)]) F dX11_makes_91 (by decide) rfl ?_
    refine r_iload (pc := 93) 0 F dX11_makes_93 rfl ?_
    refine r_aload_n (pc := 95) 1 F dX11_makes_95 rfl rfl ?_
    refine gf_RX11_7 (pc := 96) F dX11_makes_96 ?_
    refine r_iload (pc := 99) 5 F dX11_makes_99 rfl ?_
    have hg_14 := hb.1
    have hb := hb.2
    refine r_iald (pc := 101) F lc90.1 lc90.2.1 lc90.2.2 hg_14 dX11_makes_101 ?_
    refine r_iadd (pc := 102) F dX11_makes_102 ?_
    refine V.nmI (fun x_15 ex_15 => ?_)
    have hb := hb x_15 ex_15
    refine r_istore_n (pc := 103) (lv' := [(2, Iv x_15), (6, Iv s0), (0, Rv 11), (1, Iv x1), (3, Iv x3), (4, Iv x4), (5, Iv x5)]) F dX11_makes_103 rfl (by decide) rfl ?_
    refine r_iload_n (pc := 104) 0 F dX11_makes_104 rfl rfl ?_
    refine r_aload_n (pc := 105) 2 F dX11_makes_105 rfl rfl ?_
    refine gf_RX11_16 (pc := 106) F dX11_makes_106 ?_
    refine r_iload (pc := 109) 6 F dX11_makes_109 rfl ?_
    have hg_16 := hb.1
    have hb := hb.2
    refine r_iald (pc := 111) F lc92.1 lc92.2.1 lc92.2.2 hg_16 dX11_makes_111 ?_
    refine r_icmp_le (pc := 112) (tgt := 127) F dX11_makes_112 (by decide) (fun c_17 => ?_) (fun c_17 => ?_)
    · have hb := hb.1 c_17
      refine r_iconst (pc := 127) F dX11_makes_127 (inR_lit rfl) ?_
      exact V.sub [2, 3, 0, 4, 5, 6] rfl (K128 μ x1 x_15 x3 x4 x5 0 hb)
    · have hb := hb.2 c_17
      refine r_iload_n (pc := 115) 0 F dX11_makes_115 rfl rfl ?_
      refine r_aload_n (pc := 116) 2 F dX11_makes_116 rfl rfl ?_
      refine gf_RX11_16 (pc := 117) F dX11_makes_117 ?_
      refine r_iload (pc := 120) 6 F dX11_makes_120 rfl ?_
      have hg_18 := hb.1
      have hb := hb.2
      refine r_iald (pc := 122) F lc92.1 lc92.2.1 lc92.2.2 hg_18 dX11_makes_122 ?_
      refine r_isub (pc := 123) F dX11_makes_123 ?_
      refine r_goto (pc := 124) (tgt := 128) F dX11_makes_124 (by decide) ?_
      exact V.sub [2, 3, 0, 4, 5, 6] rfl (K128 μ x1 x_15 x3 x4 x5 (wrap (x_15 - (μ 92 x5.toNat))) hb)
  have K65 : ∀ (μ : Mem) (x1 : Int) (x3 : Int) (x4 : Int) (x5 : Int) (s0 : Int), b_X11_makes_65 G7 Post μ x1 x3 x4 x5 s0 → V g X 8 μ [(0, Rv 11), (1, Iv x1), (3, Iv x3), (4, Iv x4), (5, Iv x5)] 65 [Iv s0] := by
    intro μ x1 x3 x4 x5 s0 hb
    unfold b_X11_makes_65 at hb
    refine r_istore (pc := 65) (lv' := [(6, Iv s0), (0, Rv 11), (1, Iv x1), (3, Iv x3), (4, Iv x4), (5, Iv x5)]) F dX11_makes_65 (by decide) rfl ?_
    refine r_iload (pc := 67) 0 F dX11_makes_67 rfl ?_
    refine r_aload_n (pc := 69) 1 F dX11_makes_69 rfl rfl ?_
    refine gf_RX11_13 (pc := 70) F dX11_makes_70 ?_
    refine r_iload (pc := 73) 5 F dX11_makes_73 rfl ?_
    have hg_19 := hb.1
    have hb := hb.2
    refine r_iald (pc := 75) F lc91.1 lc91.2.1 lc91.2.2 hg_19 dX11_makes_75 ?_
    refine r_icmp_ge (pc := 76) (tgt := 89) F dX11_makes_76 (by decide) (fun c_20 => ?_) (fun c_20 => ?_)
    · have hb := hb.1 c_20
      refine r_iload (pc := 89) 0 F dX11_makes_89 rfl ?_
      exact V.sub [1, 2, 3, 4, 5] rfl (K91 μ x1 x3 x4 x5 s0 hb)
    · have hb := hb.2 c_20
      refine r_aload_n (pc := 79) 1 F dX11_makes_79 rfl rfl ?_
      refine gf_RX11_13 (pc := 80) F dX11_makes_80 ?_
      refine r_iload (pc := 83) 5 F dX11_makes_83 rfl ?_
      have hg_21 := hb.1
      have hb := hb.2
      refine r_iald (pc := 85) F lc91.1 lc91.2.1 lc91.2.2 hg_21 dX11_makes_85 ?_
      refine r_goto (pc := 86) (tgt := 91) F dX11_makes_86 (by decide) ?_
      exact V.sub [1, 2, 3, 4, 5] rfl (K91 μ x1 x3 x4 x5 (μ 91 x5.toNat) hb)
  have K7 : ∀ (μ : Mem) (x1 : Int) (x2 : Int) (x3 : Int) (x4 : Int), b_X11_makes_7 G7 Post μ x1 x2 x3 x4 → V g X 8 μ [(0, Rv 11), (1, Iv x1), (2, Iv x2), (3, Iv x3), (4, Iv x4)] 7 [] := by
    intro μ x1 x2 x3 x4 hb
    unfold b_X11_makes_7 at hb
    refine r_iload (pc := 7) 4 F dX11_makes_7 rfl ?_
    refine r_aload_n (pc := 9) 0 F dX11_makes_9 rfl rfl ?_
    refine gf_RX11_83 (pc := 10) F dX11_makes_10 ?_
    refine r_icmp_ge (pc := 13) (tgt := 222) F dX11_makes_13 (by decide) (fun c_22 => ?_) (fun c_22 => ?_)
    · have hb := hb.1 c_22
      refine r_iload_n (pc := 222) 1 F dX11_makes_222 rfl rfl ?_
      refine r_if_ne (pc := 223) (tgt := 230) F dX11_makes_223 (by decide) (fun c_23 => ?_) (fun c_23 => ?_)
      · have hb := hb.1 c_23
        refine r_iload_n (pc := 230) 3 F dX11_makes_230 rfl rfl ?_
        exact r_iret (pc := 231) F hR hr dX11_makes_231 hb
      · have hb := hb.2 c_23
        refine r_iload_n (pc := 226) 2 F dX11_makes_226 rfl rfl ?_
        refine r_goto (pc := 227) (tgt := 231) F dX11_makes_227 (by decide) ?_
        exact r_iret (pc := 231) F hR hr dX11_makes_231 hb
    · have hb := hb.2 c_22
      refine r_aload_n (pc := 16) 0 F dX11_makes_16 rfl rfl ?_
      refine gf_RX11_56 (pc := 17) F dX11_makes_17 ?_
      refine r_iload (pc := 20) 4 F dX11_makes_20 rfl ?_
      have hg_24 := hb.1
      have hb := hb.2
      refine r_iald (pc := 22) F lc103.1 lc103.2.1 lc103.2.2 hg_24 dX11_makes_22 ?_
      refine V.nmI (fun x_25 ex_25 => ?_)
      have hb := hb x_25 ex_25
      refine r_istore (pc := 23) (lv' := [(5, Iv x_25), (0, Rv 11), (1, Iv x1), (2, Iv x2), (3, Iv x3), (4, Iv x4)]) F dX11_makes_23 (by decide) rfl ?_
      refine r_iload (pc := 25) 5 F dX11_makes_25 rfl ?_
      refine r_if_ne (pc := 27) (tgt := 34) F dX11_makes_27 (by decide) (fun c_26 => ?_) (fun c_26 => ?_)
      · have hb := hb.1 c_26
        refine r_iload_n (pc := 34) 3 F dX11_makes_34 rfl rfl ?_
        refine r_aload_n (pc := 35) 1 F dX11_makes_35 rfl rfl ?_
        refine gf_RX11_28 (pc := 36) F dX11_makes_36 ?_
        refine r_iconst (pc := 39) F dX11_makes_39 (inR_lit rfl) ?_
        refine r_aload_n (pc := 40) 1 F dX11_makes_40 rfl rfl ?_
        refine gf_RX11_22 (pc := 41) F dX11_makes_41 ?_
        refine r_aload_n (pc := 44) 1 F dX11_makes_44 rfl rfl ?_
        refine gf_RX11_56 (pc := 45) F dX11_makes_45 ?_
        refine r_iload (pc := 48) 5 F dX11_makes_48 rfl ?_
        refine r_iconst (pc := 50) F dX11_makes_50 (inR_lit rfl) ?_
        refine r_isub (pc := 51) F dX11_makes_51 ?_
        have hg_27 := hb.1
        have hb := hb.2
        refine r_iald (pc := 52) F lc103.1 lc103.2.1 lc103.2.2 hg_27 dX11_makes_52 ?_
        have hg_28 := hb.1
        have hb := hb.2
        refine r_iald (pc := 53) F lc94.1 lc94.2.1 lc94.2.2 hg_28 dX11_makes_53 ?_
        refine r_imul (pc := 54) F dX11_makes_54 ?_
        refine r_aload_n (pc := 55) 1 F dX11_makes_55 rfl rfl ?_
        refine gf_RX11_22 (pc := 56) F dX11_makes_56 ?_
        refine r_iload (pc := 59) 0 F dX11_makes_59 rfl ?_
        have hg_29 := hb.1
        have hb := hb.2
        refine r_iald (pc := 61) F lc94.1 lc94.2.1 lc94.2.2 hg_29 dX11_makes_61 ?_
        refine r_iadd (pc := 62) F dX11_makes_62 ?_
        have hg_30 := hb.1
        have hb := hb.2
        refine r_iald (pc := 63) F lc96.1 lc96.2.1 lc96.2.2 hg_30 dX11_makes_63 ?_
        refine r_iadd (pc := 64) F dX11_makes_64 ?_
        exact V.sub [1, 2, 4, 5, 0] rfl (K65 μ x1 x3 x4 x_25 (wrap (x2 + (μ 96 (wrap ((wrap (3 * (μ 94 (μ 103 (wrap (x4 - 1)).toNat).toNat))) + (μ 94 x_25.toNat))).toNat))) hb)
      · have hb := hb.2 c_26
        refine r_iconst (pc := 30) F dX11_makes_30 (inR_lit rfl) ?_
        refine r_goto (pc := 31) (tgt := 65) F dX11_makes_31 (by decide) ?_
        exact V.sub [1, 2, 4, 5, 0] rfl (K65 μ x1 x3 x4 x_25 0 hb)
  have hb := hb G7 (fun μ x1 x2 x3 x4 hb => f7 μ x1 x2 x3 x4 (K7 μ x1 x2 x3 x4 hb))
  unfold b_X11_makes_e at hb
  refine r_iconst (pc := 0) F dX11_makes_0 (inR_lit rfl) ?_
  refine r_istore_n (pc := 1) (lv' := [(2, Iv 0), (0, Rv 11), (1, Iv p0)]) F dX11_makes_1 rfl (by decide) rfl ?_
  refine r_iconst (pc := 2) F dX11_makes_2 (inR_lit rfl) ?_
  refine r_istore_n (pc := 3) (lv' := [(3, Iv 0), (2, Iv 0), (0, Rv 11), (1, Iv p0)]) F dX11_makes_3 rfl (by decide) rfl ?_
  refine r_iconst (pc := 4) F dX11_makes_4 (inR_lit rfl) ?_
  refine r_istore (pc := 5) (lv' := [(4, Iv 0), (3, Iv 0), (2, Iv 0), (0, Rv 11), (1, Iv p0)]) F dX11_makes_5 (by decide) rfl ?_
  exact V.sub [3, 4, 2, 1, 0] rfl (g7 μ p0 0 0 0 hb)
