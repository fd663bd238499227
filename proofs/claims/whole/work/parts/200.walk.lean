/-! Walks: J6_bitCount_0f7a4, J6_numberOfTrailingZeros_0f7a4, J7_fill_53178, J7_rangeCheck_23922, J7_fill_eb02e, X10_isIn, X0_longestOf, X0_orderByDue, X9_late, X0_fewestLate, X0_leaders, X0_lastOf, X9_all, X9_allLong, X0_orderFromBehind. By program. -/
set_option maxHeartbeats 4000000 in
set_option maxRecDepth 100000 in
theorem c_J6_bitCount_0f7a4 {g : Wc} {l : Launch} (μ : Mem) (p0 : Int) (Post : Pst) (hb : wp_J6_bitCount_0f7a4 μ p0 Post) : MtC g l yJ6_bitCount_0f7a4 cJ6_bitCount_0f7a4 1 (some .int) 0 [Iv p0] μ (QI g Post) := by
  intro hok
  refine enter (own := RJ6) (by decide) rfl (Nat.le_of_ble_eq_true rfl) hok (fun X hl F hr hR => ?_)
  subst hl
  show V g X 1 μ [(0, Iv p0)] 0 []
  unfold wp_J6_bitCount_0f7a4 at hb
  have hb := hb
  unfold b_J6_bitCount_0f7a4_e at hb
  refine r_iload_n (pc := 0) 0 F dJ6_bitCount_0f7a4_0 rfl rfl ?_
  refine r_iload_n (pc := 1) 0 F dJ6_bitCount_0f7a4_1 rfl rfl ?_
  refine r_iconst (pc := 2) F dJ6_bitCount_0f7a4_2 (inR_lit rfl) ?_
  refine r_iushr (pc := 3) F dJ6_bitCount_0f7a4_3 ?_
  refine r_ldcw (pc := 4) F kc_RJ6_265 (x := 1431655765) (by decide) (inR_lit rfl) dJ6_bitCount_0f7a4_4 ?_
  refine r_iand (pc := 7) F dJ6_bitCount_0f7a4_7 ?_
  refine r_isub (pc := 8) F dJ6_bitCount_0f7a4_8 ?_
  refine V.nmI (fun x_1 ex_1 => ?_)
  have hb := hb x_1 ex_1
  refine r_istore_n (pc := 9) (lv' := [(0, Iv x_1)]) F dJ6_bitCount_0f7a4_9 rfl (by decide) rfl ?_
  refine r_iload_n (pc := 10) 0 F dJ6_bitCount_0f7a4_10 rfl rfl ?_
  refine r_ldcw (pc := 11) F kc_RJ6_266 (x := 858993459) (by decide) (inR_lit rfl) dJ6_bitCount_0f7a4_11 ?_
  refine r_iand (pc := 14) F dJ6_bitCount_0f7a4_14 ?_
  refine r_iload_n (pc := 15) 0 F dJ6_bitCount_0f7a4_15 rfl rfl ?_
  refine r_iconst (pc := 16) F dJ6_bitCount_0f7a4_16 (inR_lit rfl) ?_
  refine r_iushr (pc := 17) F dJ6_bitCount_0f7a4_17 ?_
  refine r_ldcw (pc := 18) F kc_RJ6_266 (x := 858993459) (by decide) (inR_lit rfl) dJ6_bitCount_0f7a4_18 ?_
  refine r_iand (pc := 21) F dJ6_bitCount_0f7a4_21 ?_
  refine r_iadd (pc := 22) F dJ6_bitCount_0f7a4_22 ?_
  refine V.nmI (fun x_2 ex_2 => ?_)
  have hb := hb x_2 ex_2
  refine r_istore_n (pc := 23) (lv' := [(0, Iv x_2)]) F dJ6_bitCount_0f7a4_23 rfl (by decide) rfl ?_
  refine r_iload_n (pc := 24) 0 F dJ6_bitCount_0f7a4_24 rfl rfl ?_
  refine r_iload_n (pc := 25) 0 F dJ6_bitCount_0f7a4_25 rfl rfl ?_
  refine r_iconst (pc := 26) F dJ6_bitCount_0f7a4_26 (inR_lit rfl) ?_
  refine r_iushr (pc := 27) F dJ6_bitCount_0f7a4_27 ?_
  refine r_iadd (pc := 28) F dJ6_bitCount_0f7a4_28 ?_
  refine r_ldcw (pc := 29) F kc_RJ6_267 (x := 252645135) (by decide) (inR_lit rfl) dJ6_bitCount_0f7a4_29 ?_
  refine r_iand (pc := 32) F dJ6_bitCount_0f7a4_32 ?_
  refine V.nmI (fun x_3 ex_3 => ?_)
  have hb := hb x_3 ex_3
  refine r_istore_n (pc := 33) (lv' := [(0, Iv x_3)]) F dJ6_bitCount_0f7a4_33 rfl (by decide) rfl ?_
  refine r_iload_n (pc := 34) 0 F dJ6_bitCount_0f7a4_34 rfl rfl ?_
  refine r_iload_n (pc := 35) 0 F dJ6_bitCount_0f7a4_35 rfl rfl ?_
  refine r_bipush (pc := 36) F dJ6_bitCount_0f7a4_36 (inR_lit rfl) (by decide) ?_
  refine r_iushr (pc := 38) F dJ6_bitCount_0f7a4_38 ?_
  refine r_iadd (pc := 39) F dJ6_bitCount_0f7a4_39 ?_
  refine V.nmI (fun x_4 ex_4 => ?_)
  have hb := hb x_4 ex_4
  refine r_istore_n (pc := 40) (lv' := [(0, Iv x_4)]) F dJ6_bitCount_0f7a4_40 rfl (by decide) rfl ?_
  refine r_iload_n (pc := 41) 0 F dJ6_bitCount_0f7a4_41 rfl rfl ?_
  refine r_iload_n (pc := 42) 0 F dJ6_bitCount_0f7a4_42 rfl rfl ?_
  refine r_bipush (pc := 43) F dJ6_bitCount_0f7a4_43 (inR_lit rfl) (by decide) ?_
  refine r_iushr (pc := 45) F dJ6_bitCount_0f7a4_45 ?_
  refine r_iadd (pc := 46) F dJ6_bitCount_0f7a4_46 ?_
  refine V.nmI (fun x_5 ex_5 => ?_)
  have hb := hb x_5 ex_5
  refine r_istore_n (pc := 47) (lv' := [(0, Iv x_5)]) F dJ6_bitCount_0f7a4_47 rfl (by decide) rfl ?_
  refine r_iload_n (pc := 48) 0 F dJ6_bitCount_0f7a4_48 rfl rfl ?_
  refine r_bipush (pc := 49) F dJ6_bitCount_0f7a4_49 (inR_lit rfl) (by decide) ?_
  refine r_iand (pc := 51) F dJ6_bitCount_0f7a4_51 ?_
  exact r_iret (pc := 52) F hR hr dJ6_bitCount_0f7a4_52 hb
set_option maxHeartbeats 4000000 in
set_option maxRecDepth 100000 in
theorem c_J6_numberOfTrailingZeros_0f7a4 {g : Wc} {l : Launch} (μ : Mem) (p0 : Int) (Post : Pst) (hb : wp_J6_numberOfTrailingZeros_0f7a4 μ p0 Post) : MtC g l yJ6_numberOfTrailingZeros_0f7a4 cJ6_numberOfTrailingZeros_0f7a4 2 (some .int) 0 [Iv p0] μ (QI g Post) := by
  intro hok
  refine enter (own := RJ6) (by decide) rfl (Nat.le_of_ble_eq_true rfl) hok (fun X hl F hr hR => ?_)
  subst hl
  show V g X 2 μ [(0, Iv p0)] 0 []
  unfold wp_J6_numberOfTrailingZeros_0f7a4 at hb
  have K74 : ∀ (μ : Mem) (x0 : Int) (x1 : Int), b_J6_numberOfTrailingZeros_0f7a4_74 Post μ x0 x1 → V g X 2 μ [(0, Iv x0), (1, Iv x1)] 74 [] := by
    intro μ x0 x1 hb
    unfold b_J6_numberOfTrailingZeros_0f7a4_74 at hb
    refine r_iload_n (pc := 74) 1 F dJ6_numberOfTrailingZeros_0f7a4_74 rfl rfl ?_
    refine r_iload_n (pc := 75) 0 F dJ6_numberOfTrailingZeros_0f7a4_75 rfl rfl ?_
    refine r_iconst (pc := 76) F dJ6_numberOfTrailingZeros_0f7a4_76 (inR_lit rfl) ?_
    refine r_iushr (pc := 77) F dJ6_numberOfTrailingZeros_0f7a4_77 ?_
    refine r_iadd (pc := 78) F dJ6_numberOfTrailingZeros_0f7a4_78 ?_
    exact r_iret (pc := 79) F hR hr dJ6_numberOfTrailingZeros_0f7a4_79 hb
  have K62 : ∀ (μ : Mem) (x0 : Int) (x1 : Int), b_J6_numberOfTrailingZeros_0f7a4_62 Post μ x0 x1 → V g X 2 μ [(0, Iv x0), (1, Iv x1)] 62 [] := by
    intro μ x0 x1 hb
    unfold b_J6_numberOfTrailingZeros_0f7a4_62 at hb
    refine r_iload_n (pc := 62) 0 F dJ6_numberOfTrailingZeros_0f7a4_62 rfl rfl ?_
    refine r_iconst (pc := 63) F dJ6_numberOfTrailingZeros_0f7a4_63 (inR_lit rfl) ?_
    refine r_icmp_le (pc := 64) (tgt := 74) F dJ6_numberOfTrailingZeros_0f7a4_64 (by decide) (fun c_1 => ?_) (fun c_1 => ?_)
    · have hb := hb.1 c_1
      exact V.sub [0, 1] rfl (K74 μ x0 x1 hb)
    · have hb := hb.2 c_1
      refine r_iincN (pc := 67) 1 (lf := fun x_2 => [(1, Iv x_2), (0, Iv x0)]) F dJ6_numberOfTrailingZeros_0f7a4_67 rfl (by decide) rfl (fun x_2 ex_2 => ?_)
      have hb := hb x_2 ex_2
      refine r_iload_n (pc := 70) 1 F dJ6_numberOfTrailingZeros_0f7a4_70 rfl rfl ?_
      refine r_iconst (pc := 71) F dJ6_numberOfTrailingZeros_0f7a4_71 (inR_lit rfl) ?_
      refine r_iushr (pc := 72) F dJ6_numberOfTrailingZeros_0f7a4_72 ?_
      refine V.nmI (fun x_3 ex_3 => ?_)
      have hb := hb x_3 ex_3
      refine r_istore_n (pc := 73) (lv' := [(0, Iv x_3), (1, Iv x_2)]) F dJ6_numberOfTrailingZeros_0f7a4_73 rfl (by decide) rfl ?_
      exact V.sub [0, 1] rfl (K74 μ x_3 x_2 hb)
  have K49 : ∀ (μ : Mem) (x0 : Int) (x1 : Int), b_J6_numberOfTrailingZeros_0f7a4_49 Post μ x0 x1 → V g X 2 μ [(0, Iv x0), (1, Iv x1)] 49 [] := by
    intro μ x0 x1 hb
    unfold b_J6_numberOfTrailingZeros_0f7a4_49 at hb
    refine r_iload_n (pc := 49) 0 F dJ6_numberOfTrailingZeros_0f7a4_49 rfl rfl ?_
    refine r_bipush (pc := 50) F dJ6_numberOfTrailingZeros_0f7a4_50 (inR_lit rfl) (by decide) ?_
    refine r_icmp_le (pc := 52) (tgt := 62) F dJ6_numberOfTrailingZeros_0f7a4_52 (by decide) (fun c_4 => ?_) (fun c_4 => ?_)
    · have hb := hb.1 c_4
      exact V.sub [0, 1] rfl (K62 μ x0 x1 hb)
    · have hb := hb.2 c_4
      refine r_iincN (pc := 55) 1 (lf := fun x_5 => [(1, Iv x_5), (0, Iv x0)]) F dJ6_numberOfTrailingZeros_0f7a4_55 rfl (by decide) rfl (fun x_5 ex_5 => ?_)
      have hb := hb x_5 ex_5
      refine r_iload_n (pc := 58) 1 F dJ6_numberOfTrailingZeros_0f7a4_58 rfl rfl ?_
      refine r_iconst (pc := 59) F dJ6_numberOfTrailingZeros_0f7a4_59 (inR_lit rfl) ?_
      refine r_iushr (pc := 60) F dJ6_numberOfTrailingZeros_0f7a4_60 ?_
      refine V.nmI (fun x_6 ex_6 => ?_)
      have hb := hb x_6 ex_6
      refine r_istore_n (pc := 61) (lv' := [(0, Iv x_6), (1, Iv x_5)]) F dJ6_numberOfTrailingZeros_0f7a4_61 rfl (by decide) rfl ?_
      exact V.sub [0, 1] rfl (K62 μ x_6 x_5 hb)
  have K34 : ∀ (μ : Mem) (x0 : Int) (x1 : Int), b_J6_numberOfTrailingZeros_0f7a4_34 Post μ x0 x1 → V g X 2 μ [(0, Iv x0), (1, Iv x1)] 34 [] := by
    intro μ x0 x1 hb
    unfold b_J6_numberOfTrailingZeros_0f7a4_34 at hb
    refine r_iload_n (pc := 34) 0 F dJ6_numberOfTrailingZeros_0f7a4_34 rfl rfl ?_
    refine r_sipush (pc := 35) F dJ6_numberOfTrailingZeros_0f7a4_35 (inR_lit rfl) (by decide) ?_
    refine r_icmp_le (pc := 38) (tgt := 49) F dJ6_numberOfTrailingZeros_0f7a4_38 (by decide) (fun c_7 => ?_) (fun c_7 => ?_)
    · have hb := hb.1 c_7
      exact V.sub [0, 1] rfl (K49 μ x0 x1 hb)
    · have hb := hb.2 c_7
      refine r_iincN (pc := 41) 1 (lf := fun x_8 => [(1, Iv x_8), (0, Iv x0)]) F dJ6_numberOfTrailingZeros_0f7a4_41 rfl (by decide) rfl (fun x_8 ex_8 => ?_)
      have hb := hb x_8 ex_8
      refine r_iload_n (pc := 44) 1 F dJ6_numberOfTrailingZeros_0f7a4_44 rfl rfl ?_
      refine r_bipush (pc := 45) F dJ6_numberOfTrailingZeros_0f7a4_45 (inR_lit rfl) (by decide) ?_
      refine r_iushr (pc := 47) F dJ6_numberOfTrailingZeros_0f7a4_47 ?_
      refine V.nmI (fun x_9 ex_9 => ?_)
      have hb := hb x_9 ex_9
      refine r_istore_n (pc := 48) (lv' := [(0, Iv x_9), (1, Iv x_8)]) F dJ6_numberOfTrailingZeros_0f7a4_48 rfl (by decide) rfl ?_
      exact V.sub [0, 1] rfl (K49 μ x_9 x_8 hb)
  have hb := hb
  unfold b_J6_numberOfTrailingZeros_0f7a4_e at hb
  refine r_iload_n (pc := 0) 0 F dJ6_numberOfTrailingZeros_0f7a4_0 rfl rfl ?_
  refine r_iconst (pc := 1) F dJ6_numberOfTrailingZeros_0f7a4_1 (inR_lit rfl) ?_
  refine r_ixor (pc := 2) F dJ6_numberOfTrailingZeros_0f7a4_2 ?_
  refine r_iload_n (pc := 3) 0 F dJ6_numberOfTrailingZeros_0f7a4_3 rfl rfl ?_
  refine r_iconst (pc := 4) F dJ6_numberOfTrailingZeros_0f7a4_4 (inR_lit rfl) ?_
  refine r_isub (pc := 5) F dJ6_numberOfTrailingZeros_0f7a4_5 ?_
  refine r_iand (pc := 6) F dJ6_numberOfTrailingZeros_0f7a4_6 ?_
  refine V.nmI (fun x_10 ex_10 => ?_)
  have hb := hb x_10 ex_10
  refine r_istore_n (pc := 7) (lv' := [(0, Iv x_10)]) F dJ6_numberOfTrailingZeros_0f7a4_7 rfl (by decide) rfl ?_
  refine r_iload_n (pc := 8) 0 F dJ6_numberOfTrailingZeros_0f7a4_8 rfl rfl ?_
  refine r_if_gt (pc := 9) (tgt := 17) F dJ6_numberOfTrailingZeros_0f7a4_9 (by decide) (fun c_11 => ?_) (fun c_11 => ?_)
  · have hb := hb.1 c_11
    refine r_iconst (pc := 17) F dJ6_numberOfTrailingZeros_0f7a4_17 (inR_lit rfl) ?_
    refine r_istore_n (pc := 18) (lv' := [(1, Iv 1), (0, Iv x_10)]) F dJ6_numberOfTrailingZeros_0f7a4_18 rfl (by decide) rfl ?_
    refine r_iload_n (pc := 19) 1 F dJ6_numberOfTrailingZeros_0f7a4_19 rfl rfl ?_
    refine r_ldcw (pc := 20) F kc_RJ6_264 (x := 65536) (by decide) (inR_lit rfl) dJ6_numberOfTrailingZeros_0f7a4_20 ?_
    refine r_icmp_le (pc := 23) (tgt := 34) F dJ6_numberOfTrailingZeros_0f7a4_23 (by decide) (fun c_12 => ?_) (fun c_12 => ?_)
    · have hb := hb.1 c_12
      exact V.sub [1, 0] rfl (K34 μ x_10 1 hb)
    · have hb := hb.2 c_12
      refine r_iincN (pc := 26) 0 (lf := fun x_13 => [(1, Iv x_13), (0, Iv x_10)]) F dJ6_numberOfTrailingZeros_0f7a4_26 rfl (by decide) rfl (fun x_13 ex_13 => ?_)
      have hb := hb x_13 ex_13
      refine r_iload_n (pc := 29) 1 F dJ6_numberOfTrailingZeros_0f7a4_29 rfl rfl ?_
      refine r_bipush (pc := 30) F dJ6_numberOfTrailingZeros_0f7a4_30 (inR_lit rfl) (by decide) ?_
      refine r_iushr (pc := 32) F dJ6_numberOfTrailingZeros_0f7a4_32 ?_
      refine V.nmI (fun x_14 ex_14 => ?_)
      have hb := hb x_14 ex_14
      refine r_istore_n (pc := 33) (lv' := [(0, Iv x_14), (1, Iv x_13)]) F dJ6_numberOfTrailingZeros_0f7a4_33 rfl (by decide) rfl ?_
      exact V.sub [0, 1] rfl (K34 μ x_14 x_13 hb)
  · have hb := hb.2 c_11
    refine r_iload_n (pc := 12) 0 F dJ6_numberOfTrailingZeros_0f7a4_12 rfl rfl ?_
    refine r_bipush (pc := 13) F dJ6_numberOfTrailingZeros_0f7a4_13 (inR_lit rfl) (by decide) ?_
    refine r_iand (pc := 15) F dJ6_numberOfTrailingZeros_0f7a4_15 ?_
    exact r_iret (pc := 16) F hR hr dJ6_numberOfTrailingZeros_0f7a4_16 hb
set_option maxHeartbeats 4000000 in
set_option maxRecDepth 100000 in
theorem c_J7_fill_53178 {g : Wc} {l : Launch} (μ : Mem) (p0 : Nat) (p1 : Int) (Post : Pst) (hb : wp_J7_fill_53178 μ p0 p1 Post) : MtC g l yJ7_fill_53178 cJ7_fill_53178 4 none 0 [Rv p0, Iv p1] μ (QV g Post) := by
  intro hok
  refine enter (own := RJ7) (by decide) rfl (Nat.le_of_ble_eq_true rfl) hok (fun X hl F hr hR => ?_)
  subst hl
  show V g X 4 μ [(0, Rv p0), (1, Iv p1)] 0 []
  unfold wp_J7_fill_53178 at hb
  obtain ⟨G5, g5, f5⟩ : ∃ G : Mem → Nat → Int → Int → Int → Prop, (∀ μ x0 x1 x2 x3, G μ x0 x1 x2 x3 → V g X 4 μ [(0, Rv x0), (1, Iv x1), (2, Iv x2), (3, Iv x3)] 5 []) ∧ (∀ μ x0 x1 x2 x3, V g X 4 μ [(0, Rv x0), (1, Iv x1), (2, Iv x2), (3, Iv x3)] 5 [] → G μ x0 x1 x2 x3) := ⟨fun μ x0 x1 x2 x3 => V g X 4 μ [(0, Rv x0), (1, Iv x1), (2, Iv x2), (3, Iv x3)] 5 [], fun _ _ _ _ _ h => h, fun _ _ _ _ _ h => h⟩
  have K5 : ∀ (μ : Mem) (x0 : Nat) (x1 : Int) (x2 : Int) (x3 : Int), b_J7_fill_53178_5 G5 Post μ x0 x1 x2 x3 → V g X 4 μ [(0, Rv x0), (1, Iv x1), (2, Iv x2), (3, Iv x3)] 5 [] := by
    intro μ x0 x1 x2 x3 hb
    unfold b_J7_fill_53178_5 at hb
    refine r_iload_n (pc := 5) 2 F dJ7_fill_53178_5 rfl rfl ?_
    refine r_iload_n (pc := 6) 3 F dJ7_fill_53178_6 rfl rfl ?_
    refine r_icmp_ge (pc := 7) (tgt := 20) F dJ7_fill_53178_7 (by decide) (fun c_1 => ?_) (fun c_1 => ?_)
    · have hb := hb.1 c_1
      exact r_vret (pc := 20) F hR hr dJ7_fill_53178_20 hb
    · have hb := hb.2 c_1
      refine r_aload_n (pc := 10) 0 F dJ7_fill_53178_10 rfl rfl ?_
      refine r_iload_n (pc := 11) 2 F dJ7_fill_53178_11 rfl rfl ?_
      refine r_iload_n (pc := 12) 1 F dJ7_fill_53178_12 rfl rfl ?_
      have hg_2 := hb.1
      have hb := hb.2
      refine r_iast (pc := 13) F hg_2.1 hg_2.2.1 rfl hg_2.2.2 dJ7_fill_53178_13 ?_
      refine V.nmM (fun μ_3 eμ_3 => ?_)
      have hb := hb μ_3 eμ_3
      refine r_iincN (pc := 14) 2 (lf := fun x_4 => [(2, Iv x_4), (0, Rv x0), (1, Iv x1), (3, Iv x3)]) F dJ7_fill_53178_14 rfl (by decide) rfl (fun x_4 ex_4 => ?_)
      have hb := hb x_4 ex_4
      refine r_goto (pc := 17) (tgt := 5) F dJ7_fill_53178_17 (by decide) ?_
      exact V.sub [1, 2, 0, 3] rfl (g5 μ_3 x0 x1 x_4 x3 hb)
  have hb := hb G5 (fun μ x0 x1 x2 x3 hb => f5 μ x0 x1 x2 x3 (K5 μ x0 x1 x2 x3 hb))
  unfold b_J7_fill_53178_e at hb
  refine r_iconst (pc := 0) F dJ7_fill_53178_0 (inR_lit rfl) ?_
  refine r_istore_n (pc := 1) (lv' := [(2, Iv 0), (0, Rv p0), (1, Iv p1)]) F dJ7_fill_53178_1 rfl (by decide) rfl ?_
  refine r_aload_n (pc := 2) 1 F dJ7_fill_53178_2 rfl rfl ?_
  have hg_5 := hb.1
  have hb := hb.2
  refine r_alen (pc := 3) F hg_5.1 hg_5.2 rfl (len_lt _) dJ7_fill_53178_3 ?_
  refine V.nmI (fun x_6 ex_6 => ?_)
  have hb := hb x_6 ex_6
  refine r_istore_n (pc := 4) (lv' := [(3, Iv x_6), (2, Iv 0), (0, Rv p0), (1, Iv p1)]) F dJ7_fill_53178_4 rfl (by decide) rfl ?_
  exact V.sub [2, 3, 1, 0] rfl (g5 μ p0 p1 0 x_6 hb)
set_option maxHeartbeats 4000000 in
set_option maxRecDepth 100000 in
theorem c_J7_rangeCheck_23922 {g : Wc} {l : Launch} (μ : Mem) (p0 : Int) (p1 : Int) (p2 : Int) (Post : Pst) (hb : wp_J7_rangeCheck_23922 μ p0 p1 p2 Post) : MtC g l yJ7_rangeCheck_23922 cJ7_rangeCheck_23922 3 none 0 [Iv p0, Iv p1, Iv p2] μ (QV g Post) := by
  intro hok
  refine enter (own := RJ7) (by decide) rfl (Nat.le_of_ble_eq_true rfl) hok (fun X hl F hr hR => ?_)
  subst hl
  show V g X 3 μ [(0, Iv p0), (1, Iv p1), (2, Iv p2)] 0 []
  unfold wp_J7_rangeCheck_23922 at hb
  have hb := hb
  unfold b_J7_rangeCheck_23922_e at hb
  refine r_iload_n (pc := 0) 1 F dJ7_rangeCheck_23922_0 rfl rfl ?_
  refine r_iload_n (pc := 1) 2 F dJ7_rangeCheck_23922_1 rfl rfl ?_
  refine r_icmp_le (pc := 2) (tgt := 46) F dJ7_rangeCheck_23922_2 (by decide) (fun c_1 => ?_) (fun c_1 => ?_)
  · have hb := hb.1 c_1
    refine r_iload_n (pc := 46) 1 F dJ7_rangeCheck_23922_46 rfl rfl ?_
    refine r_if_ge (pc := 47) (tgt := 59) F dJ7_rangeCheck_23922_47 (by decide) (fun c_2 => ?_) (fun c_2 => ?_)
    · have hb := hb.1 c_2
      refine r_iload_n (pc := 59) 2 F dJ7_rangeCheck_23922_59 rfl rfl ?_
      refine r_iload_n (pc := 60) 0 F dJ7_rangeCheck_23922_60 rfl rfl ?_
      refine r_icmp_le (pc := 61) (tgt := 73) F dJ7_rangeCheck_23922_61 (by decide) (fun c_3 => ?_) (fun c_3 => ?_)
      · have hb := hb.1 c_3
        exact r_vret (pc := 73) F hR hr dJ7_rangeCheck_23922_73 hb
      · have hb := hb.2 c_3
        exact hb.elim
    · have hb := hb.2 c_2
      exact hb.elim
  · have hb := hb.2 c_1
    exact hb.elim
set_option maxHeartbeats 4000000 in
set_option maxRecDepth 100000 in
theorem c_J7_fill_eb02e {g : Wc} {l : Launch} (μ : Mem) (p1 : Int) (p2 : Int) (p3 : Int) (Post : Pst) (hb : wp_J7_fill_eb02e μ p1 p2 p3 Post) : MtC g l yJ7_fill_eb02e cJ7_fill_eb02e 5 none 1 [Rv 23, Iv p1, Iv p2, Iv p3] μ (QV g Post) := by
  intro hok
  refine enter (own := RJ7) (by decide) rfl (Nat.le_of_ble_eq_true rfl) hok (fun X hl F hr hR => ?_)
  subst hl
  show V g X 5 μ [(0, Rv 23), (1, Iv p1), (2, Iv p2), (3, Iv p3)] 0 []
  unfold wp_J7_fill_eb02e at hb
  obtain ⟨G10, g10, f10⟩ : ∃ G : Mem → Int → Int → Int → Prop, (∀ μ x2 x3 x4, G μ x2 x3 x4 → V g X 5 μ [(0, Rv 23), (2, Iv x2), (3, Iv x3), (4, Iv x4)] 10 []) ∧ (∀ μ x2 x3 x4, V g X 5 μ [(0, Rv 23), (2, Iv x2), (3, Iv x3), (4, Iv x4)] 10 [] → G μ x2 x3 x4) := ⟨fun μ x2 x3 x4 => V g X 5 μ [(0, Rv 23), (2, Iv x2), (3, Iv x3), (4, Iv x4)] 10 [], fun _ _ _ _ h => h, fun _ _ _ _ h => h⟩
  have K10 : ∀ (μ : Mem) (x2 : Int) (x3 : Int) (x4 : Int), b_J7_fill_eb02e_10 G10 Post μ x2 x3 x4 → V g X 5 μ [(0, Rv 23), (2, Iv x2), (3, Iv x3), (4, Iv x4)] 10 [] := by
    intro μ x2 x3 x4 hb
    unfold b_J7_fill_eb02e_10 at hb
    refine r_iload (pc := 10) 3 F dJ7_fill_eb02e_10 rfl ?_
    refine r_iload_n (pc := 12) 1 F dJ7_fill_eb02e_12 rfl rfl ?_
    refine r_icmp_ge (pc := 13) (tgt := 27) F dJ7_fill_eb02e_13 (by decide) (fun c_1 => ?_) (fun c_1 => ?_)
    · have hb := hb.1 c_1
      exact r_vret (pc := 27) F hR hr dJ7_fill_eb02e_27 hb
    · have hb := hb.2 c_1
      refine r_aload_n (pc := 16) 0 F dJ7_fill_eb02e_16 rfl rfl ?_
      refine r_iload (pc := 17) 3 F dJ7_fill_eb02e_17 rfl ?_
      refine r_iload_n (pc := 19) 2 F dJ7_fill_eb02e_19 rfl rfl ?_
      refine r_bast (pc := 20) F hb.1 hb.2.1 dJ7_fill_eb02e_20 ?_
      have hb := hb.2.2
      refine V.nmM (fun μ_2 eμ_2 => ?_)
      have hb := hb μ_2 eμ_2
      refine r_iincN (pc := 21) 3 (lf := fun x_3 => [(4, Iv x_3), (0, Rv 23), (2, Iv x2), (3, Iv x3)]) F dJ7_fill_eb02e_21 rfl (by decide) rfl (fun x_3 ex_3 => ?_)
      have hb := hb x_3 ex_3
      refine r_goto (pc := 24) (tgt := 10) F dJ7_fill_eb02e_24 (by decide) ?_
      exact V.sub [1, 2, 3, 0] rfl (g10 μ_2 x2 x3 x_3 hb)
  have hb := hb G10 (fun μ x2 x3 x4 hb => f10 μ x2 x3 x4 (K10 μ x2 x3 x4 hb))
  unfold b_J7_fill_eb02e_e at hb
  refine r_aload_n (pc := 0) 0 F dJ7_fill_eb02e_0 rfl rfl ?_
  refine r_blen (pc := 1) F dJ7_fill_eb02e_1 ?_
  refine r_iload_n (pc := 2) 1 F dJ7_fill_eb02e_2 rfl rfl ?_
  refine r_iload_n (pc := 3) 2 F dJ7_fill_eb02e_3 rfl rfl ?_
  refine r_callSV (pc := 4) (avs := [Iv 4096, Iv p1, Iv p2]) (st := []) F (c_J7_rangeCheck_23922 μ 4096 p1 p2 _ hb) (by decide) cal_J7_rangeCheck_23922 st_J7_rangeCheck_23922 lk_RJ7_13 rfl rfl (Nat.le_of_ble_eq_true rfl) dJ7_fill_eb02e_4 (fun μ_5 hb => ?_)
  refine r_iload_n (pc := 7) 1 F dJ7_fill_eb02e_7 rfl rfl ?_
  refine r_istore (pc := 8) (lv' := [(4, Iv p1), (0, Rv 23), (1, Iv p1), (2, Iv p2), (3, Iv p3)]) F dJ7_fill_eb02e_8 (by decide) rfl ?_
  exact V.sub [1, 3, 4, 0] rfl (g10 μ_5 p2 p3 p1 hb)
set_option maxHeartbeats 4000000 in
set_option maxRecDepth 100000 in
theorem c_X10_isIn {g : Wc} {l : Launch} (μ : Mem) (p0 : Int) (p1 : Int) (Post : Pst) (hb : wp_X10_isIn μ p0 p1 Post) : MtC g l yX10_isIn cX10_isIn 2 (some .boolean) 0 [Iv p0, Iv p1] μ (QI g Post) := by
  intro hok
  refine enter (own := RX10) (by decide) rfl (Nat.le_of_ble_eq_true rfl) hok (fun X hl F hr hR => ?_)
  subst hl
  show V g X 2 μ [(0, Iv p0), (1, Iv p1)] 0 []
  unfold wp_X10_isIn at hb
  have hb := hb
  unfold b_X10_isIn_e at hb
  refine r_iload_n (pc := 0) 0 F dX10_isIn_0 rfl rfl ?_
  refine r_iconst (pc := 1) F dX10_isIn_1 (inR_lit rfl) ?_
  refine r_iload_n (pc := 2) 1 F dX10_isIn_2 rfl rfl ?_
  refine r_ishl (pc := 3) F dX10_isIn_3 ?_
  refine r_iand (pc := 4) F dX10_isIn_4 ?_
  refine r_if_eq (pc := 5) (tgt := 12) F dX10_isIn_5 (by decide) (fun c_1 => ?_) (fun c_1 => ?_)
  · have hb := hb.1 c_1
    refine r_iconst (pc := 12) F dX10_isIn_12 (inR_lit rfl) ?_
    exact r_zret (pc := 13) F hR hr dX10_isIn_13 (Or.inl rfl) hb
  · have hb := hb.2 c_1
    refine r_iconst (pc := 8) F dX10_isIn_8 (inR_lit rfl) ?_
    refine r_goto (pc := 9) (tgt := 13) F dX10_isIn_9 (by decide) ?_
    exact r_zret (pc := 13) F hR hr dX10_isIn_13 (Or.inr rfl) hb
set_option maxHeartbeats 4000000 in
set_option maxRecDepth 100000 in
theorem c_X0_longestOf {g : Wc} {l : Launch} (μ : Mem) (p0 : Int) (p1 : Int) (Post : Pst) (hb : wp_X0_longestOf μ p0 p1 Post) : MtC g l yX0_longestOf cX0_longestOf 6 (some .int) 1 [Rv 4, Iv p0, Iv p1] μ (QI g Post) := by
  intro hok
  refine enter (own := RX0) (by decide) rfl (Nat.le_of_ble_eq_true rfl) hok (fun X hl F hr hR => ?_)
  subst hl
  show V g X 6 μ [(0, Rv 4), (1, Iv p0), (2, Iv p1)] 0 []
  unfold wp_X0_longestOf at hb
  obtain ⟨G23, g23, f23⟩ : ∃ G : Mem → Int → Nat → Int → Int → Prop, (∀ μ x1 x3 x4 x5, G μ x1 x3 x4 x5 → V g X 6 μ [(0, Rv 4), (1, Iv x1), (3, Rv x3), (4, Iv x4), (5, Iv x5)] 23 []) ∧ (∀ μ x1 x3 x4 x5, V g X 6 μ [(0, Rv 4), (1, Iv x1), (3, Rv x3), (4, Iv x4), (5, Iv x5)] 23 [] → G μ x1 x3 x4 x5) := ⟨fun μ x1 x3 x4 x5 => V g X 6 μ [(0, Rv 4), (1, Iv x1), (3, Rv x3), (4, Iv x4), (5, Iv x5)] 23 [], fun _ _ _ _ _ h => h, fun _ _ _ _ _ h => h⟩
  have K67 : ∀ (μ : Mem) (x1 : Int) (x3 : Nat) (x4 : Int) (x5 : Int), b_X0_longestOf_67 G23 Post μ x1 x3 x4 x5 → V g X 6 μ [(0, Rv 4), (1, Iv x1), (3, Rv x3), (4, Iv x4), (5, Iv x5)] 67 [] := by
    intro μ x1 x3 x4 x5 hb
    unfold b_X0_longestOf_67 at hb
    refine r_iincN (pc := 67) 4 (lf := fun x_1 => [(5, Iv x_1), (0, Rv 4), (1, Iv x1), (3, Rv x3), (4, Iv x4)]) F dX0_longestOf_67 rfl (by decide) rfl (fun x_1 ex_1 => ?_)
    have hb := hb x_1 ex_1
    refine r_goto (pc := 70) (tgt := 23) F dX0_longestOf_70 (by decide) ?_
    exact V.sub [1, 2, 3, 4, 0] rfl (g23 μ x1 x3 x4 x_1 hb)
  have K23 : ∀ (μ : Mem) (x1 : Int) (x3 : Nat) (x4 : Int) (x5 : Int), b_X0_longestOf_23 G23 Post μ x1 x3 x4 x5 → V g X 6 μ [(0, Rv 4), (1, Iv x1), (3, Rv x3), (4, Iv x4), (5, Iv x5)] 23 [] := by
    intro μ x1 x3 x4 x5 hb
    unfold b_X0_longestOf_23 at hb
    refine r_iload (pc := 23) 4 F dX0_longestOf_23 rfl ?_
    refine r_if_lt (pc := 25) (tgt := 73) F dX0_longestOf_25 (by decide) (fun c_2 => ?_) (fun c_2 => ?_)
    · have hb := hb.1 c_2
      refine r_iload (pc := 73) 3 F dX0_longestOf_73 rfl ?_
      exact r_iret (pc := 75) F hR hr dX0_longestOf_75 hb
    · have hb := hb.2 c_2
      refine r_iload_n (pc := 28) 1 F dX0_longestOf_28 rfl rfl ?_
      refine r_aload_n (pc := 29) 0 F dX0_longestOf_29 rfl rfl ?_
      refine gf_RX0_9 (pc := 30) F dX0_longestOf_30 ?_
      refine r_iload (pc := 33) 4 F dX0_longestOf_33 rfl ?_
      have hg_3 := hb.1
      have hb := hb.2
      refine r_iald (pc := 35) F lc80.1 lc80.2.1 lc80.2.2 hg_3 dX0_longestOf_35 ?_
      refine r_callNI (pc := 36) (avs := [Iv x1, Iv (μ 80 x5.toNat)]) (st := []) F (c_X10_isIn μ x1 (μ 80 x5.toNat) _ hb) (by decide) cal_X10_isIn st_X10_isIn lk_RX0_55 rfl rfl (Nat.le_of_ble_eq_true rfl) dX0_longestOf_36 (fun r_4 μ_5 hb => ?_)
      refine r_if_eq (pc := 39) (tgt := 67) F dX0_longestOf_39 (by decide) (fun c_6 => ?_) (fun c_6 => ?_)
      · have hb := hb.1 c_6
        exact V.sub [0, 1, 2, 3, 4] rfl (K67 μ_5 x1 x3 x4 x5 hb)
      · have hb := hb.2 c_6
        refine r_aload_n (pc := 42) 2 F dX0_longestOf_42 rfl rfl ?_
        refine r_aload_n (pc := 43) 0 F dX0_longestOf_43 rfl rfl ?_
        refine gf_RX0_9 (pc := 44) F dX0_longestOf_44 ?_
        refine r_iload (pc := 47) 4 F dX0_longestOf_47 rfl ?_
        have hg_7 := hb.1
        have hb := hb.2
        refine r_iald (pc := 49) F lc80.1 lc80.2.1 lc80.2.2 hg_7 dX0_longestOf_49 ?_
        have hg_8 := hb.1
        have hb := hb.2
        refine r_iald (pc := 50) F hg_8.1 hg_8.2.1 rfl hg_8.2.2 dX0_longestOf_50 ?_
        refine r_aload_n (pc := 51) 2 F dX0_longestOf_51 rfl rfl ?_
        refine r_iload (pc := 52) 3 F dX0_longestOf_52 rfl ?_
        have hg_9 := hb.1
        have hb := hb.2
        refine r_iald (pc := 54) F hg_9.1 hg_9.2.1 rfl hg_9.2.2 dX0_longestOf_54 ?_
        refine r_icmp_le (pc := 55) (tgt := 67) F dX0_longestOf_55 (by decide) (fun c_10 => ?_) (fun c_10 => ?_)
        · have hb := hb.1 c_10
          exact V.sub [0, 1, 2, 3, 4] rfl (K67 μ_5 x1 x3 x4 x5 hb)
        · have hb := hb.2 c_10
          refine r_aload_n (pc := 58) 0 F dX0_longestOf_58 rfl rfl ?_
          refine gf_RX0_9 (pc := 59) F dX0_longestOf_59 ?_
          refine r_iload (pc := 62) 4 F dX0_longestOf_62 rfl ?_
          have hg_11 := hb.1
          have hb := hb.2
          refine r_iald (pc := 64) F lc80.1 lc80.2.1 lc80.2.2 hg_11 dX0_longestOf_64 ?_
          refine V.nmI (fun x_12 ex_12 => ?_)
          have hb := hb x_12 ex_12
          refine r_istore (pc := 65) (lv' := [(4, Iv x_12), (0, Rv 4), (1, Iv x1), (3, Rv x3), (5, Iv x5)]) F dX0_longestOf_65 (by decide) rfl ?_
          exact V.sub [1, 2, 3, 0, 4] rfl (K67 μ_5 x1 x3 x_12 x5 hb)
  have hb := hb G23 (fun μ x1 x3 x4 x5 hb => f23 μ x1 x3 x4 x5 (K23 μ x1 x3 x4 x5 hb))
  unfold b_X0_longestOf_e at hb
  refine r_aload_n (pc := 0) 0 F dX0_longestOf_0 rfl rfl ?_
  refine gf_RX0_15 (pc := 1) F dX0_longestOf_1 ?_
  refine gf_RX0_47 (pc := 4) F dX0_longestOf_4 ?_
  refine r_iconst (pc := 7) F dX0_longestOf_7 (inR_lit rfl) ?_
  refine r_aaldk (pc := 8) (e := 24) F (c := 12) (by decide) (by decide) rfl (by decide) ⟨by decide, by decide⟩ dX0_longestOf_8 ?_
  refine r_astore_n (pc := 9) (lv' := [(3, Rv 24), (0, Rv 4), (1, Iv p0), (2, Iv p1)]) F dX0_longestOf_9 rfl (by decide) rfl ?_
  refine r_aload_n (pc := 10) 1 F dX0_longestOf_10 rfl rfl ?_
  refine gf_RX0_9 (pc := 11) F dX0_longestOf_11 ?_
  refine r_iload_n (pc := 14) 3 F dX0_longestOf_14 rfl rfl ?_
  have hg_13 := hb.1
  have hb := hb.2
  refine r_iald (pc := 15) F lc80.1 lc80.2.1 lc80.2.2 hg_13 dX0_longestOf_15 ?_
  refine V.nmI (fun x_14 ex_14 => ?_)
  have hb := hb x_14 ex_14
  refine r_istore (pc := 16) (lv' := [(4, Iv x_14), (3, Rv 24), (0, Rv 4), (1, Iv p0), (2, Iv p1)]) F dX0_longestOf_16 (by decide) rfl ?_
  refine r_iload_n (pc := 18) 4 F dX0_longestOf_18 rfl rfl ?_
  refine r_iconst (pc := 19) F dX0_longestOf_19 (inR_lit rfl) ?_
  refine r_isub (pc := 20) F dX0_longestOf_20 ?_
  refine V.nmI (fun x_15 ex_15 => ?_)
  have hb := hb x_15 ex_15
  refine r_istore (pc := 21) (lv' := [(5, Iv x_15), (4, Iv x_14), (3, Rv 24), (0, Rv 4), (1, Iv p0), (2, Iv p1)]) F dX0_longestOf_21 (by decide) rfl ?_
  exact V.sub [3, 4, 2, 1, 0] rfl (g23 μ p0 24 x_14 x_15 hb)
set_option maxHeartbeats 4000000 in
set_option maxRecDepth 100000 in
theorem c_X0_orderByDue {g : Wc} {l : Launch} (μ : Mem) (Post : Pst) (hb : wp_X0_orderByDue μ Post) : MtC g l yX0_orderByDue cX0_orderByDue 4 none 0 [Rv 4] μ (QV g Post) := by
  intro hok
  refine enter (own := RX0) (by decide) rfl (Nat.le_of_ble_eq_true rfl) hok (fun X hl F hr hR => ?_)
  subst hl
  show V g X 4 μ [(0, Rv 4)] 0 []
  unfold wp_X0_orderByDue at hb
  obtain ⟨G12, g12, f12⟩ : ∃ G : Mem → Nat → Int → Prop, (∀ μ x1 x2, G μ x1 x2 → V g X 4 μ [(0, Rv 4), (1, Rv x1), (2, Iv x2)] 12 []) ∧ (∀ μ x1 x2, V g X 4 μ [(0, Rv 4), (1, Rv x1), (2, Iv x2)] 12 [] → G μ x1 x2) := ⟨fun μ x1 x2 => V g X 4 μ [(0, Rv 4), (1, Rv x1), (2, Iv x2)] 12 [], fun _ _ _ h => h, fun _ _ _ h => h⟩
  obtain ⟨G25, g25, f25⟩ : ∃ G : Mem → Nat → Int → Int → Prop, (∀ μ x1 x2 x3, G μ x1 x2 x3 → V g X 4 μ [(0, Rv 4), (1, Rv x1), (2, Iv x2), (3, Iv x3)] 25 []) ∧ (∀ μ x1 x2 x3, V g X 4 μ [(0, Rv 4), (1, Rv x1), (2, Iv x2), (3, Iv x3)] 25 [] → G μ x1 x2 x3) := ⟨fun μ x1 x2 x3 => V g X 4 μ [(0, Rv 4), (1, Rv x1), (2, Iv x2), (3, Iv x3)] 25 [], fun _ _ _ _ h => h, fun _ _ _ _ h => h⟩
  have K65 : ∀ (μ : Mem) (x1 : Nat) (x2 : Int) (x3 : Int), b_X0_orderByDue_65 G12 G25 Post μ x1 x2 x3 → V g X 4 μ [(0, Rv 4), (1, Rv x1), (2, Iv x2), (3, Iv x3)] 65 [] := by
    intro μ x1 x2 x3 hb
    unfold b_X0_orderByDue_65 at hb
    refine r_aload_n (pc := 65) 0 F dX0_orderByDue_65 rfl rfl ?_
    refine gf_RX0_9 (pc := 66) F dX0_orderByDue_66 ?_
    refine r_iload_n (pc := 69) 3 F dX0_orderByDue_69 rfl rfl ?_
    refine r_iload_n (pc := 70) 2 F dX0_orderByDue_70 rfl rfl ?_
    have hg_1 := hb.1
    have hb := hb.2
    refine r_iast (pc := 71) F lc80.1 lc80.2.1 lc80.2.2 hg_1 dX0_orderByDue_71 ?_
    refine V.nmM (fun μ_2 eμ_2 => ?_)
    have hb := hb μ_2 eμ_2
    refine r_iincN (pc := 72) 2 (lf := fun x_3 => [(2, Iv x_3), (0, Rv 4), (1, Rv x1), (3, Iv x3)]) F dX0_orderByDue_72 rfl (by decide) rfl (fun x_3 ex_3 => ?_)
    have hb := hb x_3 ex_3
    refine r_goto (pc := 75) (tgt := 12) F dX0_orderByDue_75 (by decide) ?_
    exact V.sub [1, 2, 0] rfl (g12 μ_2 x1 x_3 hb)
  have K12 : ∀ (μ : Mem) (x1 : Nat) (x2 : Int), b_X0_orderByDue_12 G12 G25 Post μ x1 x2 → V g X 4 μ [(0, Rv 4), (1, Rv x1), (2, Iv x2)] 12 [] := by
    intro μ x1 x2 hb
    unfold b_X0_orderByDue_12 at hb
    refine r_iload_n (pc := 12) 2 F dX0_orderByDue_12 rfl rfl ?_
    refine r_aload_n (pc := 13) 0 F dX0_orderByDue_13 rfl rfl ?_
    refine gf_RX0_15 (pc := 14) F dX0_orderByDue_14 ?_
    refine gf_RX0_32 (pc := 17) F dX0_orderByDue_17 ?_
    refine r_icmp_ge (pc := 20) (tgt := 78) F dX0_orderByDue_20 (by decide) (fun c_4 => ?_) (fun c_4 => ?_)
    · have hb := hb.1 c_4
      exact r_vret (pc := 78) F hR hr dX0_orderByDue_78 hb
    · have hb := hb.2 c_4
      refine r_iload_n (pc := 23) 2 F dX0_orderByDue_23 rfl rfl ?_
      refine r_istore_n (pc := 24) (lv' := [(3, Iv x2), (0, Rv 4), (1, Rv x1), (2, Iv x2)]) F dX0_orderByDue_24 rfl (by decide) rfl ?_
      exact V.sub [1, 2, 3, 0] rfl (g25 μ x1 x2 x2 hb)
  have K25 : ∀ (μ : Mem) (x1 : Nat) (x2 : Int) (x3 : Int), b_X0_orderByDue_25 G12 G25 Post μ x1 x2 x3 → V g X 4 μ [(0, Rv 4), (1, Rv x1), (2, Iv x2), (3, Iv x3)] 25 [] := by
    intro μ x1 x2 x3 hb
    unfold b_X0_orderByDue_25 at hb
    refine r_iload_n (pc := 25) 3 F dX0_orderByDue_25 rfl rfl ?_
    refine r_if_le (pc := 26) (tgt := 65) F dX0_orderByDue_26 (by decide) (fun c_5 => ?_) (fun c_5 => ?_)
    · have hb := hb.1 c_5
      exact V.sub [0, 1, 2, 3] rfl (K65 μ x1 x2 x3 hb)
    · have hb := hb.2 c_5
      refine r_aload_n (pc := 29) 1 F dX0_orderByDue_29 rfl rfl ?_
      refine r_aload_n (pc := 30) 0 F dX0_orderByDue_30 rfl rfl ?_
      refine gf_RX0_9 (pc := 31) F dX0_orderByDue_31 ?_
      refine r_iload_n (pc := 34) 3 F dX0_orderByDue_34 rfl rfl ?_
      refine r_iconst (pc := 35) F dX0_orderByDue_35 (inR_lit rfl) ?_
      refine r_isub (pc := 36) F dX0_orderByDue_36 ?_
      have hg_6 := hb.1
      have hb := hb.2
      refine r_iald (pc := 37) F lc80.1 lc80.2.1 lc80.2.2 hg_6 dX0_orderByDue_37 ?_
      have hg_7 := hb.1
      have hb := hb.2
      refine r_iald (pc := 38) F hg_7.1 hg_7.2.1 rfl hg_7.2.2 dX0_orderByDue_38 ?_
      refine r_aload_n (pc := 39) 1 F dX0_orderByDue_39 rfl rfl ?_
      refine r_iload_n (pc := 40) 2 F dX0_orderByDue_40 rfl rfl ?_
      have hg_8 := hb.1
      have hb := hb.2
      refine r_iald (pc := 41) F hg_8.1 hg_8.2.1 rfl hg_8.2.2 dX0_orderByDue_41 ?_
      refine r_icmp_le (pc := 42) (tgt := 65) F dX0_orderByDue_42 (by decide) (fun c_9 => ?_) (fun c_9 => ?_)
      · have hb := hb.1 c_9
        exact V.sub [0, 1, 2, 3] rfl (K65 μ x1 x2 x3 hb)
      · have hb := hb.2 c_9
        refine r_aload_n (pc := 45) 0 F dX0_orderByDue_45 rfl rfl ?_
        refine gf_RX0_9 (pc := 46) F dX0_orderByDue_46 ?_
        refine r_iload_n (pc := 49) 3 F dX0_orderByDue_49 rfl rfl ?_
        refine r_aload_n (pc := 50) 0 F dX0_orderByDue_50 rfl rfl ?_
        refine gf_RX0_9 (pc := 51) F dX0_orderByDue_51 ?_
        refine r_iload_n (pc := 54) 3 F dX0_orderByDue_54 rfl rfl ?_
        refine r_iconst (pc := 55) F dX0_orderByDue_55 (inR_lit rfl) ?_
        refine r_isub (pc := 56) F dX0_orderByDue_56 ?_
        have hg_10 := hb.1
        have hb := hb.2
        refine r_iald (pc := 57) F lc80.1 lc80.2.1 lc80.2.2 hg_10 dX0_orderByDue_57 ?_
        have hg_11 := hb.1
        have hb := hb.2
        refine r_iast (pc := 58) F lc80.1 lc80.2.1 lc80.2.2 hg_11 dX0_orderByDue_58 ?_
        refine V.nmM (fun μ_12 eμ_12 => ?_)
        have hb := hb μ_12 eμ_12
        refine r_iincN (pc := 59) 3 (lf := fun x_13 => [(3, Iv x_13), (0, Rv 4), (1, Rv x1), (2, Iv x2)]) F dX0_orderByDue_59 rfl (by decide) rfl (fun x_13 ex_13 => ?_)
        have hb := hb x_13 ex_13
        refine r_goto (pc := 62) (tgt := 25) F dX0_orderByDue_62 (by decide) ?_
        exact V.sub [1, 2, 3, 0] rfl (g25 μ_12 x1 x2 x_13 hb)
  have hb := hb G12 G25 (fun μ x1 x2 hb => f12 μ x1 x2 (K12 μ x1 x2 hb)) (fun μ x1 x2 x3 hb => f25 μ x1 x2 x3 (K25 μ x1 x2 x3 hb))
  unfold b_X0_orderByDue_e at hb
  refine r_aload_n (pc := 0) 0 F dX0_orderByDue_0 rfl rfl ?_
  refine gf_RX0_15 (pc := 1) F dX0_orderByDue_1 ?_
  refine gf_RX0_47 (pc := 4) F dX0_orderByDue_4 ?_
  refine r_iconst (pc := 7) F dX0_orderByDue_7 (inR_lit rfl) ?_
  refine r_aaldk (pc := 8) (e := 26) F (c := 12) (by decide) (by decide) rfl (by decide) ⟨by decide, by decide⟩ dX0_orderByDue_8 ?_
  refine r_astore_n (pc := 9) (lv' := [(1, Rv 26), (0, Rv 4)]) F dX0_orderByDue_9 rfl (by decide) rfl ?_
  refine r_iconst (pc := 10) F dX0_orderByDue_10 (inR_lit rfl) ?_
  refine r_istore_n (pc := 11) (lv' := [(2, Iv 0), (1, Rv 26), (0, Rv 4)]) F dX0_orderByDue_11 rfl (by decide) rfl ?_
  exact V.sub [2, 1, 0] rfl (g12 μ 26 0 hb)
set_option maxHeartbeats 4000000 in
set_option maxRecDepth 100000 in
theorem c_X9_late {g : Wc} {l : Launch} (μ : Mem) (p0 : Int) (p1 : Int) (Post : Pst) (hb : wp_X9_late μ p0 p1 Post) : MtC g l yX9_late cX9_late 3 (some .int) 1 [Rv 1, Iv p0, Iv p1] μ (QI g Post) := by
  intro hok
  refine enter (own := RX9) (by decide) rfl (Nat.le_of_ble_eq_true rfl) hok (fun X hl F hr hR => ?_)
  subst hl
  show V g X 3 μ [(0, Rv 1), (1, Iv p0), (2, Iv p1)] 0 []
  unfold wp_X9_late at hb
  have hb := hb
  unfold b_X9_late_e at hb
  refine r_iconst (pc := 0) F dX9_late_0 (inR_lit rfl) ?_
  refine r_iload_n (pc := 1) 2 F dX9_late_1 rfl rfl ?_
  refine r_aload_n (pc := 2) 0 F dX9_late_2 rfl rfl ?_
  refine gf_RX9_11 (pc := 3) F dX9_late_3 ?_
  refine r_iconst (pc := 6) F dX9_late_6 (inR_lit rfl) ?_
  refine r_aaldk (pc := 7) (e := 26) F (c := 12) (by decide) (by decide) rfl (by decide) ⟨by decide, by decide⟩ dX9_late_7 ?_
  refine r_iload_n (pc := 8) 1 F dX9_late_8 rfl rfl ?_
  have hg_1 := hb.1
  have hb := hb.2
  refine r_iald (pc := 9) F lc26.1 lc26.2.1 lc26.2.2 hg_1 dX9_late_9 ?_
  refine r_isub (pc := 10) F dX9_late_10 ?_
  refine r_max (pc := 11) F (by first | decide | omega) lk_RX9_50 km_max.1 km_max.2.1 km_max.2.2 (Nat.le_of_ble_eq_true rfl) dX9_late_11 ?_
  exact r_iret (pc := 14) F hR hr dX9_late_14 hb
set_option maxHeartbeats 4000000 in
set_option maxRecDepth 100000 in
theorem c_X0_fewestLate {g : Wc} {l : Launch} (μ : Mem) (Post : Pst) (hb : wp_X0_fewestLate μ Post) : MtC g l yX0_fewestLate cX0_fewestLate 6 (some .int) 2 [Rv 4] μ (QI g Post) := by
  intro hok
  refine enter (own := RX0) (by decide) rfl (Nat.le_of_ble_eq_true rfl) hok (fun X hl F hr hR => ?_)
  subst hl
  show V g X 6 μ [(0, Rv 4)] 0 []
  unfold wp_X0_fewestLate at hb
  obtain ⟨G10, g10, f10⟩ : ∃ G : Mem → Int → Int → Int → Prop, (∀ μ x1 x2 x3, G μ x1 x2 x3 → V g X 6 μ [(0, Rv 4), (1, Iv x1), (2, Iv x2), (3, Iv x3)] 10 []) ∧ (∀ μ x1 x2 x3, V g X 6 μ [(0, Rv 4), (1, Iv x1), (2, Iv x2), (3, Iv x3)] 10 [] → G μ x1 x2 x3) := ⟨fun μ x1 x2 x3 => V g X 6 μ [(0, Rv 4), (1, Iv x1), (2, Iv x2), (3, Iv x3)] 10 [], fun _ _ _ _ h => h, fun _ _ _ _ h => h⟩
  have K96 : ∀ (μ : Mem) (x1 : Int) (x2 : Int) (x3 : Int), b_X0_fewestLate_96 G10 Post μ x1 x2 x3 → V g X 6 μ [(0, Rv 4), (1, Iv x1), (2, Iv x2), (3, Iv x3)] 96 [] := by
    intro μ x1 x2 x3 hb
    unfold b_X0_fewestLate_96 at hb
    refine r_iincN (pc := 96) 3 (lf := fun x_1 => [(3, Iv x_1), (0, Rv 4), (1, Iv x1), (2, Iv x2)]) F dX0_fewestLate_96 rfl (by decide) rfl (fun x_1 ex_1 => ?_)
    have hb := hb x_1 ex_1
    refine r_goto (pc := 99) (tgt := 10) F dX0_fewestLate_99 (by decide) ?_
    exact V.sub [1, 2, 3, 0] rfl (g10 μ x1 x2 x_1 hb)
  have K10 : ∀ (μ : Mem) (x1 : Int) (x2 : Int) (x3 : Int), b_X0_fewestLate_10 G10 Post μ x1 x2 x3 → V g X 6 μ [(0, Rv 4), (1, Iv x1), (2, Iv x2), (3, Iv x3)] 10 [] := by
    intro μ x1 x2 x3 hb
    unfold b_X0_fewestLate_10 at hb
    refine r_iload_n (pc := 10) 3 F dX0_fewestLate_10 rfl rfl ?_
    refine r_aload_n (pc := 11) 0 F dX0_fewestLate_11 rfl rfl ?_
    refine gf_RX0_15 (pc := 12) F dX0_fewestLate_12 ?_
    refine gf_RX0_32 (pc := 15) F dX0_fewestLate_15 ?_
    refine r_icmp_ge (pc := 18) (tgt := 102) F dX0_fewestLate_18 (by decide) (fun c_2 => ?_) (fun c_2 => ?_)
    · have hb := hb.1 c_2
      refine r_iload_n (pc := 102) 1 F dX0_fewestLate_102 rfl rfl ?_
      exact r_iret (pc := 103) F hR hr dX0_fewestLate_103 hb
    · have hb := hb.2 c_2
      refine r_aload_n (pc := 21) 0 F dX0_fewestLate_21 rfl rfl ?_
      refine gf_RX0_9 (pc := 22) F dX0_fewestLate_22 ?_
      refine r_iload_n (pc := 25) 3 F dX0_fewestLate_25 rfl rfl ?_
      have hg_3 := hb.1
      have hb := hb.2
      refine r_iald (pc := 26) F lc80.1 lc80.2.1 lc80.2.2 hg_3 dX0_fewestLate_26 ?_
      refine V.nmI (fun x_4 ex_4 => ?_)
      have hb := hb x_4 ex_4
      refine r_istore (pc := 27) (lv' := [(4, Iv x_4), (0, Rv 4), (1, Iv x1), (2, Iv x2), (3, Iv x3)]) F dX0_fewestLate_27 (by decide) rfl ?_
      refine r_iload_n (pc := 29) 2 F dX0_fewestLate_29 rfl rfl ?_
      refine r_iconst (pc := 30) F dX0_fewestLate_30 (inR_lit rfl) ?_
      refine r_iload (pc := 31) 0 F dX0_fewestLate_31 rfl ?_
      refine r_ishl (pc := 33) F dX0_fewestLate_33 ?_
      refine r_ior (pc := 34) F dX0_fewestLate_34 ?_
      refine V.nmI (fun x_5 ex_5 => ?_)
      have hb := hb x_5 ex_5
      refine r_istore_n (pc := 35) (lv' := [(1, Iv x_5), (4, Iv x_4), (0, Rv 4), (2, Iv x2), (3, Iv x3)]) F dX0_fewestLate_35 rfl (by decide) rfl ?_
      refine r_iload_n (pc := 36) 3 F dX0_fewestLate_36 rfl rfl ?_
      refine r_aload_n (pc := 37) 2 F dX0_fewestLate_37 rfl rfl ?_
      refine gf_RX0_15 (pc := 38) F dX0_fewestLate_38 ?_
      refine gf_RX0_47 (pc := 41) F dX0_fewestLate_41 ?_
      refine r_iconst (pc := 44) F dX0_fewestLate_44 (inR_lit rfl) ?_
      refine r_aaldk (pc := 45) (e := 24) F (c := 12) (by decide) (by decide) rfl (by decide) ⟨by decide, by decide⟩ dX0_fewestLate_45 ?_
      refine r_iload (pc := 46) 1 F dX0_fewestLate_46 rfl ?_
      have hg_6 := hb.1
      have hb := hb.2
      refine r_iald (pc := 48) F lc24.1 lc24.2.1 lc24.2.2 hg_6 dX0_fewestLate_48 ?_
      refine r_iadd (pc := 49) F dX0_fewestLate_49 ?_
      refine V.nmI (fun x_7 ex_7 => ?_)
      have hb := hb x_7 ex_7
      refine r_istore_n (pc := 50) (lv' := [(2, Iv x_7), (1, Iv x_5), (4, Iv x_4), (0, Rv 4), (3, Iv x3)]) F dX0_fewestLate_50 rfl (by decide) rfl ?_
      refine r_aload_n (pc := 51) 3 F dX0_fewestLate_51 rfl rfl ?_
      refine gf_RX0_15 (pc := 52) F dX0_fewestLate_52 ?_
      refine r_iload (pc := 55) 2 F dX0_fewestLate_55 rfl ?_
      refine r_iload_n (pc := 57) 0 F dX0_fewestLate_57 rfl rfl ?_
      refine r_callI (pc := 58) (avs := [Iv x_4, Iv x_7]) (st := []) F (c_X9_late μ x_4 x_7 _ hb) (by decide) cal_X9_late calv_X9_late lk_RX0_39 rfl rfl (Nat.le_of_ble_eq_true rfl) dX0_fewestLate_58 (fun r_8 μ_9 hb => ?_)
      refine r_if_le (pc := 61) (tgt := 96) F dX0_fewestLate_61 (by decide) (fun c_10 => ?_) (fun c_10 => ?_)
      · have hb := hb.1 c_10
        exact V.sub [3, 1, 0, 4] rfl (K96 μ_9 x_5 x_7 x3 hb)
      · have hb := hb.2 c_10
        refine r_aload_n (pc := 64) 3 F dX0_fewestLate_64 rfl rfl ?_
        refine r_iload_n (pc := 65) 1 F dX0_fewestLate_65 rfl rfl ?_
        refine r_iload_n (pc := 66) 4 F dX0_fewestLate_66 rfl rfl ?_
        refine r_callI (pc := 67) (avs := [Iv x_5, Iv x3]) (st := []) F (c_X0_longestOf μ_9 x_5 x3 _ hb) (by decide) cal_X0_longestOf calv_X0_longestOf lk_RX0_65 rfl rfl (Nat.le_of_ble_eq_true rfl) dX0_fewestLate_67 (fun r_11 μ_12 hb => ?_)
        refine r_istore (pc := 70) (lv' := [(5, Iv r_11), (2, Iv x_7), (1, Iv x_5), (4, Iv x_4), (0, Rv 4), (3, Iv x3)]) F dX0_fewestLate_70 (by decide) rfl ?_
        refine r_iload_n (pc := 72) 2 F dX0_fewestLate_72 rfl rfl ?_
        refine r_iconst (pc := 73) F dX0_fewestLate_73 (inR_lit rfl) ?_
        refine r_iload (pc := 74) 0 F dX0_fewestLate_74 rfl ?_
        refine r_ishl (pc := 76) F dX0_fewestLate_76 ?_
        refine r_iconst (pc := 77) F dX0_fewestLate_77 (inR_lit rfl) ?_
        refine r_ixor (pc := 78) F dX0_fewestLate_78 ?_
        refine r_iand (pc := 79) F dX0_fewestLate_79 ?_
        refine V.nmI (fun x_13 ex_13 => ?_)
        have hb := hb x_13 ex_13
        refine r_istore_n (pc := 80) (lv' := [(1, Iv x_13), (5, Iv r_11), (2, Iv x_7), (4, Iv x_4), (0, Rv 4), (3, Iv x3)]) F dX0_fewestLate_80 rfl (by decide) rfl ?_
        refine r_iload_n (pc := 81) 2 F dX0_fewestLate_81 rfl rfl ?_
        refine r_aload_n (pc := 82) 4 F dX0_fewestLate_82 rfl rfl ?_
        refine gf_RX0_15 (pc := 83) F dX0_fewestLate_83 ?_
        refine gf_RX0_47 (pc := 86) F dX0_fewestLate_86 ?_
        refine r_iconst (pc := 89) F dX0_fewestLate_89 (inR_lit rfl) ?_
        refine r_aaldk (pc := 90) (e := 24) F (c := 12) (by decide) (by decide) rfl (by decide) ⟨by decide, by decide⟩ dX0_fewestLate_90 ?_
        refine r_iload (pc := 91) 1 F dX0_fewestLate_91 rfl ?_
        have hg_14 := hb.1
        have hb := hb.2
        refine r_iald (pc := 93) F lc24.1 lc24.2.1 lc24.2.2 hg_14 dX0_fewestLate_93 ?_
        refine r_isub (pc := 94) F dX0_fewestLate_94 ?_
        refine V.nmI (fun x_15 ex_15 => ?_)
        have hb := hb x_15 ex_15
        refine r_istore_n (pc := 95) (lv' := [(2, Iv x_15), (1, Iv x_13), (5, Iv r_11), (4, Iv x_4), (0, Rv 4), (3, Iv x3)]) F dX0_fewestLate_95 rfl (by decide) rfl ?_
        exact V.sub [4, 1, 0, 5] rfl (K96 μ_12 x_13 x_15 x3 hb)
  have hb := hb G10 (fun μ x1 x2 x3 hb => f10 μ x1 x2 x3 (K10 μ x1 x2 x3 hb))
  unfold b_X0_fewestLate_e at hb
  refine r_aload_n (pc := 0) 0 F dX0_fewestLate_0 rfl rfl ?_
  refine r_callV (pc := 1) (avs := []) (st := []) F (c_X0_orderByDue μ _ hb) (by decide) cal_X0_orderByDue calv_X0_orderByDue lk_RX0_62 rfl rfl (Nat.le_of_ble_eq_true rfl) dX0_fewestLate_1 (fun μ_17 hb => ?_)
  refine r_iconst (pc := 4) F dX0_fewestLate_4 (inR_lit rfl) ?_
  refine r_istore_n (pc := 5) (lv' := [(1, Iv 0), (0, Rv 4)]) F dX0_fewestLate_5 rfl (by decide) rfl ?_
  refine r_iconst (pc := 6) F dX0_fewestLate_6 (inR_lit rfl) ?_
  refine r_istore_n (pc := 7) (lv' := [(2, Iv 0), (1, Iv 0), (0, Rv 4)]) F dX0_fewestLate_7 rfl (by decide) rfl ?_
  refine r_iconst (pc := 8) F dX0_fewestLate_8 (inR_lit rfl) ?_
  refine r_istore_n (pc := 9) (lv' := [(3, Iv 0), (2, Iv 0), (1, Iv 0), (0, Rv 4)]) F dX0_fewestLate_9 rfl (by decide) rfl ?_
  exact V.sub [3, 2, 1, 0] rfl (g10 μ_17 0 0 0 hb)
set_option maxHeartbeats 4000000 in
set_option maxRecDepth 100000 in
theorem c_X0_leaders {g : Wc} {l : Launch} (μ : Mem) (p0 : Int) (Post : Pst) (hb : wp_X0_leaders μ p0 Post) : MtC g l yX0_leaders cX0_leaders 4 (some .int) 1 [Rv 4, Iv p0] μ (QI g Post) := by
  intro hok
  refine enter (own := RX0) (by decide) rfl (Nat.le_of_ble_eq_true rfl) hok (fun X hl F hr hR => ?_)
  subst hl
  show V g X 4 μ [(0, Rv 4), (1, Iv p0)] 0 []
  unfold wp_X0_leaders at hb
  obtain ⟨G4, g4, f4⟩ : ∃ G : Mem → Int → Int → Int → Prop, (∀ μ x1 x2 x3, G μ x1 x2 x3 → V g X 4 μ [(0, Rv 4), (1, Iv x1), (2, Iv x2), (3, Iv x3)] 4 []) ∧ (∀ μ x1 x2 x3, V g X 4 μ [(0, Rv 4), (1, Iv x1), (2, Iv x2), (3, Iv x3)] 4 [] → G μ x1 x2 x3) := ⟨fun μ x1 x2 x3 => V g X 4 μ [(0, Rv 4), (1, Iv x1), (2, Iv x2), (3, Iv x3)] 4 [], fun _ _ _ _ h => h, fun _ _ _ _ h => h⟩
  have K35 : ∀ (μ : Mem) (x1 : Int) (x2 : Int) (x3 : Int), b_X0_leaders_35 G4 Post μ x1 x2 x3 → V g X 4 μ [(0, Rv 4), (1, Iv x1), (2, Iv x2), (3, Iv x3)] 35 [] := by
    intro μ x1 x2 x3 hb
    unfold b_X0_leaders_35 at hb
    refine r_iincN (pc := 35) 3 (lf := fun x_1 => [(3, Iv x_1), (0, Rv 4), (1, Iv x1), (2, Iv x2)]) F dX0_leaders_35 rfl (by decide) rfl (fun x_1 ex_1 => ?_)
    have hb := hb x_1 ex_1
    refine r_goto (pc := 38) (tgt := 4) F dX0_leaders_38 (by decide) ?_
    exact V.sub [1, 2, 3, 0] rfl (g4 μ x1 x2 x_1 hb)
  have K4 : ∀ (μ : Mem) (x1 : Int) (x2 : Int) (x3 : Int), b_X0_leaders_4 G4 Post μ x1 x2 x3 → V g X 4 μ [(0, Rv 4), (1, Iv x1), (2, Iv x2), (3, Iv x3)] 4 [] := by
    intro μ x1 x2 x3 hb
    unfold b_X0_leaders_4 at hb
    refine r_iload_n (pc := 4) 3 F dX0_leaders_4 rfl rfl ?_
    refine r_aload_n (pc := 5) 0 F dX0_leaders_5 rfl rfl ?_
    refine gf_RX0_15 (pc := 6) F dX0_leaders_6 ?_
    refine gf_RX0_32 (pc := 9) F dX0_leaders_9 ?_
    refine r_icmp_ge (pc := 12) (tgt := 41) F dX0_leaders_12 (by decide) (fun c_2 => ?_) (fun c_2 => ?_)
    · have hb := hb.1 c_2
      refine r_iload_n (pc := 41) 2 F dX0_leaders_41 rfl rfl ?_
      exact r_iret (pc := 42) F hR hr dX0_leaders_42 hb
    · have hb := hb.2 c_2
      refine r_iload_n (pc := 15) 1 F dX0_leaders_15 rfl rfl ?_
      refine r_iload_n (pc := 16) 3 F dX0_leaders_16 rfl rfl ?_
      refine r_callNI (pc := 17) (avs := [Iv x1, Iv x3]) (st := []) F (c_X10_isIn μ x1 x3 _ hb) (by decide) cal_X10_isIn st_X10_isIn lk_RX0_55 rfl rfl (Nat.le_of_ble_eq_true rfl) dX0_leaders_17 (fun r_3 μ_4 hb => ?_)
      refine r_if_eq (pc := 20) (tgt := 35) F dX0_leaders_20 (by decide) (fun c_5 => ?_) (fun c_5 => ?_)
      · have hb := hb.1 c_5
        exact V.sub [0, 1, 2, 3] rfl (K35 μ_4 x1 x2 x3 hb)
      · have hb := hb.2 c_5
        refine r_iload_n (pc := 23) 2 F dX0_leaders_23 rfl rfl ?_
        refine r_aload_n (pc := 24) 0 F dX0_leaders_24 rfl rfl ?_
        refine gf_RX0_15 (pc := 25) F dX0_leaders_25 ?_
        refine gf_RX0_59 (pc := 28) F dX0_leaders_28 ?_
        refine r_iload_n (pc := 31) 3 F dX0_leaders_31 rfl rfl ?_
        have hg_6 := hb.1
        have hb := hb.2
        refine r_iald (pc := 32) F lc74.1 lc74.2.1 lc74.2.2 hg_6 dX0_leaders_32 ?_
        refine r_ior (pc := 33) F dX0_leaders_33 ?_
        refine V.nmI (fun x_7 ex_7 => ?_)
        have hb := hb x_7 ex_7
        refine r_istore_n (pc := 34) (lv' := [(2, Iv x_7), (0, Rv 4), (1, Iv x1), (3, Iv x3)]) F dX0_leaders_34 rfl (by decide) rfl ?_
        exact V.sub [1, 2, 0, 3] rfl (K35 μ_4 x1 x_7 x3 hb)
  have hb := hb G4 (fun μ x1 x2 x3 hb => f4 μ x1 x2 x3 (K4 μ x1 x2 x3 hb))
  unfold b_X0_leaders_e at hb
  refine r_iconst (pc := 0) F dX0_leaders_0 (inR_lit rfl) ?_
  refine r_istore_n (pc := 1) (lv' := [(2, Iv 0), (0, Rv 4), (1, Iv p0)]) F dX0_leaders_1 rfl (by decide) rfl ?_
  refine r_iconst (pc := 2) F dX0_leaders_2 (inR_lit rfl) ?_
  refine r_istore_n (pc := 3) (lv' := [(3, Iv 0), (2, Iv 0), (0, Rv 4), (1, Iv p0)]) F dX0_leaders_3 rfl (by decide) rfl ?_
  exact V.sub [2, 3, 1, 0] rfl (g4 μ p0 0 0 hb)
set_option maxHeartbeats 4000000 in
set_option maxRecDepth 100000 in
theorem c_X0_lastOf {g : Wc} {l : Launch} (μ : Mem) (p0 : Int) (p1 : Int) (Post : Pst) (hb : wp_X0_lastOf μ p0 p1 Post) : MtC g l yX0_lastOf cX0_lastOf 6 (some .int) 2 [Rv 4, Iv p0, Iv p1] μ (QI g Post) := by
  intro hok
  refine enter (own := RX0) (by decide) rfl (Nat.le_of_ble_eq_true rfl) hok (fun X hl F hr hR => ?_)
  subst hl
  show V g X 6 μ [(0, Rv 4), (1, Iv p0), (2, Iv p1)] 0 []
  unfold wp_X0_lastOf at hb
  obtain ⟨G12, g12, f12⟩ : ∃ G : Mem → Int → Int → Int → Int → Int → Prop, (∀ μ x1 x2 x3 x4 x5, G μ x1 x2 x3 x4 x5 → V g X 6 μ [(0, Rv 4), (1, Iv x1), (2, Iv x2), (3, Iv x3), (4, Iv x4), (5, Iv x5)] 12 []) ∧ (∀ μ x1 x2 x3 x4 x5, V g X 6 μ [(0, Rv 4), (1, Iv x1), (2, Iv x2), (3, Iv x3), (4, Iv x4), (5, Iv x5)] 12 [] → G μ x1 x2 x3 x4 x5) := ⟨fun μ x1 x2 x3 x4 x5 => V g X 6 μ [(0, Rv 4), (1, Iv x1), (2, Iv x2), (3, Iv x3), (4, Iv x4), (5, Iv x5)] 12 [], fun _ _ _ _ _ _ h => h, fun _ _ _ _ _ _ h => h⟩
  have K73 : ∀ (μ : Mem) (x1 : Int) (x2 : Int) (x3 : Int) (x4 : Int) (x5 : Int), b_X0_lastOf_73 G12 Post μ x1 x2 x3 x4 x5 → V g X 6 μ [(0, Rv 4), (1, Iv x1), (2, Iv x2), (3, Iv x3), (4, Iv x4), (5, Iv x5)] 73 [] := by
    intro μ x1 x2 x3 x4 x5 hb
    unfold b_X0_lastOf_73 at hb
    refine r_iincN (pc := 73) 5 (lf := fun x_1 => [(5, Iv x_1), (0, Rv 4), (1, Iv x1), (2, Iv x2), (3, Iv x3), (4, Iv x4)]) F dX0_lastOf_73 rfl (by decide) rfl (fun x_1 ex_1 => ?_)
    have hb := hb x_1 ex_1
    refine r_goto (pc := 76) (tgt := 12) F dX0_lastOf_76 (by decide) ?_
    exact V.sub [1, 2, 3, 4, 5, 0] rfl (g12 μ x1 x2 x3 x4 x_1 hb)
  have K70 : ∀ (μ : Mem) (x1 : Int) (x2 : Int) (x4 : Int) (x5 : Int), b_X0_lastOf_70 G12 Post μ x1 x2 x4 x5 → V g X 6 μ [(0, Rv 4), (1, Iv x1), (2, Iv x2), (4, Iv x4), (5, Iv x5)] 70 [] := by
    intro μ x1 x2 x4 x5 hb
    unfold b_X0_lastOf_70 at hb
    refine r_iload (pc := 70) 4 F dX0_lastOf_70 rfl ?_
    refine r_istore_n (pc := 72) (lv' := [(3, Iv x5), (0, Rv 4), (1, Iv x1), (2, Iv x2), (4, Iv x4), (5, Iv x5)]) F dX0_lastOf_72 rfl (by decide) rfl ?_
    exact V.sub [1, 2, 3, 0, 4, 5] rfl (K73 μ x1 x2 x5 x4 x5 hb)
  have K12 : ∀ (μ : Mem) (x1 : Int) (x2 : Int) (x3 : Int) (x4 : Int) (x5 : Int), b_X0_lastOf_12 G12 Post μ x1 x2 x3 x4 x5 → V g X 6 μ [(0, Rv 4), (1, Iv x1), (2, Iv x2), (3, Iv x3), (4, Iv x4), (5, Iv x5)] 12 [] := by
    intro μ x1 x2 x3 x4 x5 hb
    unfold b_X0_lastOf_12 at hb
    refine r_iload (pc := 12) 5 F dX0_lastOf_12 rfl ?_
    refine r_aload_n (pc := 14) 0 F dX0_lastOf_14 rfl rfl ?_
    refine gf_RX0_15 (pc := 15) F dX0_lastOf_15 ?_
    refine gf_RX0_32 (pc := 18) F dX0_lastOf_18 ?_
    refine r_icmp_ge (pc := 21) (tgt := 79) F dX0_lastOf_21 (by decide) (fun c_2 => ?_) (fun c_2 => ?_)
    · have hb := hb.1 c_2
      refine r_iload_n (pc := 79) 3 F dX0_lastOf_79 rfl rfl ?_
      exact r_iret (pc := 80) F hR hr dX0_lastOf_80 hb
    · have hb := hb.2 c_2
      refine r_iload_n (pc := 24) 1 F dX0_lastOf_24 rfl rfl ?_
      refine r_iload (pc := 25) 5 F dX0_lastOf_25 rfl ?_
      refine r_callNI (pc := 27) (avs := [Iv x1, Iv x5]) (st := []) F (c_X10_isIn μ x1 x5 _ hb) (by decide) cal_X10_isIn st_X10_isIn lk_RX0_55 rfl rfl (Nat.le_of_ble_eq_true rfl) dX0_lastOf_27 (fun r_3 μ_4 hb => ?_)
      refine r_if_eq (pc := 30) (tgt := 73) F dX0_lastOf_30 (by decide) (fun c_5 => ?_) (fun c_5 => ?_)
      · have hb := hb.1 c_5
        exact V.sub [0, 1, 2, 3, 4, 5] rfl (K73 μ_4 x1 x2 x3 x4 x5 hb)
      · have hb := hb.2 c_5
        refine r_iload (pc := 33) 4 F dX0_lastOf_33 rfl ?_
        refine r_iload (pc := 35) 5 F dX0_lastOf_35 rfl ?_
        refine r_callNI (pc := 37) (avs := [Iv x4, Iv x5]) (st := []) F (c_X10_isIn μ_4 x4 x5 _ hb) (by decide) cal_X10_isIn st_X10_isIn lk_RX0_55 rfl rfl (Nat.le_of_ble_eq_true rfl) dX0_lastOf_37 (fun r_6 μ_7 hb => ?_)
        refine r_if_ne (pc := 40) (tgt := 73) F dX0_lastOf_40 (by decide) (fun c_8 => ?_) (fun c_8 => ?_)
        · have hb := hb.1 c_8
          exact V.sub [0, 1, 2, 3, 4, 5] rfl (K73 μ_7 x1 x2 x3 x4 x5 hb)
        · have hb := hb.2 c_8
          refine r_iload_n (pc := 43) 3 F dX0_lastOf_43 rfl rfl ?_
          refine r_iconst (pc := 44) F dX0_lastOf_44 (inR_lit rfl) ?_
          refine r_icmp_eq (pc := 45) (tgt := 70) F dX0_lastOf_45 (by decide) (fun c_9 => ?_) (fun c_9 => ?_)
          · have hb := hb.1 c_9
            exact V.sub [0, 1, 2, 4, 5] rfl (K70 μ_7 x1 x2 x4 x5 hb)
          · have hb := hb.2 c_9
            refine r_aload_n (pc := 48) 0 F dX0_lastOf_48 rfl rfl ?_
            refine gf_RX0_15 (pc := 49) F dX0_lastOf_49 ?_
            refine r_iload (pc := 52) 5 F dX0_lastOf_52 rfl ?_
            refine r_iload_n (pc := 54) 2 F dX0_lastOf_54 rfl rfl ?_
            refine r_callI (pc := 55) (avs := [Iv x5, Iv x2]) (st := []) F (c_X9_late μ_7 x5 x2 _ hb) (by decide) cal_X9_late calv_X9_late lk_RX0_39 rfl rfl (Nat.le_of_ble_eq_true rfl) dX0_lastOf_55 (fun r_10 μ_11 hb => ?_)
            refine r_aload_n (pc := 58) 0 F dX0_lastOf_58 rfl rfl ?_
            refine gf_RX0_15 (pc := 59) F dX0_lastOf_59 ?_
            refine r_iload_n (pc := 62) 3 F dX0_lastOf_62 rfl rfl ?_
            refine r_iload_n (pc := 63) 2 F dX0_lastOf_63 rfl rfl ?_
            refine r_callI (pc := 64) (avs := [Iv x3, Iv x2]) (st := [Iv r_10]) F (c_X9_late μ_11 x3 x2 _ hb) (by decide) cal_X9_late calv_X9_late lk_RX0_39 rfl rfl (Nat.le_of_ble_eq_true rfl) dX0_lastOf_64 (fun r_12 μ_13 hb => ?_)
            refine r_icmp_gt (pc := 67) (tgt := 73) F dX0_lastOf_67 (by decide) (fun c_14 => ?_) (fun c_14 => ?_)
            · have hb := hb.1 c_14
              exact V.sub [0, 1, 2, 3, 4, 5] rfl (K73 μ_13 x1 x2 x3 x4 x5 hb)
            · have hb := hb.2 c_14
              exact V.sub [0, 1, 2, 4, 5] rfl (K70 μ_13 x1 x2 x4 x5 hb)
  have hb := hb G12 (fun μ x1 x2 x3 x4 x5 hb => f12 μ x1 x2 x3 x4 x5 (K12 μ x1 x2 x3 x4 x5 hb))
  unfold b_X0_lastOf_e at hb
  refine r_iconst (pc := 0) F dX0_lastOf_0 (inR_lit rfl) ?_
  refine r_istore_n (pc := 1) (lv' := [(3, Iv (-1)), (0, Rv 4), (1, Iv p0), (2, Iv p1)]) F dX0_lastOf_1 rfl (by decide) rfl ?_
  refine r_aload_n (pc := 2) 1 F dX0_lastOf_2 rfl rfl ?_
  refine r_iload_n (pc := 3) 2 F dX0_lastOf_3 rfl rfl ?_
  refine r_callI (pc := 4) (avs := [Iv p0]) (st := []) F (c_X0_leaders μ p0 _ hb) (by decide) cal_X0_leaders calv_X0_leaders lk_RX0_51 rfl rfl (Nat.le_of_ble_eq_true rfl) dX0_lastOf_4 (fun r_15 μ_16 hb => ?_)
  refine r_istore (pc := 7) (lv' := [(4, Iv r_15), (3, Iv (-1)), (0, Rv 4), (1, Iv p0), (2, Iv p1)]) F dX0_lastOf_7 (by decide) rfl ?_
  refine r_iconst (pc := 9) F dX0_lastOf_9 (inR_lit rfl) ?_
  refine r_istore (pc := 10) (lv' := [(5, Iv 0), (4, Iv r_15), (3, Iv (-1)), (0, Rv 4), (1, Iv p0), (2, Iv p1)]) F dX0_lastOf_10 (by decide) rfl ?_
  exact V.sub [3, 4, 5, 2, 1, 0] rfl (g12 μ_16 p0 p1 (-1) r_15 0 hb)
set_option maxHeartbeats 4000000 in
set_option maxRecDepth 100000 in
theorem c_X9_all {g : Wc} {l : Launch} (μ : Mem) (Post : Pst) (hb : wp_X9_all μ Post) : MtC g l yX9_all cX9_all 1 (some .int) 0 [Rv 1] μ (QI g Post) := by
  intro hok
  refine enter (own := RX9) (by decide) rfl (Nat.le_of_ble_eq_true rfl) hok (fun X hl F hr hR => ?_)
  subst hl
  show V g X 1 μ [(0, Rv 1)] 0 []
  unfold wp_X9_all at hb
  have hb := hb
  unfold b_X9_all_e at hb
  refine r_iconst (pc := 0) F dX9_all_0 (inR_lit rfl) ?_
  refine r_aload_n (pc := 1) 0 F dX9_all_1 rfl rfl ?_
  refine gf_RX9_26 (pc := 2) F dX9_all_2 ?_
  refine r_ishl (pc := 5) F dX9_all_5 ?_
  refine r_iconst (pc := 6) F dX9_all_6 (inR_lit rfl) ?_
  refine r_isub (pc := 7) F dX9_all_7 ?_
  exact r_iret (pc := 8) F hR hr dX9_all_8 hb
set_option maxHeartbeats 4000000 in
set_option maxRecDepth 100000 in
theorem c_X9_allLong {g : Wc} {l : Launch} (μ : Mem) (Post : Pst) (hb : wp_X9_allLong μ Post) : MtC g l yX9_allLong cX9_allLong 3 (some .int) 0 [Rv 1] μ (QI g Post) := by
  intro hok
  refine enter (own := RX9) (by decide) rfl (Nat.le_of_ble_eq_true rfl) hok (fun X hl F hr hR => ?_)
  subst hl
  show V g X 3 μ [(0, Rv 1)] 0 []
  unfold wp_X9_allLong at hb
  obtain ⟨G4, g4, f4⟩ : ∃ G : Mem → Int → Int → Prop, (∀ μ x1 x2, G μ x1 x2 → V g X 3 μ [(0, Rv 1), (1, Iv x1), (2, Iv x2)] 4 []) ∧ (∀ μ x1 x2, V g X 3 μ [(0, Rv 1), (1, Iv x1), (2, Iv x2)] 4 [] → G μ x1 x2) := ⟨fun μ x1 x2 => V g X 3 μ [(0, Rv 1), (1, Iv x1), (2, Iv x2)] 4 [], fun _ _ _ h => h, fun _ _ _ h => h⟩
  have K4 : ∀ (μ : Mem) (x1 : Int) (x2 : Int), b_X9_allLong_4 G4 Post μ x1 x2 → V g X 3 μ [(0, Rv 1), (1, Iv x1), (2, Iv x2)] 4 [] := by
    intro μ x1 x2 hb
    unfold b_X9_allLong_4 at hb
    refine r_iload_n (pc := 4) 2 F dX9_allLong_4 rfl rfl ?_
    refine r_aload_n (pc := 5) 0 F dX9_allLong_5 rfl rfl ?_
    refine gf_RX9_26 (pc := 6) F dX9_allLong_6 ?_
    refine r_icmp_ge (pc := 9) (tgt := 29) F dX9_allLong_9 (by decide) (fun c_1 => ?_) (fun c_1 => ?_)
    · have hb := hb.1 c_1
      refine r_iload_n (pc := 29) 1 F dX9_allLong_29 rfl rfl ?_
      exact r_iret (pc := 30) F hR hr dX9_allLong_30 hb
    · have hb := hb.2 c_1
      refine r_iload_n (pc := 12) 1 F dX9_allLong_12 rfl rfl ?_
      refine r_aload_n (pc := 13) 0 F dX9_allLong_13 rfl rfl ?_
      refine gf_RX9_11 (pc := 14) F dX9_allLong_14 ?_
      refine r_iconst (pc := 17) F dX9_allLong_17 (inR_lit rfl) ?_
      refine r_aaldk (pc := 18) (e := 24) F (c := 12) (by decide) (by decide) rfl (by decide) ⟨by decide, by decide⟩ dX9_allLong_18 ?_
      refine r_iload_n (pc := 19) 2 F dX9_allLong_19 rfl rfl ?_
      have hg_2 := hb.1
      have hb := hb.2
      refine r_iald (pc := 20) F lc24.1 lc24.2.1 lc24.2.2 hg_2 dX9_allLong_20 ?_
      refine r_iadd (pc := 21) F dX9_allLong_21 ?_
      refine V.nmI (fun x_3 ex_3 => ?_)
      have hb := hb x_3 ex_3
      refine r_istore_n (pc := 22) (lv' := [(1, Iv x_3), (0, Rv 1), (2, Iv x2)]) F dX9_allLong_22 rfl (by decide) rfl ?_
      refine r_iincN (pc := 23) 2 (lf := fun x_4 => [(2, Iv x_4), (1, Iv x_3), (0, Rv 1)]) F dX9_allLong_23 rfl (by decide) rfl (fun x_4 ex_4 => ?_)
      have hb := hb x_4 ex_4
      refine r_goto (pc := 26) (tgt := 4) F dX9_allLong_26 (by decide) ?_
      exact V.sub [2, 1, 0] rfl (g4 μ x_3 x_4 hb)
  have hb := hb G4 (fun μ x1 x2 hb => f4 μ x1 x2 (K4 μ x1 x2 hb))
  unfold b_X9_allLong_e at hb
  refine r_iconst (pc := 0) F dX9_allLong_0 (inR_lit rfl) ?_
  refine r_istore_n (pc := 1) (lv' := [(1, Iv 0), (0, Rv 1)]) F dX9_allLong_1 rfl (by decide) rfl ?_
  refine r_iconst (pc := 2) F dX9_allLong_2 (inR_lit rfl) ?_
  refine r_istore_n (pc := 3) (lv' := [(2, Iv 0), (1, Iv 0), (0, Rv 1)]) F dX9_allLong_3 rfl (by decide) rfl ?_
  exact V.sub [2, 1, 0] rfl (g4 μ 0 0 hb)
set_option maxHeartbeats 4000000 in
set_option maxRecDepth 100000 in
theorem c_X0_orderFromBehind {g : Wc} {l : Launch} (μ : Mem) (Post : Pst) (hb : wp_X0_orderFromBehind μ Post) : MtC g l yX0_orderFromBehind cX0_orderFromBehind 5 none 3 [Rv 4] μ (QV g Post) := by
  intro hok
  refine enter (own := RX0) (by decide) rfl (Nat.le_of_ble_eq_true rfl) hok (fun X hl F hr hR => ?_)
  subst hl
  show V g X 5 μ [(0, Rv 4)] 0 []
  unfold wp_X0_orderFromBehind at hb
  obtain ⟨G31, g31, f31⟩ : ∃ G : Mem → Int → Int → Int → Prop, (∀ μ x1 x2 x3, G μ x1 x2 x3 → V g X 5 μ [(0, Rv 4), (1, Iv x1), (2, Iv x2), (3, Iv x3)] 31 []) ∧ (∀ μ x1 x2 x3, V g X 5 μ [(0, Rv 4), (1, Iv x1), (2, Iv x2), (3, Iv x3)] 31 [] → G μ x1 x2 x3) := ⟨fun μ x1 x2 x3 => V g X 5 μ [(0, Rv 4), (1, Iv x1), (2, Iv x2), (3, Iv x3)] 31 [], fun _ _ _ _ h => h, fun _ _ _ _ h => h⟩
  have K31 : ∀ (μ : Mem) (x1 : Int) (x2 : Int) (x3 : Int), b_X0_orderFromBehind_31 G31 Post μ x1 x2 x3 → V g X 5 μ [(0, Rv 4), (1, Iv x1), (2, Iv x2), (3, Iv x3)] 31 [] := by
    intro μ x1 x2 x3 hb
    unfold b_X0_orderFromBehind_31 at hb
    refine r_iload_n (pc := 31) 3 F dX0_orderFromBehind_31 rfl rfl ?_
    refine r_if_lt (pc := 32) (tgt := 109) F dX0_orderFromBehind_32 (by decide) (fun c_1 => ?_) (fun c_1 => ?_)
    · have hb := hb.1 c_1
      exact r_vret (pc := 109) F hR hr dX0_orderFromBehind_109 hb
    · have hb := hb.2 c_1
      refine r_aload_n (pc := 35) 0 F dX0_orderFromBehind_35 rfl rfl ?_
      refine r_iload_n (pc := 36) 1 F dX0_orderFromBehind_36 rfl rfl ?_
      refine r_iload_n (pc := 37) 2 F dX0_orderFromBehind_37 rfl rfl ?_
      refine r_callI (pc := 38) (avs := [Iv x1, Iv x2]) (st := []) F (c_X0_lastOf μ x1 x2 _ hb) (by decide) cal_X0_lastOf calv_X0_lastOf lk_RX0_35 rfl rfl (Nat.le_of_ble_eq_true rfl) dX0_orderFromBehind_38 (fun r_2 μ_3 hb => ?_)
      refine r_istore (pc := 41) (lv' := [(4, Iv r_2), (0, Rv 4), (1, Iv x1), (2, Iv x2), (3, Iv x3)]) F dX0_orderFromBehind_41 (by decide) rfl ?_
      refine r_iload (pc := 43) 0 F dX0_orderFromBehind_43 rfl ?_
      refine r_iconst (pc := 45) F dX0_orderFromBehind_45 (inR_lit rfl) ?_
      refine r_icmp_ne (pc := 46) (tgt := 50) F dX0_orderFromBehind_46 (by decide) (fun c_4 => ?_) (fun c_4 => ?_)
      · have hb := hb.1 c_4
        refine r_aload_n (pc := 50) 1 F dX0_orderFromBehind_50 rfl rfl ?_
        refine gf_RX0_9 (pc := 51) F dX0_orderFromBehind_51 ?_
        refine r_iload_n (pc := 54) 4 F dX0_orderFromBehind_54 rfl rfl ?_
        refine r_iload (pc := 55) 0 F dX0_orderFromBehind_55 rfl ?_
        have hg_5 := hb.1
        have hb := hb.2
        refine r_iast (pc := 57) F lc80.1 lc80.2.1 lc80.2.2 hg_5 dX0_orderFromBehind_57 ?_
        refine V.nmM (fun μ_6 eμ_6 => ?_)
        have hb := hb μ_6 eμ_6
        refine r_aload_n (pc := 58) 1 F dX0_orderFromBehind_58 rfl rfl ?_
        refine r_aload_n (pc := 59) 1 F dX0_orderFromBehind_59 rfl rfl ?_
        refine gf_RX0_28 (pc := 60) F dX0_orderFromBehind_60 ?_
        refine r_aload_n (pc := 63) 1 F dX0_orderFromBehind_63 rfl rfl ?_
        refine gf_RX0_15 (pc := 64) F dX0_orderFromBehind_64 ?_
        refine r_iload (pc := 67) 0 F dX0_orderFromBehind_67 rfl ?_
        refine r_iload_n (pc := 69) 3 F dX0_orderFromBehind_69 rfl rfl ?_
        refine r_callI (pc := 70) (avs := [Iv r_2, Iv x2]) (st := [Iv (μ_6 4 2), Rv 4]) F (c_X9_late μ_6 r_2 x2 _ hb) (by decide) cal_X9_late calv_X9_late lk_RX0_39 rfl rfl (Nat.le_of_ble_eq_true rfl) dX0_orderFromBehind_70 (fun r_7 μ_8 hb => ?_)
        refine r_max (pc := 73) F (by first | decide | omega) lk_RX0_42 km_max.1 km_max.2.1 km_max.2.2 (Nat.le_of_ble_eq_true rfl) dX0_orderFromBehind_73 ?_
        refine pf_RX0_28 (pc := 76) F dX0_orderFromBehind_76 ?_
        refine V.nmM (fun μ_9 eμ_9 => ?_)
        have hb := hb μ_9 eμ_9
        refine r_iload_n (pc := 79) 2 F dX0_orderFromBehind_79 rfl rfl ?_
        refine r_iconst (pc := 80) F dX0_orderFromBehind_80 (inR_lit rfl) ?_
        refine r_iload (pc := 81) 0 F dX0_orderFromBehind_81 rfl ?_
        refine r_ishl (pc := 83) F dX0_orderFromBehind_83 ?_
        refine r_iconst (pc := 84) F dX0_orderFromBehind_84 (inR_lit rfl) ?_
        refine r_ixor (pc := 85) F dX0_orderFromBehind_85 ?_
        refine r_iand (pc := 86) F dX0_orderFromBehind_86 ?_
        refine V.nmI (fun x_10 ex_10 => ?_)
        have hb := hb x_10 ex_10
        refine r_istore_n (pc := 87) (lv' := [(1, Iv x_10), (4, Iv r_2), (0, Rv 4), (2, Iv x2), (3, Iv x3)]) F dX0_orderFromBehind_87 rfl (by decide) rfl ?_
        refine r_iload_n (pc := 88) 3 F dX0_orderFromBehind_88 rfl rfl ?_
        refine r_aload_n (pc := 89) 2 F dX0_orderFromBehind_89 rfl rfl ?_
        refine gf_RX0_15 (pc := 90) F dX0_orderFromBehind_90 ?_
        refine gf_RX0_47 (pc := 93) F dX0_orderFromBehind_93 ?_
        refine r_iconst (pc := 96) F dX0_orderFromBehind_96 (inR_lit rfl) ?_
        refine r_aaldk (pc := 97) (e := 24) F (c := 12) (by decide) (by decide) rfl (by decide) ⟨by decide, by decide⟩ dX0_orderFromBehind_97 ?_
        refine r_iload (pc := 98) 1 F dX0_orderFromBehind_98 rfl ?_
        have hg_11 := hb.1
        have hb := hb.2
        refine r_iald (pc := 100) F lc24.1 lc24.2.1 lc24.2.2 hg_11 dX0_orderFromBehind_100 ?_
        refine r_isub (pc := 101) F dX0_orderFromBehind_101 ?_
        refine V.nmI (fun x_12 ex_12 => ?_)
        have hb := hb x_12 ex_12
        refine r_istore_n (pc := 102) (lv' := [(2, Iv x_12), (1, Iv x_10), (4, Iv r_2), (0, Rv 4), (3, Iv x3)]) F dX0_orderFromBehind_102 rfl (by decide) rfl ?_
        refine r_iincN (pc := 103) 4 (lf := fun x_13 => [(3, Iv x_13), (2, Iv x_12), (1, Iv x_10), (4, Iv r_2), (0, Rv 4)]) F dX0_orderFromBehind_103 rfl (by decide) rfl (fun x_13 ex_13 => ?_)
        have hb := hb x_13 ex_13
        refine r_goto (pc := 106) (tgt := 31) F dX0_orderFromBehind_106 (by decide) ?_
        exact V.sub [4, 2, 1, 0] rfl (g31 μ_9 x_10 x_12 x_13 hb)
      · have hb := hb.2 c_4
        exact r_vret (pc := 49) F hR hr dX0_orderFromBehind_49 hb
  have hb := hb G31 (fun μ x1 x2 x3 hb => f31 μ x1 x2 x3 (K31 μ x1 x2 x3 hb))
  unfold b_X0_orderFromBehind_e at hb
  refine r_aload_n (pc := 0) 0 F dX0_orderFromBehind_0 rfl rfl ?_
  refine gf_RX0_15 (pc := 1) F dX0_orderFromBehind_1 ?_
  refine r_callI (pc := 4) (avs := []) (st := []) F (c_X9_all μ _ hb) (by decide) cal_X9_all calv_X9_all lk_RX0_19 rfl rfl (Nat.le_of_ble_eq_true rfl) dX0_orderFromBehind_4 (fun r_14 μ_15 hb => ?_)
  refine r_istore_n (pc := 7) (lv' := [(1, Iv r_14), (0, Rv 4)]) F dX0_orderFromBehind_7 rfl (by decide) rfl ?_
  refine r_aload_n (pc := 8) 1 F dX0_orderFromBehind_8 rfl rfl ?_
  refine gf_RX0_15 (pc := 9) F dX0_orderFromBehind_9 ?_
  refine r_callI (pc := 12) (avs := []) (st := []) F (c_X9_allLong μ_15 _ hb) (by decide) cal_X9_allLong calv_X9_allLong lk_RX0_25 rfl rfl (Nat.le_of_ble_eq_true rfl) dX0_orderFromBehind_12 (fun r_16 μ_17 hb => ?_)
  refine r_istore_n (pc := 15) (lv' := [(2, Iv r_16), (1, Iv r_14), (0, Rv 4)]) F dX0_orderFromBehind_15 rfl (by decide) rfl ?_
  refine r_aload_n (pc := 16) 2 F dX0_orderFromBehind_16 rfl rfl ?_
  refine r_iconst (pc := 17) F dX0_orderFromBehind_17 (inR_lit rfl) ?_
  refine pf_RX0_28 (pc := 18) F dX0_orderFromBehind_18 ?_
  refine V.nmM (fun μ_18 eμ_18 => ?_)
  have hb := hb μ_18 eμ_18
  refine r_aload_n (pc := 21) 2 F dX0_orderFromBehind_21 rfl rfl ?_
  refine gf_RX0_15 (pc := 22) F dX0_orderFromBehind_22 ?_
  refine gf_RX0_32 (pc := 25) F dX0_orderFromBehind_25 ?_
  refine r_iconst (pc := 28) F dX0_orderFromBehind_28 (inR_lit rfl) ?_
  refine r_isub (pc := 29) F dX0_orderFromBehind_29 ?_
  refine V.nmI (fun x_19 ex_19 => ?_)
  have hb := hb x_19 ex_19
  refine r_istore_n (pc := 30) (lv' := [(3, Iv x_19), (2, Iv r_16), (1, Iv r_14), (0, Rv 4)]) F dX0_orderFromBehind_30 rfl (by decide) rfl ?_
  exact V.sub [3, 2, 1, 0] rfl (g31 μ_18 r_14 r_16 x_19 hb)
