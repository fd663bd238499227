/-! Walks: X10_change, X8_empty, X10_clear, X10_count, X10_fold, X4_foldInto, X6_foldInto, X7_foldInto, X8_foldInto, X9_foldInto, X10_digest, X7_empty, X10_fell, X4_lastEnd, X9_keepsAhead, X9_makes, X10_judge. By program. -/
set_option maxHeartbeats 4000000 in
set_option maxRecDepth 100000 in
theorem c_X10_change {g : Wc} {l : Launch} (μ : Mem) (p0 : Int) (p1 : Int) (p2 : Int) (Post : Pst) (hb : wp_X10_change μ p0 p1 p2 Post) : MtC g l yX10_change cX10_change 5 (some .int) 1 [Rv 0, Iv p0, Iv p1, Iv p2] μ (QI g Post) := by
  intro hok
  refine enter (own := RX10) (by decide) rfl (Nat.le_of_ble_eq_true rfl) hok (fun X hl F hr hR => ?_)
  subst hl
  show V g X 5 μ [(0, Rv 0), (1, Iv p0), (2, Iv p1), (3, Iv p2)] 0 []
  unfold wp_X10_change at hb
  have hb := hb
  unfold b_X10_change_e at hb
  refine r_iload_n (pc := 0) 1 F dX10_change_0 rfl rfl ?_
  refine r_iconst (pc := 1) F dX10_change_1 (inR_lit rfl) ?_
  refine r_iconst (pc := 2) F dX10_change_2 (inR_lit rfl) ?_
  refine r_callSI (pc := 3) (avs := [Iv p0, Iv 0, Iv 2]) (st := []) F (c_X10_isFrom μ p0 0 2 _ hb) (by decide) cal_X10_isFrom st_X10_isFrom lk_RX10_90 rfl rfl (Nat.le_of_ble_eq_true rfl) dX10_change_3 (fun r_1 μ_2 hb => ?_)
  refine r_if_eq (pc := 6) (tgt := 33) F dX10_change_6 (by decide) (fun c_3 => ?_) (fun c_3 => ?_)
  · have hb := hb.1 c_3
    refine r_bipush (pc := 33) F dX10_change_33 (inR_lit rfl) (by decide) ?_
    exact r_iret (pc := 35) F hR hr dX10_change_35 hb
  · have hb := hb.2 c_3
    refine r_iload_n (pc := 9) 2 F dX10_change_9 rfl rfl ?_
    refine r_iconst (pc := 10) F dX10_change_10 (inR_lit rfl) ?_
    refine r_iconst (pc := 11) F dX10_change_11 (inR_lit rfl) ?_
    refine r_callSI (pc := 12) (avs := [Iv p1, Iv 0, Iv 2]) (st := []) F (c_X10_isFrom μ_2 p1 0 2 _ hb) (by decide) cal_X10_isFrom st_X10_isFrom lk_RX10_90 rfl rfl (Nat.le_of_ble_eq_true rfl) dX10_change_12 (fun r_4 μ_5 hb => ?_)
    refine r_if_eq (pc := 15) (tgt := 33) F dX10_change_15 (by decide) (fun c_6 => ?_) (fun c_6 => ?_)
    · have hb := hb.1 c_6
      refine r_bipush (pc := 33) F dX10_change_33 (inR_lit rfl) (by decide) ?_
      exact r_iret (pc := 35) F hR hr dX10_change_35 hb
    · have hb := hb.2 c_6
      refine r_iload_n (pc := 18) 1 F dX10_change_18 rfl rfl ?_
      refine r_iload_n (pc := 19) 2 F dX10_change_19 rfl rfl ?_
      refine r_icmp_eq (pc := 20) (tgt := 33) F dX10_change_20 (by decide) (fun c_7 => ?_) (fun c_7 => ?_)
      · have hb := hb.1 c_7
        refine r_bipush (pc := 33) F dX10_change_33 (inR_lit rfl) (by decide) ?_
        exact r_iret (pc := 35) F hR hr dX10_change_35 hb
      · have hb := hb.2 c_7
        refine r_iload_n (pc := 23) 3 F dX10_change_23 rfl rfl ?_
        refine r_iconst (pc := 24) F dX10_change_24 (inR_lit rfl) ?_
        refine r_bipush (pc := 25) F dX10_change_25 (inR_lit rfl) (by decide) ?_
        refine r_callSI (pc := 27) (avs := [Iv p2, Iv 0, Iv 20]) (st := []) F (c_X10_isFrom μ_5 p2 0 20 _ hb) (by decide) cal_X10_isFrom st_X10_isFrom lk_RX10_90 rfl rfl (Nat.le_of_ble_eq_true rfl) dX10_change_27 (fun r_8 μ_9 hb => ?_)
        refine r_if_ne (pc := 30) (tgt := 36) F dX10_change_30 (by decide) (fun c_10 => ?_) (fun c_10 => ?_)
        · have hb := hb.1 c_10
          refine r_aload_n (pc := 36) 0 F dX10_change_36 rfl rfl ?_
          refine gf_RX10_10 (pc := 37) F dX10_change_37 ?_
          refine gf_RX10_121 (pc := 40) F dX10_change_40 ?_
          refine r_iload_n (pc := 43) 1 F dX10_change_43 rfl rfl ?_
          have hg_11 := hb.1
          have hb := hb.2
          refine r_aald (pc := 44) (n := 3) (d := 29) F (c := 13) (by decide) (by decide) rfl hg_11 dX10_change_44 ?_
          refine r_iload_n (pc := 45) 2 F dX10_change_45 rfl rfl ?_
          have hg_12 := hb.1
          have hb := hb.2
          refine r_iald (pc := 46) F (lr13 hg_11).1 (lr13 hg_11).2.1 (lr13 hg_11).2.2 hg_12 dX10_change_46 ?_
          refine V.nmI (fun x_13 ex_13 => ?_)
          have hb := hb x_13 ex_13
          refine r_istore (pc := 47) (lv' := [(4, Iv x_13), (0, Rv 0), (1, Iv p0), (2, Iv p1), (3, Iv p2)]) F dX10_change_47 (by decide) rfl ?_
          refine r_aload_n (pc := 49) 1 F dX10_change_49 rfl rfl ?_
          refine gf_RX10_10 (pc := 50) F dX10_change_50 ?_
          refine gf_RX10_121 (pc := 53) F dX10_change_53 ?_
          refine r_iload_n (pc := 56) 2 F dX10_change_56 rfl rfl ?_
          have hg_14 := hb.1
          have hb := hb.2
          refine r_aald (pc := 57) (n := 3) (d := 29) F (c := 13) (by decide) (by decide) rfl hg_14 dX10_change_57 ?_
          refine r_iload_n (pc := 58) 3 F dX10_change_58 rfl rfl ?_
          refine r_iload_n (pc := 59) 4 F dX10_change_59 rfl rfl ?_
          have hg_15 := hb.1
          have hb := hb.2
          refine r_iast (pc := 60) F (lr13 hg_14).1 (lr13 hg_14).2.1 (lr13 hg_14).2.2 hg_15 dX10_change_60 ?_
          refine V.nmM (fun μ_16 eμ_16 => ?_)
          have hb := hb μ_16 eμ_16
          refine r_iload (pc := 61) 0 F dX10_change_61 rfl ?_
          exact r_iret (pc := 63) F hR hr dX10_change_63 hb
        · have hb := hb.2 c_10
          refine r_bipush (pc := 33) F dX10_change_33 (inR_lit rfl) (by decide) ?_
          exact r_iret (pc := 35) F hR hr dX10_change_35 hb
set_option maxHeartbeats 4000000 in
set_option maxRecDepth 100000 in
theorem c_X8_empty {g : Wc} {l : Launch} (μ : Mem) (Post : Pst) (hb : wp_X8_empty μ Post) : MtC g l yX8_empty cX8_empty 2 (some .int) 0 [Rv 9] μ (QI g Post) := by
  intro hok
  refine enter (own := RX8) (by decide) rfl (Nat.le_of_ble_eq_true rfl) hok (fun X hl F hr hR => ?_)
  subst hl
  show V g X 2 μ [(0, Rv 9)] 0 []
  unfold wp_X8_empty at hb
  have hb := hb
  unfold b_X8_empty_e at hb
  refine r_aload_n (pc := 0) 0 F dX8_empty_0 rfl rfl ?_
  refine gf_RX8_9 (pc := 1) F dX8_empty_1 ?_
  refine r_iconst (pc := 4) F dX8_empty_4 (inR_lit rfl) ?_
  refine r_ialdk (pc := 5) (k := 0) F lc86.1 lc86.2.1 lc86.2.2 rfl ⟨by decide, by decide⟩ dX8_empty_5 ?_
  refine r_aload_n (pc := 6) 0 F dX8_empty_6 rfl rfl ?_
  refine gf_RX8_9 (pc := 7) F dX8_empty_7 ?_
  refine r_iconst (pc := 10) F dX8_empty_10 (inR_lit rfl) ?_
  refine r_ialdk (pc := 11) (k := 1) F lc86.1 lc86.2.1 lc86.2.2 rfl ⟨by decide, by decide⟩ dX8_empty_11 ?_
  refine r_iadd (pc := 12) F dX8_empty_12 ?_
  refine V.nmI (fun x_1 ex_1 => ?_)
  have hb := hb x_1 ex_1
  refine r_istore_n (pc := 13) (lv' := [(1, Iv x_1), (0, Rv 9)]) F dX8_empty_13 rfl (by decide) rfl ?_
  refine r_aload_n (pc := 14) 1 F dX8_empty_14 rfl rfl ?_
  refine gf_RX8_9 (pc := 15) F dX8_empty_15 ?_
  refine r_iconst (pc := 18) F dX8_empty_18 (inR_lit rfl) ?_
  refine r_iconst (pc := 19) F dX8_empty_19 (inR_lit rfl) ?_
  refine r_iastk (pc := 20) (k := 0) F lc86.1 lc86.2.1 lc86.2.2 rfl ⟨by decide, by decide⟩ dX8_empty_20 ?_
  refine V.nmM (fun μ_2 eμ_2 => ?_)
  have hb := hb μ_2 eμ_2
  refine r_aload_n (pc := 21) 1 F dX8_empty_21 rfl rfl ?_
  refine gf_RX8_9 (pc := 22) F dX8_empty_22 ?_
  refine r_iconst (pc := 25) F dX8_empty_25 (inR_lit rfl) ?_
  refine r_iconst (pc := 26) F dX8_empty_26 (inR_lit rfl) ?_
  refine r_iastk (pc := 27) (k := 1) F lc86.1 lc86.2.1 lc86.2.2 rfl ⟨by decide, by decide⟩ dX8_empty_27 ?_
  refine V.nmM (fun μ_3 eμ_3 => ?_)
  have hb := hb μ_3 eμ_3
  refine r_iload_n (pc := 28) 0 F dX8_empty_28 rfl rfl ?_
  exact r_iret (pc := 29) F hR hr dX8_empty_29 hb
set_option maxHeartbeats 4000000 in
set_option maxRecDepth 100000 in
theorem c_X10_clear {g : Wc} {l : Launch} (μ : Mem) (Post : Pst) (hb : wp_X10_clear μ Post) : MtC g l yX10_clear cX10_clear 1 (some .int) 1 [Rv 0] μ (QI g Post) := by
  intro hok
  refine enter (own := RX10) (by decide) rfl (Nat.le_of_ble_eq_true rfl) hok (fun X hl F hr hR => ?_)
  subst hl
  show V g X 1 μ [(0, Rv 0)] 0 []
  unfold wp_X10_clear at hb
  have hb := hb
  unfold b_X10_clear_e at hb
  refine r_aload_n (pc := 0) 0 F dX10_clear_0 rfl rfl ?_
  refine gf_RX10_72 (pc := 1) F dX10_clear_1 ?_
  refine r_callI (pc := 4) (avs := []) (st := []) F (c_X8_empty μ _ hb) (by decide) cal_X8_empty calv_X8_empty lk_RX10_210 rfl rfl (Nat.le_of_ble_eq_true rfl) dX10_clear_4 (fun r_1 μ_2 hb => ?_)
  exact r_iret (pc := 7) F hR hr dX10_clear_7 hb
set_option maxHeartbeats 4000000 in
set_option maxRecDepth 100000 in
theorem c_X10_count {g : Wc} {l : Launch} (μ : Mem) (p0 : Int) (Post : Pst) (hb : wp_X10_count μ p0 Post) : MtC g l yX10_count cX10_count 2 (some .int) 0 [Rv 0, Iv p0] μ (QI g Post) := by
  intro hok
  refine enter (own := RX10) (by decide) rfl (Nat.le_of_ble_eq_true rfl) hok (fun X hl F hr hR => ?_)
  subst hl
  show V g X 2 μ [(0, Rv 0), (1, Iv p0)] 0 []
  unfold wp_X10_count at hb
  have hb := hb
  unfold b_X10_count_e at hb
  refine r_iload_n (pc := 0) 1 F dX10_count_0 rfl rfl ?_
  rcases (show (p0 < 0 ∨ 4 < p0) ∨ p0 = 0 ∨ p0 = 1 ∨ p0 = 2 ∨ p0 = 3 ∨ p0 = 4 by omega) with c_1 | c_1 | c_1 | c_1 | c_1 | c_1
  · have hb := hb.1 c_1
    refine r_tableOut (pc := 1) (tgt := 80) F dX10_count_1 c_1 (by decide) ?_
    refine r_bipush (pc := 80) F dX10_count_80 (inR_lit rfl) (by decide) ?_
    exact r_iret (pc := 82) F hR hr dX10_count_82 hb
  · have hb := hb.2.1 c_1
    refine r_tableIn (pc := 1) (tgt := 36) (off := 35) F dX10_count_1 (by omega) (by omega) (by rw [c_1]; rfl) (by decide) ?_
    refine r_aload_n (pc := 36) 0 F dX10_count_36 rfl rfl ?_
    refine gf_RX10_10 (pc := 37) F dX10_count_37 ?_
    refine gf_RX10_94 (pc := 40) F dX10_count_40 ?_
    exact r_iret (pc := 43) F hR hr dX10_count_43 hb
  · have hb := hb.2.2.1 c_1
    refine r_tableIn (pc := 1) (tgt := 44) (off := 43) F dX10_count_1 (by omega) (by omega) (by rw [c_1]; rfl) (by decide) ?_
    refine r_aload_n (pc := 44) 0 F dX10_count_44 rfl rfl ?_
    refine gf_RX10_19 (pc := 45) F dX10_count_45 ?_
    refine gf_RX10_166 (pc := 48) F dX10_count_48 ?_
    exact r_iret (pc := 51) F hR hr dX10_count_51 hb
  · have hb := hb.2.2.2.1 c_1
    refine r_tableIn (pc := 1) (tgt := 52) (off := 51) F dX10_count_1 (by omega) (by omega) (by rw [c_1]; rfl) (by decide) ?_
    refine r_aload_n (pc := 52) 0 F dX10_count_52 rfl rfl ?_
    refine gf_RX10_72 (pc := 53) F dX10_count_53 ?_
    refine gf_RX10_204 (pc := 56) F dX10_count_56 ?_
    refine r_iconst (pc := 59) F dX10_count_59 (inR_lit rfl) ?_
    refine r_ialdk (pc := 60) (k := 0) F lc86.1 lc86.2.1 lc86.2.2 rfl ⟨by decide, by decide⟩ dX10_count_60 ?_
    exact r_iret (pc := 61) F hR hr dX10_count_61 hb
  · have hb := hb.2.2.2.2.1 c_1
    refine r_tableIn (pc := 1) (tgt := 62) (off := 61) F dX10_count_1 (by omega) (by omega) (by rw [c_1]; rfl) (by decide) ?_
    refine r_aload_n (pc := 62) 0 F dX10_count_62 rfl rfl ?_
    refine gf_RX10_72 (pc := 63) F dX10_count_63 ?_
    refine gf_RX10_204 (pc := 66) F dX10_count_66 ?_
    refine r_iconst (pc := 69) F dX10_count_69 (inR_lit rfl) ?_
    refine r_ialdk (pc := 70) (k := 1) F lc86.1 lc86.2.1 lc86.2.2 rfl ⟨by decide, by decide⟩ dX10_count_70 ?_
    exact r_iret (pc := 71) F hR hr dX10_count_71 hb
  · have hb := hb.2.2.2.2.2 c_1
    refine r_tableIn (pc := 1) (tgt := 72) (off := 71) F dX10_count_1 (by omega) (by omega) (by rw [c_1]; rfl) (by decide) ?_
    refine r_aload_n (pc := 72) 0 F dX10_count_72 rfl rfl ?_
    refine gf_RX10_79 (pc := 73) F dX10_count_73 ?_
    refine gf_RX10_214 (pc := 76) F dX10_count_76 ?_
    exact r_iret (pc := 79) F hR hr dX10_count_79 hb
set_option maxHeartbeats 4000000 in
set_option maxRecDepth 100000 in
theorem c_X10_fold {g : Wc} {l : Launch} (μ : Mem) (p0 : Int) (p1 : Int) (Post : Pst) (hb : wp_X10_fold μ p0 p1 Post) : MtC g l yX10_fold cX10_fold 3 (some .long) 0 [Lv p0, Iv p1] μ (QL g Post) := by
  intro hok
  refine enter (own := RX10) (by decide) rfl (Nat.le_of_ble_eq_true rfl) hok (fun X hl F hr hR => ?_)
  subst hl
  show V g X 3 μ [(0, Lv p0), (2, Iv p1)] 0 []
  unfold wp_X10_fold at hb
  have hb := hb
  unfold b_X10_fold_e at hb
  refine r_ldc2 (pc := 0) F kl_RX10_247 (x := 31) (by decide) (inRL_lit rfl) dX10_fold_0 ?_
  refine r_lload_n (pc := 3) 0 F dX10_fold_3 rfl rfl ?_
  refine r_lmul (pc := 4) F dX10_fold_4 ?_
  refine r_iload_n (pc := 5) 1 F dX10_fold_5 rfl rfl ?_
  refine r_i2l (pc := 6) F dX10_fold_6 ?_
  refine r_ladd (pc := 7) F dX10_fold_7 ?_
  exact r_lret (pc := 8) F hR hr dX10_fold_8 hb
set_option maxHeartbeats 4000000 in
set_option maxRecDepth 100000 in
theorem c_X4_foldInto {g : Wc} {l : Launch} (μ : Mem) (p0 : Int) (Post : Pst) (hb : wp_X4_foldInto μ p0 Post) : MtC g l yX4_foldInto cX4_foldInto 4 (some .long) 1 [Rv 6, Lv p0] μ (QL g Post) := by
  intro hok
  refine enter (own := RX4) (by decide) rfl (Nat.le_of_ble_eq_true rfl) hok (fun X hl F hr hR => ?_)
  subst hl
  show V g X 4 μ [(0, Rv 6), (1, Lv p0)] 0 []
  unfold wp_X4_foldInto at hb
  obtain ⟨G11, g11, f11⟩ : ∃ G : Mem → Int → Int → Prop, (∀ μ x1 x3, G μ x1 x3 → V g X 4 μ [(0, Rv 6), (1, Lv x1), (3, Iv x3)] 11 []) ∧ (∀ μ x1 x3, V g X 4 μ [(0, Rv 6), (1, Lv x1), (3, Iv x3)] 11 [] → G μ x1 x3) := ⟨fun μ x1 x3 => V g X 4 μ [(0, Rv 6), (1, Lv x1), (3, Iv x3)] 11 [], fun _ _ _ h => h, fun _ _ _ h => h⟩
  have K11 : ∀ (μ : Mem) (x1 : Int) (x3 : Int), b_X4_foldInto_11 G11 Post μ x1 x3 → V g X 4 μ [(0, Rv 6), (1, Lv x1), (3, Iv x3)] 11 [] := by
    intro μ x1 x3 hb
    unfold b_X4_foldInto_11 at hb
    refine r_iload_n (pc := 11) 2 F dX4_foldInto_11 rfl rfl ?_
    refine r_iconst (pc := 12) F dX4_foldInto_12 (inR_lit rfl) ?_
    refine r_icmp_ge (pc := 13) (tgt := 33) F dX4_foldInto_13 (by decide) (fun c_1 => ?_) (fun c_1 => ?_)
    · have hb := hb.1 c_1
      refine r_lload_n (pc := 33) 1 F dX4_foldInto_33 rfl rfl ?_
      exact r_lret (pc := 34) F hR hr dX4_foldInto_34 hb
    · have hb := hb.2 c_1
      refine r_lload_n (pc := 16) 1 F dX4_foldInto_16 rfl rfl ?_
      refine r_aload_n (pc := 17) 0 F dX4_foldInto_17 rfl rfl ?_
      refine gf_RX4_15 (pc := 18) F dX4_foldInto_18 ?_
      refine r_iload_n (pc := 21) 2 F dX4_foldInto_21 rfl rfl ?_
      have hg_2 := hb.1
      have hb := hb.2
      refine r_iald (pc := 22) F lc82.1 lc82.2.1 lc82.2.2 hg_2 dX4_foldInto_22 ?_
      refine r_callNL (pc := 23) (avs := [Lv x1, Iv (μ 82 x3.toNat)]) (st := []) F (c_X10_fold μ x1 (μ 82 x3.toNat) _ hb) (by decide) cal_X10_fold st_X10_fold lk_RX4_61 rfl rfl (Nat.le_of_ble_eq_true rfl) dX4_foldInto_23 (fun r_3 μ_4 hb => ?_)
      refine r_lstore_n (pc := 26) (lv' := [(1, Lv r_3), (0, Rv 6), (3, Iv x3)]) F dX4_foldInto_26 rfl (by decide) rfl ?_
      refine r_iincN (pc := 27) 2 (lf := fun x_5 => [(3, Iv x_5), (1, Lv r_3), (0, Rv 6)]) F dX4_foldInto_27 rfl (by decide) rfl (fun x_5 ex_5 => ?_)
      have hb := hb x_5 ex_5
      refine r_goto (pc := 30) (tgt := 11) F dX4_foldInto_30 (by decide) ?_
      exact V.sub [2, 1, 0] rfl (g11 μ_4 r_3 x_5 hb)
  have hb := hb G11 (fun μ x1 x3 hb => f11 μ x1 x3 (K11 μ x1 x3 hb))
  unfold b_X4_foldInto_e at hb
  refine r_lload_n (pc := 0) 1 F dX4_foldInto_0 rfl rfl ?_
  refine r_aload_n (pc := 1) 0 F dX4_foldInto_1 rfl rfl ?_
  refine gf_RX4_9 (pc := 2) F dX4_foldInto_2 ?_
  refine r_callNL (pc := 5) (avs := [Lv p0, Iv (μ 6 1)]) (st := []) F (c_X10_fold μ p0 (μ 6 1) _ hb) (by decide) cal_X10_fold st_X10_fold lk_RX4_61 rfl rfl (Nat.le_of_ble_eq_true rfl) dX4_foldInto_5 (fun r_6 μ_7 hb => ?_)
  refine r_lstore_n (pc := 8) (lv' := [(1, Lv r_6), (0, Rv 6)]) F dX4_foldInto_8 rfl (by decide) rfl ?_
  refine r_iconst (pc := 9) F dX4_foldInto_9 (inR_lit rfl) ?_
  refine r_istore_n (pc := 10) (lv' := [(3, Iv 1), (1, Lv r_6), (0, Rv 6)]) F dX4_foldInto_10 rfl (by decide) rfl ?_
  exact V.sub [2, 1, 0] rfl (g11 μ_7 r_6 1 hb)
set_option maxHeartbeats 4000000 in
set_option maxRecDepth 100000 in
theorem c_X6_foldInto {g : Wc} {l : Launch} (μ : Mem) (p0 : Int) (Post : Pst) (hb : wp_X6_foldInto μ p0 Post) : MtC g l yX6_foldInto cX6_foldInto 4 (some .long) 1 [Rv 2, Lv p0] μ (QL g Post) := by
  intro hok
  refine enter (own := RX6) (by decide) rfl (Nat.le_of_ble_eq_true rfl) hok (fun X hl F hr hR => ?_)
  subst hl
  show V g X 4 μ [(0, Rv 2), (1, Lv p0)] 0 []
  unfold wp_X6_foldInto at hb
  obtain ⟨G2, g2, f2⟩ : ∃ G : Mem → Int → Int → Prop, (∀ μ x1 x3, G μ x1 x3 → V g X 4 μ [(0, Rv 2), (1, Lv x1), (3, Iv x3)] 2 []) ∧ (∀ μ x1 x3, V g X 4 μ [(0, Rv 2), (1, Lv x1), (3, Iv x3)] 2 [] → G μ x1 x3) := ⟨fun μ x1 x3 => V g X 4 μ [(0, Rv 2), (1, Lv x1), (3, Iv x3)] 2 [], fun _ _ _ h => h, fun _ _ _ h => h⟩
  have K2 : ∀ (μ : Mem) (x1 : Int) (x3 : Int), b_X6_foldInto_2 G2 Post μ x1 x3 → V g X 4 μ [(0, Rv 2), (1, Lv x1), (3, Iv x3)] 2 [] := by
    intro μ x1 x3 hb
    unfold b_X6_foldInto_2 at hb
    refine r_iload_n (pc := 2) 2 F dX6_foldInto_2 rfl rfl ?_
    refine r_aload_n (pc := 3) 0 F dX6_foldInto_3 rfl rfl ?_
    refine gf_RX6_23 (pc := 4) F dX6_foldInto_4 ?_
    refine r_icmp_ge (pc := 7) (tgt := 27) F dX6_foldInto_7 (by decide) (fun c_1 => ?_) (fun c_1 => ?_)
    · have hb := hb.1 c_1
      refine r_lload_n (pc := 27) 1 F dX6_foldInto_27 rfl rfl ?_
      exact r_lret (pc := 28) F hR hr dX6_foldInto_28 hb
    · have hb := hb.2 c_1
      refine r_lload_n (pc := 10) 1 F dX6_foldInto_10 rfl rfl ?_
      refine r_aload_n (pc := 11) 0 F dX6_foldInto_11 rfl rfl ?_
      refine gf_RX6_9 (pc := 12) F dX6_foldInto_12 ?_
      refine r_iload_n (pc := 15) 2 F dX6_foldInto_15 rfl rfl ?_
      have hg_2 := hb.1
      have hb := hb.2
      refine r_iald (pc := 16) F lc75.1 lc75.2.1 lc75.2.2 hg_2 dX6_foldInto_16 ?_
      refine r_callNL (pc := 17) (avs := [Lv x1, Iv (μ 75 x3.toNat)]) (st := []) F (c_X10_fold μ x1 (μ 75 x3.toNat) _ hb) (by decide) cal_X10_fold st_X10_fold lk_RX6_26 rfl rfl (Nat.le_of_ble_eq_true rfl) dX6_foldInto_17 (fun r_3 μ_4 hb => ?_)
      refine r_lstore_n (pc := 20) (lv' := [(1, Lv r_3), (0, Rv 2), (3, Iv x3)]) F dX6_foldInto_20 rfl (by decide) rfl ?_
      refine r_iincN (pc := 21) 2 (lf := fun x_5 => [(3, Iv x_5), (1, Lv r_3), (0, Rv 2)]) F dX6_foldInto_21 rfl (by decide) rfl (fun x_5 ex_5 => ?_)
      have hb := hb x_5 ex_5
      refine r_goto (pc := 24) (tgt := 2) F dX6_foldInto_24 (by decide) ?_
      exact V.sub [2, 1, 0] rfl (g2 μ_4 r_3 x_5 hb)
  have hb := hb G2 (fun μ x1 x3 hb => f2 μ x1 x3 (K2 μ x1 x3 hb))
  unfold b_X6_foldInto_e at hb
  refine r_iconst (pc := 0) F dX6_foldInto_0 (inR_lit rfl) ?_
  refine r_istore_n (pc := 1) (lv' := [(3, Iv 0), (0, Rv 2), (1, Lv p0)]) F dX6_foldInto_1 rfl (by decide) rfl ?_
  exact V.sub [1, 2, 0] rfl (g2 μ p0 0 hb)
set_option maxHeartbeats 4000000 in
set_option maxRecDepth 100000 in
theorem c_X7_foldInto {g : Wc} {l : Launch} (μ : Mem) (p0 : Int) (Post : Pst) (hb : wp_X7_foldInto μ p0 Post) : MtC g l yX7_foldInto cX7_foldInto 4 (some .long) 1 [Rv 10, Lv p0] μ (QL g Post) := by
  intro hok
  refine enter (own := RX7) (by decide) rfl (Nat.le_of_ble_eq_true rfl) hok (fun X hl F hr hR => ?_)
  subst hl
  show V g X 4 μ [(0, Rv 10), (1, Lv p0)] 0 []
  unfold wp_X7_foldInto at hb
  obtain ⟨G2, g2, f2⟩ : ∃ G : Mem → Int → Int → Prop, (∀ μ x1 x3, G μ x1 x3 → V g X 4 μ [(0, Rv 10), (1, Lv x1), (3, Iv x3)] 2 []) ∧ (∀ μ x1 x3, V g X 4 μ [(0, Rv 10), (1, Lv x1), (3, Iv x3)] 2 [] → G μ x1 x3) := ⟨fun μ x1 x3 => V g X 4 μ [(0, Rv 10), (1, Lv x1), (3, Iv x3)] 2 [], fun _ _ _ h => h, fun _ _ _ h => h⟩
  have K2 : ∀ (μ : Mem) (x1 : Int) (x3 : Int), b_X7_foldInto_2 G2 Post μ x1 x3 → V g X 4 μ [(0, Rv 10), (1, Lv x1), (3, Iv x3)] 2 [] := by
    intro μ x1 x3 hb
    unfold b_X7_foldInto_2 at hb
    refine r_iload_n (pc := 2) 2 F dX7_foldInto_2 rfl rfl ?_
    refine r_aload_n (pc := 3) 0 F dX7_foldInto_3 rfl rfl ?_
    refine gf_RX7_29 (pc := 4) F dX7_foldInto_4 ?_
    refine r_icmp_ge (pc := 7) (tgt := 27) F dX7_foldInto_7 (by decide) (fun c_1 => ?_) (fun c_1 => ?_)
    · have hb := hb.1 c_1
      refine r_lload_n (pc := 27) 1 F dX7_foldInto_27 rfl rfl ?_
      refine r_aload_n (pc := 28) 0 F dX7_foldInto_28 rfl rfl ?_
      refine gf_RX7_9 (pc := 29) F dX7_foldInto_29 ?_
      refine r_callNL (pc := 32) (avs := [Lv x1, Iv (μ 10 1)]) (st := []) F (c_X10_fold μ x1 (μ 10 1) _ hb) (by decide) cal_X10_fold st_X10_fold lk_RX7_80 rfl rfl (Nat.le_of_ble_eq_true rfl) dX7_foldInto_32 (fun r_2 μ_3 hb => ?_)
      exact r_lret (pc := 35) F hR hr dX7_foldInto_35 hb
    · have hb := hb.2 c_1
      refine r_lload_n (pc := 10) 1 F dX7_foldInto_10 rfl rfl ?_
      refine r_aload_n (pc := 11) 0 F dX7_foldInto_11 rfl rfl ?_
      refine gf_RX7_19 (pc := 12) F dX7_foldInto_12 ?_
      refine r_iload_n (pc := 15) 2 F dX7_foldInto_15 rfl rfl ?_
      have hg_4 := hb.1
      have hb := hb.2
      refine r_iald (pc := 16) F lc88.1 lc88.2.1 lc88.2.2 hg_4 dX7_foldInto_16 ?_
      refine r_callNL (pc := 17) (avs := [Lv x1, Iv (μ 88 x3.toNat)]) (st := []) F (c_X10_fold μ x1 (μ 88 x3.toNat) _ hb) (by decide) cal_X10_fold st_X10_fold lk_RX7_80 rfl rfl (Nat.le_of_ble_eq_true rfl) dX7_foldInto_17 (fun r_5 μ_6 hb => ?_)
      refine r_lstore_n (pc := 20) (lv' := [(1, Lv r_5), (0, Rv 10), (3, Iv x3)]) F dX7_foldInto_20 rfl (by decide) rfl ?_
      refine r_iincN (pc := 21) 2 (lf := fun x_7 => [(3, Iv x_7), (1, Lv r_5), (0, Rv 10)]) F dX7_foldInto_21 rfl (by decide) rfl (fun x_7 ex_7 => ?_)
      have hb := hb x_7 ex_7
      refine r_goto (pc := 24) (tgt := 2) F dX7_foldInto_24 (by decide) ?_
      exact V.sub [2, 1, 0] rfl (g2 μ_6 r_5 x_7 hb)
  have hb := hb G2 (fun μ x1 x3 hb => f2 μ x1 x3 (K2 μ x1 x3 hb))
  unfold b_X7_foldInto_e at hb
  refine r_iconst (pc := 0) F dX7_foldInto_0 (inR_lit rfl) ?_
  refine r_istore_n (pc := 1) (lv' := [(3, Iv 0), (0, Rv 10), (1, Lv p0)]) F dX7_foldInto_1 rfl (by decide) rfl ?_
  exact V.sub [1, 2, 0] rfl (g2 μ p0 0 hb)
set_option maxHeartbeats 4000000 in
set_option maxRecDepth 100000 in
theorem c_X8_foldInto {g : Wc} {l : Launch} (μ : Mem) (p0 : Int) (Post : Pst) (hb : wp_X8_foldInto μ p0 Post) : MtC g l yX8_foldInto cX8_foldInto 5 (some .long) 1 [Rv 9, Lv p0] μ (QL g Post) := by
  intro hok
  refine enter (own := RX8) (by decide) rfl (Nat.le_of_ble_eq_true rfl) hok (fun X hl F hr hR => ?_)
  subst hl
  show V g X 5 μ [(0, Rv 9), (1, Lv p0)] 0 []
  unfold wp_X8_foldInto at hb
  obtain ⟨G2, g2, f2⟩ : ∃ G : Mem → Int → Int → Prop, (∀ μ x1 x3, G μ x1 x3 → V g X 5 μ [(0, Rv 9), (1, Lv x1), (3, Iv x3)] 2 []) ∧ (∀ μ x1 x3, V g X 5 μ [(0, Rv 9), (1, Lv x1), (3, Iv x3)] 2 [] → G μ x1 x3) := ⟨fun μ x1 x3 => V g X 5 μ [(0, Rv 9), (1, Lv x1), (3, Iv x3)] 2 [], fun _ _ _ h => h, fun _ _ _ h => h⟩
  obtain ⟨G10, g10, f10⟩ : ∃ G : Mem → Int → Int → Int → Prop, (∀ μ x1 x3 x4, G μ x1 x3 x4 → V g X 5 μ [(0, Rv 9), (1, Lv x1), (3, Iv x3), (4, Iv x4)] 10 []) ∧ (∀ μ x1 x3 x4, V g X 5 μ [(0, Rv 9), (1, Lv x1), (3, Iv x3), (4, Iv x4)] 10 [] → G μ x1 x3 x4) := ⟨fun μ x1 x3 x4 => V g X 5 μ [(0, Rv 9), (1, Lv x1), (3, Iv x3), (4, Iv x4)] 10 [], fun _ _ _ _ h => h, fun _ _ _ _ h => h⟩
  have K2 : ∀ (μ : Mem) (x1 : Int) (x3 : Int), b_X8_foldInto_2 G2 G10 Post μ x1 x3 → V g X 5 μ [(0, Rv 9), (1, Lv x1), (3, Iv x3)] 2 [] := by
    intro μ x1 x3 hb
    unfold b_X8_foldInto_2 at hb
    refine r_iload_n (pc := 2) 2 F dX8_foldInto_2 rfl rfl ?_
    refine r_iconst (pc := 3) F dX8_foldInto_3 (inR_lit rfl) ?_
    refine r_icmp_ge (pc := 4) (tgt := 61) F dX8_foldInto_4 (by decide) (fun c_1 => ?_) (fun c_1 => ?_)
    · have hb := hb.1 c_1
      refine r_lload_n (pc := 61) 1 F dX8_foldInto_61 rfl rfl ?_
      exact r_lret (pc := 62) F hR hr dX8_foldInto_62 hb
    · have hb := hb.2 c_1
      refine r_iconst (pc := 7) F dX8_foldInto_7 (inR_lit rfl) ?_
      refine r_istore (pc := 8) (lv' := [(4, Iv 0), (0, Rv 9), (1, Lv x1), (3, Iv x3)]) F dX8_foldInto_8 (by decide) rfl ?_
      exact V.sub [1, 2, 3, 0] rfl (g10 μ x1 x3 0 hb)
  have K10 : ∀ (μ : Mem) (x1 : Int) (x3 : Int) (x4 : Int), b_X8_foldInto_10 G2 G10 Post μ x1 x3 x4 → V g X 5 μ [(0, Rv 9), (1, Lv x1), (3, Iv x3), (4, Iv x4)] 10 [] := by
    intro μ x1 x3 x4 hb
    unfold b_X8_foldInto_10 at hb
    refine r_iload (pc := 10) 3 F dX8_foldInto_10 rfl ?_
    refine r_aload_n (pc := 12) 0 F dX8_foldInto_12 rfl rfl ?_
    refine gf_RX8_9 (pc := 13) F dX8_foldInto_13 ?_
    refine r_iload_n (pc := 16) 2 F dX8_foldInto_16 rfl rfl ?_
    have hg_2 := hb.1
    have hb := hb.2
    refine r_iald (pc := 17) F lc86.1 lc86.2.1 lc86.2.2 hg_2 dX8_foldInto_17 ?_
    refine r_icmp_ge (pc := 18) (tgt := 55) F dX8_foldInto_18 (by decide) (fun c_3 => ?_) (fun c_3 => ?_)
    · have hb := hb.1 c_3
      refine r_iincN (pc := 55) 2 (lf := fun x_4 => [(3, Iv x_4), (0, Rv 9), (1, Lv x1), (4, Iv x4)]) F dX8_foldInto_55 rfl (by decide) rfl (fun x_4 ex_4 => ?_)
      have hb := hb x_4 ex_4
      refine r_goto (pc := 58) (tgt := 2) F dX8_foldInto_58 (by decide) ?_
      exact V.sub [1, 2, 0] rfl (g2 μ x1 x_4 hb)
    · have hb := hb.2 c_3
      refine r_lload_n (pc := 21) 1 F dX8_foldInto_21 rfl rfl ?_
      refine r_aload_n (pc := 22) 0 F dX8_foldInto_22 rfl rfl ?_
      refine gf_RX8_17 (pc := 23) F dX8_foldInto_23 ?_
      refine r_iload_n (pc := 26) 2 F dX8_foldInto_26 rfl rfl ?_
      have hg_5 := hb.1
      have hb := hb.2
      refine r_aald (pc := 27) (n := 2) (d := 64) F (c := 18) (by decide) (by decide) rfl hg_5 dX8_foldInto_27 ?_
      refine r_iload (pc := 28) 3 F dX8_foldInto_28 rfl ?_
      have hg_6 := hb.1
      have hb := hb.2
      refine r_iald (pc := 30) F (lr18 hg_5).1 (lr18 hg_5).2.1 (lr18 hg_5).2.2 hg_6 dX8_foldInto_30 ?_
      refine r_callNL (pc := 31) (avs := [Lv x1, Iv (μ (64 + x3.toNat) x4.toNat)]) (st := []) F (c_X10_fold μ x1 (μ (64 + x3.toNat) x4.toNat) _ hb) (by decide) cal_X10_fold st_X10_fold lk_RX8_46 rfl rfl (Nat.le_of_ble_eq_true rfl) dX8_foldInto_31 (fun r_7 μ_8 hb => ?_)
      refine r_lstore_n (pc := 34) (lv' := [(1, Lv r_7), (0, Rv 9), (3, Iv x3), (4, Iv x4)]) F dX8_foldInto_34 rfl (by decide) rfl ?_
      refine r_lload_n (pc := 35) 0 F dX8_foldInto_35 rfl rfl ?_
      refine r_aload_n (pc := 36) 1 F dX8_foldInto_36 rfl rfl ?_
      refine gf_RX8_20 (pc := 37) F dX8_foldInto_37 ?_
      refine r_iload_n (pc := 40) 2 F dX8_foldInto_40 rfl rfl ?_
      have hg_9 := hb.1
      have hb := hb.2
      refine r_aald (pc := 41) (n := 2) (d := 66) F (c := 19) (by decide) (by decide) rfl hg_9 dX8_foldInto_41 ?_
      refine r_iload (pc := 42) 3 F dX8_foldInto_42 rfl ?_
      have hg_10 := hb.1
      have hb := hb.2
      refine r_iald (pc := 44) F (lr19 hg_9).1 (lr19 hg_9).2.1 (lr19 hg_9).2.2 hg_10 dX8_foldInto_44 ?_
      refine r_callNL (pc := 45) (avs := [Lv r_7, Iv (μ_8 (66 + x3.toNat) x4.toNat)]) (st := []) F (c_X10_fold μ_8 r_7 (μ_8 (66 + x3.toNat) x4.toNat) _ hb) (by decide) cal_X10_fold st_X10_fold lk_RX8_46 rfl rfl (Nat.le_of_ble_eq_true rfl) dX8_foldInto_45 (fun r_11 μ_12 hb => ?_)
      refine r_lstore_n (pc := 48) (lv' := [(1, Lv r_11), (0, Rv 9), (3, Iv x3), (4, Iv x4)]) F dX8_foldInto_48 rfl (by decide) rfl ?_
      refine r_iincN (pc := 49) 3 (lf := fun x_13 => [(4, Iv x_13), (1, Lv r_11), (0, Rv 9), (3, Iv x3)]) F dX8_foldInto_49 rfl (by decide) rfl (fun x_13 ex_13 => ?_)
      have hb := hb x_13 ex_13
      refine r_goto (pc := 52) (tgt := 10) F dX8_foldInto_52 (by decide) ?_
      exact V.sub [2, 1, 3, 0] rfl (g10 μ_12 r_11 x3 x_13 hb)
  have hb := hb G2 G10 (fun μ x1 x3 hb => f2 μ x1 x3 (K2 μ x1 x3 hb)) (fun μ x1 x3 x4 hb => f10 μ x1 x3 x4 (K10 μ x1 x3 x4 hb))
  unfold b_X8_foldInto_e at hb
  refine r_iconst (pc := 0) F dX8_foldInto_0 (inR_lit rfl) ?_
  refine r_istore_n (pc := 1) (lv' := [(3, Iv 0), (0, Rv 9), (1, Lv p0)]) F dX8_foldInto_1 rfl (by decide) rfl ?_
  exact V.sub [1, 2, 0] rfl (g2 μ p0 0 hb)
set_option maxHeartbeats 4000000 in
set_option maxRecDepth 100000 in
theorem c_X9_foldInto {g : Wc} {l : Launch} (μ : Mem) (p0 : Int) (Post : Pst) (hb : wp_X9_foldInto μ p0 Post) : MtC g l yX9_foldInto cX9_foldInto 5 (some .long) 1 [Rv 1, Lv p0] μ (QL g Post) := by
  intro hok
  refine enter (own := RX9) (by decide) rfl (Nat.le_of_ble_eq_true rfl) hok (fun X hl F hr hR => ?_)
  subst hl
  show V g X 5 μ [(0, Rv 1), (1, Lv p0)] 0 []
  unfold wp_X9_foldInto at hb
  obtain ⟨G2, g2, f2⟩ : ∃ G : Mem → Int → Int → Prop, (∀ μ x1 x3, G μ x1 x3 → V g X 5 μ [(0, Rv 1), (1, Lv x1), (3, Iv x3)] 2 []) ∧ (∀ μ x1 x3, V g X 5 μ [(0, Rv 1), (1, Lv x1), (3, Iv x3)] 2 [] → G μ x1 x3) := ⟨fun μ x1 x3 => V g X 5 μ [(0, Rv 1), (1, Lv x1), (3, Iv x3)] 2 [], fun _ _ _ h => h, fun _ _ _ h => h⟩
  obtain ⟨G13, g13, f13⟩ : ∃ G : Mem → Int → Int → Int → Prop, (∀ μ x1 x3 x4, G μ x1 x3 x4 → V g X 5 μ [(0, Rv 1), (1, Lv x1), (3, Iv x3), (4, Iv x4)] 13 []) ∧ (∀ μ x1 x3 x4, V g X 5 μ [(0, Rv 1), (1, Lv x1), (3, Iv x3), (4, Iv x4)] 13 [] → G μ x1 x3 x4) := ⟨fun μ x1 x3 x4 => V g X 5 μ [(0, Rv 1), (1, Lv x1), (3, Iv x3), (4, Iv x4)] 13 [], fun _ _ _ _ h => h, fun _ _ _ _ h => h⟩
  obtain ⟨G53, g53, f53⟩ : ∃ G : Mem → Int → Int → Int → Prop, (∀ μ x1 x3 x4, G μ x1 x3 x4 → V g X 5 μ [(0, Rv 1), (1, Lv x1), (3, Iv x3), (4, Iv x4)] 53 []) ∧ (∀ μ x1 x3 x4, V g X 5 μ [(0, Rv 1), (1, Lv x1), (3, Iv x3), (4, Iv x4)] 53 [] → G μ x1 x3 x4) := ⟨fun μ x1 x3 x4 => V g X 5 μ [(0, Rv 1), (1, Lv x1), (3, Iv x3), (4, Iv x4)] 53 [], fun _ _ _ _ h => h, fun _ _ _ _ h => h⟩
  obtain ⟨G87, g87, f87⟩ : ∃ G : Mem → Int → Int → Prop, (∀ μ x1 x3, G μ x1 x3 → V g X 5 μ [(0, Rv 1), (1, Lv x1), (3, Iv x3)] 87 []) ∧ (∀ μ x1 x3, V g X 5 μ [(0, Rv 1), (1, Lv x1), (3, Iv x3)] 87 [] → G μ x1 x3) := ⟨fun μ x1 x3 => V g X 5 μ [(0, Rv 1), (1, Lv x1), (3, Iv x3)] 87 [], fun _ _ _ h => h, fun _ _ _ h => h⟩
  obtain ⟨G95, g95, f95⟩ : ∃ G : Mem → Int → Int → Int → Prop, (∀ μ x1 x3 x4, G μ x1 x3 x4 → V g X 5 μ [(0, Rv 1), (1, Lv x1), (3, Iv x3), (4, Iv x4)] 95 []) ∧ (∀ μ x1 x3 x4, V g X 5 μ [(0, Rv 1), (1, Lv x1), (3, Iv x3), (4, Iv x4)] 95 [] → G μ x1 x3 x4) := ⟨fun μ x1 x3 x4 => V g X 5 μ [(0, Rv 1), (1, Lv x1), (3, Iv x3), (4, Iv x4)] 95 [], fun _ _ _ _ h => h, fun _ _ _ _ h => h⟩
  have K2 : ∀ (μ : Mem) (x1 : Int) (x3 : Int), b_X9_foldInto_2 G2 G13 G53 G87 G95 Post μ x1 x3 → V g X 5 μ [(0, Rv 1), (1, Lv x1), (3, Iv x3)] 2 [] := by
    intro μ x1 x3 hb
    unfold b_X9_foldInto_2 at hb
    refine r_iload_n (pc := 2) 2 F dX9_foldInto_2 rfl rfl ?_
    refine r_aload_n (pc := 3) 0 F dX9_foldInto_3 rfl rfl ?_
    refine gf_RX9_26 (pc := 4) F dX9_foldInto_4 ?_
    refine r_icmp_ge (pc := 7) (tgt := 85) F dX9_foldInto_7 (by decide) (fun c_1 => ?_) (fun c_1 => ?_)
    · have hb := hb.1 c_1
      refine r_iconst (pc := 85) F dX9_foldInto_85 (inR_lit rfl) ?_
      refine r_istore_n (pc := 86) (lv' := [(3, Iv 0), (0, Rv 1), (1, Lv x1)]) F dX9_foldInto_86 rfl (by decide) rfl ?_
      exact V.sub [1, 2, 0] rfl (g87 μ x1 0 hb)
    · have hb := hb.2 c_1
      refine r_iconst (pc := 10) F dX9_foldInto_10 (inR_lit rfl) ?_
      refine r_istore (pc := 11) (lv' := [(4, Iv 0), (0, Rv 1), (1, Lv x1), (3, Iv x3)]) F dX9_foldInto_11 (by decide) rfl ?_
      exact V.sub [1, 2, 3, 0] rfl (g13 μ x1 x3 0 hb)
  have K13 : ∀ (μ : Mem) (x1 : Int) (x3 : Int) (x4 : Int), b_X9_foldInto_13 G2 G13 G53 G87 G95 Post μ x1 x3 x4 → V g X 5 μ [(0, Rv 1), (1, Lv x1), (3, Iv x3), (4, Iv x4)] 13 [] := by
    intro μ x1 x3 x4 hb
    unfold b_X9_foldInto_13 at hb
    refine r_iload (pc := 13) 3 F dX9_foldInto_13 rfl ?_
    refine r_iconst (pc := 15) F dX9_foldInto_15 (inR_lit rfl) ?_
    refine r_icmp_ge (pc := 16) (tgt := 39) F dX9_foldInto_16 (by decide) (fun c_2 => ?_) (fun c_2 => ?_)
    · have hb := hb.1 c_2
      refine r_lload_n (pc := 39) 1 F dX9_foldInto_39 rfl rfl ?_
      refine r_aload_n (pc := 40) 0 F dX9_foldInto_40 rfl rfl ?_
      refine gf_RX9_16 (pc := 41) F dX9_foldInto_41 ?_
      refine r_iload_n (pc := 44) 2 F dX9_foldInto_44 rfl rfl ?_
      have hg_3 := hb.1
      have hb := hb.2
      refine r_iald (pc := 45) F lc74.1 lc74.2.1 lc74.2.2 hg_3 dX9_foldInto_45 ?_
      refine r_callNL (pc := 46) (avs := [Lv x1, Iv (μ 74 x3.toNat)]) (st := []) F (c_X10_fold μ x1 (μ 74 x3.toNat) _ hb) (by decide) cal_X10_fold st_X10_fold lk_RX9_69 rfl rfl (Nat.le_of_ble_eq_true rfl) dX9_foldInto_46 (fun r_4 μ_5 hb => ?_)
      refine r_lstore_n (pc := 49) (lv' := [(1, Lv r_4), (0, Rv 1), (3, Iv x3), (4, Iv x4)]) F dX9_foldInto_49 rfl (by decide) rfl ?_
      refine r_iconst (pc := 50) F dX9_foldInto_50 (inR_lit rfl) ?_
      refine r_istore (pc := 51) (lv' := [(4, Iv 0), (1, Lv r_4), (0, Rv 1), (3, Iv x3)]) F dX9_foldInto_51 (by decide) rfl ?_
      exact V.sub [2, 1, 3, 0] rfl (g53 μ_5 r_4 x3 0 hb)
    · have hb := hb.2 c_2
      refine r_lload_n (pc := 19) 1 F dX9_foldInto_19 rfl rfl ?_
      refine r_aload_n (pc := 20) 0 F dX9_foldInto_20 rfl rfl ?_
      refine gf_RX9_11 (pc := 21) F dX9_foldInto_21 ?_
      refine r_iload (pc := 24) 3 F dX9_foldInto_24 rfl ?_
      have hg_6 := hb.1
      have hb := hb.2
      refine r_aald (pc := 26) (n := 5) (d := 24) F (c := 12) (by decide) (by decide) rfl hg_6 dX9_foldInto_26 ?_
      refine r_iload_n (pc := 27) 2 F dX9_foldInto_27 rfl rfl ?_
      have hg_7 := hb.1
      have hb := hb.2
      refine r_iald (pc := 28) F (lr12 hg_6).1 (lr12 hg_6).2.1 (lr12 hg_6).2.2 hg_7 dX9_foldInto_28 ?_
      refine r_callNL (pc := 29) (avs := [Lv x1, Iv (μ (24 + x4.toNat) x3.toNat)]) (st := []) F (c_X10_fold μ x1 (μ (24 + x4.toNat) x3.toNat) _ hb) (by decide) cal_X10_fold st_X10_fold lk_RX9_69 rfl rfl (Nat.le_of_ble_eq_true rfl) dX9_foldInto_29 (fun r_8 μ_9 hb => ?_)
      refine r_lstore_n (pc := 32) (lv' := [(1, Lv r_8), (0, Rv 1), (3, Iv x3), (4, Iv x4)]) F dX9_foldInto_32 rfl (by decide) rfl ?_
      refine r_iincN (pc := 33) 3 (lf := fun x_10 => [(4, Iv x_10), (1, Lv r_8), (0, Rv 1), (3, Iv x3)]) F dX9_foldInto_33 rfl (by decide) rfl (fun x_10 ex_10 => ?_)
      have hb := hb x_10 ex_10
      refine r_goto (pc := 36) (tgt := 13) F dX9_foldInto_36 (by decide) ?_
      exact V.sub [2, 1, 3, 0] rfl (g13 μ_9 r_8 x3 x_10 hb)
  have K53 : ∀ (μ : Mem) (x1 : Int) (x3 : Int) (x4 : Int), b_X9_foldInto_53 G2 G13 G53 G87 G95 Post μ x1 x3 x4 → V g X 5 μ [(0, Rv 1), (1, Lv x1), (3, Iv x3), (4, Iv x4)] 53 [] := by
    intro μ x1 x3 x4 hb
    unfold b_X9_foldInto_53 at hb
    refine r_iload (pc := 53) 3 F dX9_foldInto_53 rfl ?_
    refine r_iconst (pc := 55) F dX9_foldInto_55 (inR_lit rfl) ?_
    refine r_icmp_ge (pc := 56) (tgt := 79) F dX9_foldInto_56 (by decide) (fun c_11 => ?_) (fun c_11 => ?_)
    · have hb := hb.1 c_11
      refine r_iincN (pc := 79) 2 (lf := fun x_12 => [(3, Iv x_12), (0, Rv 1), (1, Lv x1), (4, Iv x4)]) F dX9_foldInto_79 rfl (by decide) rfl (fun x_12 ex_12 => ?_)
      have hb := hb x_12 ex_12
      refine r_goto (pc := 82) (tgt := 2) F dX9_foldInto_82 (by decide) ?_
      exact V.sub [1, 2, 0] rfl (g2 μ x1 x_12 hb)
    · have hb := hb.2 c_11
      refine r_lload_n (pc := 59) 1 F dX9_foldInto_59 rfl rfl ?_
      refine r_aload_n (pc := 60) 0 F dX9_foldInto_60 rfl rfl ?_
      refine gf_RX9_23 (pc := 61) F dX9_foldInto_61 ?_
      refine r_iload_n (pc := 64) 2 F dX9_foldInto_64 rfl rfl ?_
      have hg_13 := hb.1
      have hb := hb.2
      refine r_aald (pc := 65) (n := 8) (d := 32) F (c := 14) (by decide) (by decide) rfl hg_13 dX9_foldInto_65 ?_
      refine r_iload (pc := 66) 3 F dX9_foldInto_66 rfl ?_
      have hg_14 := hb.1
      have hb := hb.2
      refine r_iald (pc := 68) F (lr14 hg_13).1 (lr14 hg_13).2.1 (lr14 hg_13).2.2 hg_14 dX9_foldInto_68 ?_
      refine r_callNL (pc := 69) (avs := [Lv x1, Iv (μ (32 + x3.toNat) x4.toNat)]) (st := []) F (c_X10_fold μ x1 (μ (32 + x3.toNat) x4.toNat) _ hb) (by decide) cal_X10_fold st_X10_fold lk_RX9_69 rfl rfl (Nat.le_of_ble_eq_true rfl) dX9_foldInto_69 (fun r_15 μ_16 hb => ?_)
      refine r_lstore_n (pc := 72) (lv' := [(1, Lv r_15), (0, Rv 1), (3, Iv x3), (4, Iv x4)]) F dX9_foldInto_72 rfl (by decide) rfl ?_
      refine r_iincN (pc := 73) 3 (lf := fun x_17 => [(4, Iv x_17), (1, Lv r_15), (0, Rv 1), (3, Iv x3)]) F dX9_foldInto_73 rfl (by decide) rfl (fun x_17 ex_17 => ?_)
      have hb := hb x_17 ex_17
      refine r_goto (pc := 76) (tgt := 53) F dX9_foldInto_76 (by decide) ?_
      exact V.sub [2, 1, 3, 0] rfl (g53 μ_16 r_15 x3 x_17 hb)
  have K87 : ∀ (μ : Mem) (x1 : Int) (x3 : Int), b_X9_foldInto_87 G2 G13 G53 G87 G95 Post μ x1 x3 → V g X 5 μ [(0, Rv 1), (1, Lv x1), (3, Iv x3)] 87 [] := by
    intro μ x1 x3 hb
    unfold b_X9_foldInto_87 at hb
    refine r_iload_n (pc := 87) 2 F dX9_foldInto_87 rfl rfl ?_
    refine r_iconst (pc := 88) F dX9_foldInto_88 (inR_lit rfl) ?_
    refine r_icmp_ge (pc := 89) (tgt := 127) F dX9_foldInto_89 (by decide) (fun c_18 => ?_) (fun c_18 => ?_)
    · have hb := hb.1 c_18
      refine r_lload_n (pc := 127) 1 F dX9_foldInto_127 rfl rfl ?_
      exact r_lret (pc := 128) F hR hr dX9_foldInto_128 hb
    · have hb := hb.2 c_18
      refine r_iconst (pc := 92) F dX9_foldInto_92 (inR_lit rfl) ?_
      refine r_istore (pc := 93) (lv' := [(4, Iv 0), (0, Rv 1), (1, Lv x1), (3, Iv x3)]) F dX9_foldInto_93 (by decide) rfl ?_
      exact V.sub [1, 2, 3, 0] rfl (g95 μ x1 x3 0 hb)
  have K95 : ∀ (μ : Mem) (x1 : Int) (x3 : Int) (x4 : Int), b_X9_foldInto_95 G2 G13 G53 G87 G95 Post μ x1 x3 x4 → V g X 5 μ [(0, Rv 1), (1, Lv x1), (3, Iv x3), (4, Iv x4)] 95 [] := by
    intro μ x1 x3 x4 hb
    unfold b_X9_foldInto_95 at hb
    refine r_iload (pc := 95) 3 F dX9_foldInto_95 rfl ?_
    refine r_iconst (pc := 97) F dX9_foldInto_97 (inR_lit rfl) ?_
    refine r_icmp_ge (pc := 98) (tgt := 121) F dX9_foldInto_98 (by decide) (fun c_19 => ?_) (fun c_19 => ?_)
    · have hb := hb.1 c_19
      refine r_iincN (pc := 121) 2 (lf := fun x_20 => [(3, Iv x_20), (0, Rv 1), (1, Lv x1), (4, Iv x4)]) F dX9_foldInto_121 rfl (by decide) rfl (fun x_20 ex_20 => ?_)
      have hb := hb x_20 ex_20
      refine r_goto (pc := 124) (tgt := 87) F dX9_foldInto_124 (by decide) ?_
      exact V.sub [1, 2, 0] rfl (g87 μ x1 x_20 hb)
    · have hb := hb.2 c_19
      refine r_lload_n (pc := 101) 1 F dX9_foldInto_101 rfl rfl ?_
      refine r_aload_n (pc := 102) 0 F dX9_foldInto_102 rfl rfl ?_
      refine gf_RX9_20 (pc := 103) F dX9_foldInto_103 ?_
      refine r_iload_n (pc := 106) 2 F dX9_foldInto_106 rfl rfl ?_
      have hg_21 := hb.1
      have hb := hb.2
      refine r_aald (pc := 107) (n := 3) (d := 29) F (c := 13) (by decide) (by decide) rfl hg_21 dX9_foldInto_107 ?_
      refine r_iload (pc := 108) 3 F dX9_foldInto_108 rfl ?_
      have hg_22 := hb.1
      have hb := hb.2
      refine r_iald (pc := 110) F (lr13 hg_21).1 (lr13 hg_21).2.1 (lr13 hg_21).2.2 hg_22 dX9_foldInto_110 ?_
      refine r_callNL (pc := 111) (avs := [Lv x1, Iv (μ (29 + x3.toNat) x4.toNat)]) (st := []) F (c_X10_fold μ x1 (μ (29 + x3.toNat) x4.toNat) _ hb) (by decide) cal_X10_fold st_X10_fold lk_RX9_69 rfl rfl (Nat.le_of_ble_eq_true rfl) dX9_foldInto_111 (fun r_23 μ_24 hb => ?_)
      refine r_lstore_n (pc := 114) (lv' := [(1, Lv r_23), (0, Rv 1), (3, Iv x3), (4, Iv x4)]) F dX9_foldInto_114 rfl (by decide) rfl ?_
      refine r_iincN (pc := 115) 3 (lf := fun x_25 => [(4, Iv x_25), (1, Lv r_23), (0, Rv 1), (3, Iv x3)]) F dX9_foldInto_115 rfl (by decide) rfl (fun x_25 ex_25 => ?_)
      have hb := hb x_25 ex_25
      refine r_goto (pc := 118) (tgt := 95) F dX9_foldInto_118 (by decide) ?_
      exact V.sub [2, 1, 3, 0] rfl (g95 μ_24 r_23 x3 x_25 hb)
  have hb := hb G2 G13 G53 G87 G95 (fun μ x1 x3 hb => f2 μ x1 x3 (K2 μ x1 x3 hb)) (fun μ x1 x3 x4 hb => f13 μ x1 x3 x4 (K13 μ x1 x3 x4 hb)) (fun μ x1 x3 x4 hb => f53 μ x1 x3 x4 (K53 μ x1 x3 x4 hb)) (fun μ x1 x3 hb => f87 μ x1 x3 (K87 μ x1 x3 hb)) (fun μ x1 x3 x4 hb => f95 μ x1 x3 x4 (K95 μ x1 x3 x4 hb))
  unfold b_X9_foldInto_e at hb
  refine r_iconst (pc := 0) F dX9_foldInto_0 (inR_lit rfl) ?_
  refine r_istore_n (pc := 1) (lv' := [(3, Iv 0), (0, Rv 1), (1, Lv p0)]) F dX9_foldInto_1 rfl (by decide) rfl ?_
  exact V.sub [1, 2, 0] rfl (g2 μ p0 0 hb)
set_option maxHeartbeats 4000000 in
set_option maxRecDepth 100000 in
theorem c_X10_digest {g : Wc} {l : Launch} (μ : Mem) (Post : Pst) (hb : wp_X10_digest μ Post) : MtC g l yX10_digest cX10_digest 4 (some .long) 2 [Rv 0] μ (QL g Post) := by
  intro hok
  refine enter (own := RX10) (by decide) rfl (Nat.le_of_ble_eq_true rfl) hok (fun X hl F hr hR => ?_)
  subst hl
  show V g X 4 μ [(0, Rv 0)] 0 []
  unfold wp_X10_digest at hb
  obtain ⟨G6, g6, f6⟩ : ∃ G : Mem → Int → Int → Prop, (∀ μ x1 x3, G μ x1 x3 → V g X 4 μ [(0, Rv 0), (1, Lv x1), (3, Iv x3)] 6 []) ∧ (∀ μ x1 x3, V g X 4 μ [(0, Rv 0), (1, Lv x1), (3, Iv x3)] 6 [] → G μ x1 x3) := ⟨fun μ x1 x3 => V g X 4 μ [(0, Rv 0), (1, Lv x1), (3, Iv x3)] 6 [], fun _ _ _ h => h, fun _ _ _ h => h⟩
  have K6 : ∀ (μ : Mem) (x1 : Int) (x3 : Int), b_X10_digest_6 G6 Post μ x1 x3 → V g X 4 μ [(0, Rv 0), (1, Lv x1), (3, Iv x3)] 6 [] := by
    intro μ x1 x3 hb
    unfold b_X10_digest_6 at hb
    refine r_iload_n (pc := 6) 2 F dX10_digest_6 rfl rfl ?_
    refine r_iconst (pc := 7) F dX10_digest_7 (inR_lit rfl) ?_
    refine r_icmp_ge (pc := 8) (tgt := 27) F dX10_digest_8 (by decide) (fun c_1 => ?_) (fun c_1 => ?_)
    · have hb := hb.1 c_1
      refine r_aload_n (pc := 27) 0 F dX10_digest_27 rfl rfl ?_
      refine gf_RX10_10 (pc := 28) F dX10_digest_28 ?_
      refine r_lload_n (pc := 31) 1 F dX10_digest_31 rfl rfl ?_
      refine r_callL (pc := 32) (avs := [Lv x1]) (st := []) F (c_X9_foldInto μ x1 _ hb) (by decide) cal_X9_foldInto calv_X9_foldInto lk_RX10_239 rfl rfl (Nat.le_of_ble_eq_true rfl) dX10_digest_32 (fun r_2 μ_3 hb => ?_)
      refine r_lstore_n (pc := 35) (lv' := [(1, Lv r_2), (0, Rv 0), (3, Iv x3)]) F dX10_digest_35 rfl (by decide) rfl ?_
      refine r_aload_n (pc := 36) 1 F dX10_digest_36 rfl rfl ?_
      refine gf_RX10_19 (pc := 37) F dX10_digest_37 ?_
      refine r_lload_n (pc := 40) 0 F dX10_digest_40 rfl rfl ?_
      refine r_callL (pc := 41) (avs := [Lv r_2]) (st := []) F (c_X6_foldInto μ_3 r_2 _ hb) (by decide) cal_X6_foldInto calv_X6_foldInto lk_RX10_243 rfl rfl (Nat.le_of_ble_eq_true rfl) dX10_digest_41 (fun r_4 μ_5 hb => ?_)
      refine r_lstore_n (pc := 44) (lv' := [(1, Lv r_4), (0, Rv 0), (3, Iv x3)]) F dX10_digest_44 rfl (by decide) rfl ?_
      refine r_aload_n (pc := 45) 1 F dX10_digest_45 rfl rfl ?_
      refine gf_RX10_49 (pc := 46) F dX10_digest_46 ?_
      refine r_lload_n (pc := 49) 0 F dX10_digest_49 rfl rfl ?_
      refine r_callL (pc := 50) (avs := [Lv r_4]) (st := []) F (c_X4_foldInto μ_5 r_4 _ hb) (by decide) cal_X4_foldInto calv_X4_foldInto lk_RX10_244 rfl rfl (Nat.le_of_ble_eq_true rfl) dX10_digest_50 (fun r_6 μ_7 hb => ?_)
      refine r_lstore_n (pc := 53) (lv' := [(1, Lv r_6), (0, Rv 0), (3, Iv x3)]) F dX10_digest_53 rfl (by decide) rfl ?_
      refine r_aload_n (pc := 54) 1 F dX10_digest_54 rfl rfl ?_
      refine gf_RX10_72 (pc := 55) F dX10_digest_55 ?_
      refine r_lload_n (pc := 58) 0 F dX10_digest_58 rfl rfl ?_
      refine r_callL (pc := 59) (avs := [Lv r_6]) (st := []) F (c_X8_foldInto μ_7 r_6 _ hb) (by decide) cal_X8_foldInto calv_X8_foldInto lk_RX10_245 rfl rfl (Nat.le_of_ble_eq_true rfl) dX10_digest_59 (fun r_8 μ_9 hb => ?_)
      refine r_lstore_n (pc := 62) (lv' := [(1, Lv r_8), (0, Rv 0), (3, Iv x3)]) F dX10_digest_62 rfl (by decide) rfl ?_
      refine r_aload_n (pc := 63) 1 F dX10_digest_63 rfl rfl ?_
      refine gf_RX10_79 (pc := 64) F dX10_digest_64 ?_
      refine r_lload_n (pc := 67) 0 F dX10_digest_67 rfl rfl ?_
      refine r_callL (pc := 68) (avs := [Lv r_8]) (st := []) F (c_X7_foldInto μ_9 r_8 _ hb) (by decide) cal_X7_foldInto calv_X7_foldInto lk_RX10_246 rfl rfl (Nat.le_of_ble_eq_true rfl) dX10_digest_68 (fun r_10 μ_11 hb => ?_)
      exact r_lret (pc := 71) F hR hr dX10_digest_71 hb
    · have hb := hb.2 c_1
      refine r_lload_n (pc := 11) 1 F dX10_digest_11 rfl rfl ?_
      refine r_aload_n (pc := 12) 0 F dX10_digest_12 rfl rfl ?_
      refine r_iload_n (pc := 13) 2 F dX10_digest_13 rfl rfl ?_
      refine r_callI (pc := 14) (avs := [Iv x3]) (st := [Lv x1]) F (c_X10_count μ x3 _ hb) (by decide) cal_X10_count calv_X10_count lk_RX10_232 rfl rfl (Nat.le_of_ble_eq_true rfl) dX10_digest_14 (fun r_12 μ_13 hb => ?_)
      refine r_callSL (pc := 17) (avs := [Lv x1, Iv r_12]) (st := []) F (c_X10_fold μ_13 x1 r_12 _ hb) (by decide) cal_X10_fold st_X10_fold lk_RX10_235 rfl rfl (Nat.le_of_ble_eq_true rfl) dX10_digest_17 (fun r_14 μ_15 hb => ?_)
      refine r_lstore_n (pc := 20) (lv' := [(1, Lv r_14), (0, Rv 0), (3, Iv x3)]) F dX10_digest_20 rfl (by decide) rfl ?_
      refine r_iincN (pc := 21) 2 (lf := fun x_16 => [(3, Iv x_16), (1, Lv r_14), (0, Rv 0)]) F dX10_digest_21 rfl (by decide) rfl (fun x_16 ex_16 => ?_)
      have hb := hb x_16 ex_16
      refine r_goto (pc := 24) (tgt := 6) F dX10_digest_24 (by decide) ?_
      exact V.sub [2, 1, 0] rfl (g6 μ_15 r_14 x_16 hb)
  have hb := hb G6 (fun μ x1 x3 hb => f6 μ x1 x3 (K6 μ x1 x3 hb))
  unfold b_X10_digest_e at hb
  refine r_ldc2 (pc := 0) F kl_RX10_230 (x := 401) (by decide) (inRL_lit rfl) dX10_digest_0 ?_
  refine r_lstore_n (pc := 3) (lv' := [(1, Lv 401), (0, Rv 0)]) F dX10_digest_3 rfl (by decide) rfl ?_
  refine r_iconst (pc := 4) F dX10_digest_4 (inR_lit rfl) ?_
  refine r_istore_n (pc := 5) (lv' := [(3, Iv 0), (1, Lv 401), (0, Rv 0)]) F dX10_digest_5 rfl (by decide) rfl ?_
  exact V.sub [2, 1, 0] rfl (g6 μ 401 0 hb)
set_option maxHeartbeats 4000000 in
set_option maxRecDepth 100000 in
theorem c_X7_empty {g : Wc} {l : Launch} (μ : Mem) (Post : Pst) (hb : wp_X7_empty μ Post) : MtC g l yX7_empty cX7_empty 2 (some .int) 0 [Rv 10] μ (QI g Post) := by
  intro hok
  refine enter (own := RX7) (by decide) rfl (Nat.le_of_ble_eq_true rfl) hok (fun X hl F hr hR => ?_)
  subst hl
  show V g X 2 μ [(0, Rv 10)] 0 []
  unfold wp_X7_empty at hb
  have hb := hb
  unfold b_X7_empty_e at hb
  refine r_aload_n (pc := 0) 0 F dX7_empty_0 rfl rfl ?_
  refine gf_RX7_29 (pc := 1) F dX7_empty_1 ?_
  refine V.nmI (fun x_1 ex_1 => ?_)
  have hb := hb x_1 ex_1
  refine r_istore_n (pc := 4) (lv' := [(1, Iv x_1), (0, Rv 10)]) F dX7_empty_4 rfl (by decide) rfl ?_
  refine r_aload_n (pc := 5) 1 F dX7_empty_5 rfl rfl ?_
  refine r_iconst (pc := 6) F dX7_empty_6 (inR_lit rfl) ?_
  refine pf_RX7_29 (pc := 7) F dX7_empty_7 ?_
  refine V.nmM (fun μ_2 eμ_2 => ?_)
  have hb := hb μ_2 eμ_2
  refine r_iload_n (pc := 10) 0 F dX7_empty_10 rfl rfl ?_
  exact r_iret (pc := 11) F hR hr dX7_empty_11 hb
set_option maxHeartbeats 4000000 in
set_option maxRecDepth 100000 in
theorem c_X10_fell {g : Wc} {l : Launch} (μ : Mem) (Post : Pst) (hb : wp_X10_fell μ Post) : MtC g l yX10_fell cX10_fell 1 (some .int) 1 [Rv 0] μ (QI g Post) := by
  intro hok
  refine enter (own := RX10) (by decide) rfl (Nat.le_of_ble_eq_true rfl) hok (fun X hl F hr hR => ?_)
  subst hl
  show V g X 1 μ [(0, Rv 0)] 0 []
  unfold wp_X10_fell at hb
  have hb := hb
  unfold b_X10_fell_e at hb
  refine r_aload_n (pc := 0) 0 F dX10_fell_0 rfl rfl ?_
  refine gf_RX10_79 (pc := 1) F dX10_fell_1 ?_
  refine r_callI (pc := 4) (avs := []) (st := []) F (c_X7_empty μ _ hb) (by decide) cal_X7_empty calv_X7_empty lk_RX10_216 rfl rfl (Nat.le_of_ble_eq_true rfl) dX10_fell_4 (fun r_1 μ_2 hb => ?_)
  exact r_iret (pc := 7) F hR hr dX10_fell_7 hb
set_option maxHeartbeats 4000000 in
set_option maxRecDepth 100000 in
theorem c_X4_lastEnd {g : Wc} {l : Launch} (μ : Mem) (Post : Pst) (hb : wp_X4_lastEnd μ Post) : MtC g l yX4_lastEnd cX4_lastEnd 4 (some .int) 2 [Rv 6, Rv 75] μ (QI g Post) := by
  intro hok
  refine enter (own := RX4) (by decide) rfl (Nat.le_of_ble_eq_true rfl) hok (fun X hl F hr hR => ?_)
  subst hl
  show V g X 4 μ [(0, Rv 6), (1, Rv 75)] 0 []
  unfold wp_X4_lastEnd at hb
  obtain ⟨G4, g4, f4⟩ : ∃ G : Mem → Int → Int → Prop, (∀ μ x2 x3, G μ x2 x3 → V g X 4 μ [(0, Rv 6), (1, Rv 75), (2, Iv x2), (3, Iv x3)] 4 []) ∧ (∀ μ x2 x3, V g X 4 μ [(0, Rv 6), (1, Rv 75), (2, Iv x2), (3, Iv x3)] 4 [] → G μ x2 x3) := ⟨fun μ x2 x3 => V g X 4 μ [(0, Rv 6), (1, Rv 75), (2, Iv x2), (3, Iv x3)] 4 [], fun _ _ _ h => h, fun _ _ _ h => h⟩
  have K4 : ∀ (μ : Mem) (x2 : Int) (x3 : Int), b_X4_lastEnd_4 G4 Post μ x2 x3 → V g X 4 μ [(0, Rv 6), (1, Rv 75), (2, Iv x2), (3, Iv x3)] 4 [] := by
    intro μ x2 x3 hb
    unfold b_X4_lastEnd_4 at hb
    refine r_iload_n (pc := 4) 3 F dX4_lastEnd_4 rfl rfl ?_
    refine r_aload_n (pc := 5) 0 F dX4_lastEnd_5 rfl rfl ?_
    refine gf_RX4_27 (pc := 6) F dX4_lastEnd_6 ?_
    refine gf_RX4_31 (pc := 9) F dX4_lastEnd_9 ?_
    refine r_icmp_ge (pc := 12) (tgt := 30) F dX4_lastEnd_12 (by decide) (fun c_1 => ?_) (fun c_1 => ?_)
    · have hb := hb.1 c_1
      refine r_iload_n (pc := 30) 2 F dX4_lastEnd_30 rfl rfl ?_
      exact r_iret (pc := 31) F hR hr dX4_lastEnd_31 hb
    · have hb := hb.2 c_1
      refine r_aload_n (pc := 15) 0 F dX4_lastEnd_15 rfl rfl ?_
      refine r_iload_n (pc := 16) 3 F dX4_lastEnd_16 rfl rfl ?_
      refine r_aload_n (pc := 17) 1 F dX4_lastEnd_17 rfl rfl ?_
      refine r_iload_n (pc := 18) 3 F dX4_lastEnd_18 rfl rfl ?_
      have hg_2 := hb.1
      have hb := hb.2
      refine r_iald (pc := 19) F lc75.1 lc75.2.1 lc75.2.2 hg_2 dX4_lastEnd_19 ?_
      refine r_callI (pc := 20) (avs := [Iv x3, Iv (μ 75 x3.toNat)]) (st := []) F (c_X4_send μ x3 (μ 75 x3.toNat) _ hb) (by decide) cal_X4_send calv_X4_send lk_RX4_34 rfl rfl (Nat.le_of_ble_eq_true rfl) dX4_lastEnd_20 (fun r_3 μ_4 hb => ?_)
      refine r_istore_n (pc := 23) (lv' := [(2, Iv r_3), (0, Rv 6), (1, Rv 75), (3, Iv x3)]) F dX4_lastEnd_23 rfl (by decide) rfl ?_
      refine r_iincN (pc := 24) 3 (lf := fun x_5 => [(3, Iv x_5), (2, Iv r_3), (0, Rv 6), (1, Rv 75)]) F dX4_lastEnd_24 rfl (by decide) rfl (fun x_5 ex_5 => ?_)
      have hb := hb x_5 ex_5
      refine r_goto (pc := 27) (tgt := 4) F dX4_lastEnd_27 (by decide) ?_
      exact V.sub [2, 3, 1, 0] rfl (g4 μ_4 r_3 x_5 hb)
  have hb := hb G4 (fun μ x2 x3 hb => f4 μ x2 x3 (K4 μ x2 x3 hb))
  unfold b_X4_lastEnd_e at hb
  refine r_iconst (pc := 0) F dX4_lastEnd_0 (inR_lit rfl) ?_
  refine r_istore_n (pc := 1) (lv' := [(2, Iv 0), (0, Rv 6), (1, Rv 75)]) F dX4_lastEnd_1 rfl (by decide) rfl ?_
  refine r_iconst (pc := 2) F dX4_lastEnd_2 (inR_lit rfl) ?_
  refine r_istore_n (pc := 3) (lv' := [(3, Iv 0), (2, Iv 0), (0, Rv 6), (1, Rv 75)]) F dX4_lastEnd_3 rfl (by decide) rfl ?_
  exact V.sub [2, 3, 1, 0] rfl (g4 μ 0 0 hb)
set_option maxHeartbeats 4000000 in
set_option maxRecDepth 100000 in
theorem c_X9_keepsAhead {g : Wc} {l : Launch} (μ : Mem) (Post : Pst) (hb : wp_X9_keepsAhead μ Post) : MtC g l yX9_keepsAhead cX9_keepsAhead 4 (some .boolean) 2 [Rv 1, Rv 75] μ (QI g Post) := by
  intro hok
  refine enter (own := RX9) (by decide) rfl (Nat.le_of_ble_eq_true rfl) hok (fun X hl F hr hR => ?_)
  subst hl
  show V g X 4 μ [(0, Rv 1), (1, Rv 75)] 0 []
  unfold wp_X9_keepsAhead at hb
  obtain ⟨G4, g4, f4⟩ : ∃ G : Mem → Int → Int → Prop, (∀ μ x2 x3, G μ x2 x3 → V g X 4 μ [(0, Rv 1), (1, Rv 75), (2, Iv x2), (3, Iv x3)] 4 []) ∧ (∀ μ x2 x3, V g X 4 μ [(0, Rv 1), (1, Rv 75), (2, Iv x2), (3, Iv x3)] 4 [] → G μ x2 x3) := ⟨fun μ x2 x3 => V g X 4 μ [(0, Rv 1), (1, Rv 75), (2, Iv x2), (3, Iv x3)] 4 [], fun _ _ _ h => h, fun _ _ _ h => h⟩
  have K4 : ∀ (μ : Mem) (x2 : Int) (x3 : Int), b_X9_keepsAhead_4 G4 Post μ x2 x3 → V g X 4 μ [(0, Rv 1), (1, Rv 75), (2, Iv x2), (3, Iv x3)] 4 [] := by
    intro μ x2 x3 hb
    unfold b_X9_keepsAhead_4 at hb
    refine r_iload_n (pc := 4) 3 F dX9_keepsAhead_4 rfl rfl ?_
    refine r_aload_n (pc := 5) 0 F dX9_keepsAhead_5 rfl rfl ?_
    refine gf_RX9_26 (pc := 6) F dX9_keepsAhead_6 ?_
    refine r_icmp_ge (pc := 9) (tgt := 39) F dX9_keepsAhead_9 (by decide) (fun c_1 => ?_) (fun c_1 => ?_)
    · have hb := hb.1 c_1
      refine r_iconst (pc := 39) F dX9_keepsAhead_39 (inR_lit rfl) ?_
      exact r_zret (pc := 40) F hR hr dX9_keepsAhead_40 (Or.inr rfl) hb
    · have hb := hb.2 c_1
      refine r_aload_n (pc := 12) 0 F dX9_keepsAhead_12 rfl rfl ?_
      refine r_iload_n (pc := 13) 2 F dX9_keepsAhead_13 rfl rfl ?_
      refine r_aload_n (pc := 14) 1 F dX9_keepsAhead_14 rfl rfl ?_
      refine r_iload_n (pc := 15) 3 F dX9_keepsAhead_15 rfl rfl ?_
      have hg_2 := hb.1
      have hb := hb.2
      refine r_iald (pc := 16) F lc75.1 lc75.2.1 lc75.2.2 hg_2 dX9_keepsAhead_16 ?_
      refine r_callI (pc := 17) (avs := [Iv x2, Iv (μ 75 x3.toNat)]) (st := []) F (c_X9_mayFollow μ x2 (μ 75 x3.toNat) _ hb) (by decide) cal_X9_mayFollow calv_X9_mayFollow lk_RX9_47 rfl rfl (Nat.le_of_ble_eq_true rfl) dX9_keepsAhead_17 (fun r_3 μ_4 hb => ?_)
      refine r_if_ne (pc := 20) (tgt := 25) F dX9_keepsAhead_20 (by decide) (fun c_5 => ?_) (fun c_5 => ?_)
      · have hb := hb.1 c_5
        refine r_iload_n (pc := 25) 2 F dX9_keepsAhead_25 rfl rfl ?_
        refine r_iconst (pc := 26) F dX9_keepsAhead_26 (inR_lit rfl) ?_
        refine r_aload_n (pc := 27) 1 F dX9_keepsAhead_27 rfl rfl ?_
        refine r_iload_n (pc := 28) 3 F dX9_keepsAhead_28 rfl rfl ?_
        have hg_6 := hb.1
        have hb := hb.2
        refine r_iald (pc := 29) F lc75.1 lc75.2.1 lc75.2.2 hg_6 dX9_keepsAhead_29 ?_
        refine r_ishl (pc := 30) F dX9_keepsAhead_30 ?_
        refine r_ior (pc := 31) F dX9_keepsAhead_31 ?_
        refine V.nmI (fun x_7 ex_7 => ?_)
        have hb := hb x_7 ex_7
        refine r_istore_n (pc := 32) (lv' := [(2, Iv x_7), (0, Rv 1), (1, Rv 75), (3, Iv x3)]) F dX9_keepsAhead_32 rfl (by decide) rfl ?_
        refine r_iincN (pc := 33) 3 (lf := fun x_8 => [(3, Iv x_8), (2, Iv x_7), (0, Rv 1), (1, Rv 75)]) F dX9_keepsAhead_33 rfl (by decide) rfl (fun x_8 ex_8 => ?_)
        have hb := hb x_8 ex_8
        refine r_goto (pc := 36) (tgt := 4) F dX9_keepsAhead_36 (by decide) ?_
        exact V.sub [2, 3, 1, 0] rfl (g4 μ_4 x_7 x_8 hb)
      · have hb := hb.2 c_5
        refine r_iconst (pc := 23) F dX9_keepsAhead_23 (inR_lit rfl) ?_
        exact r_zret (pc := 24) F hR hr dX9_keepsAhead_24 (Or.inl rfl) hb
  have hb := hb G4 (fun μ x2 x3 hb => f4 μ x2 x3 (K4 μ x2 x3 hb))
  unfold b_X9_keepsAhead_e at hb
  refine r_iconst (pc := 0) F dX9_keepsAhead_0 (inR_lit rfl) ?_
  refine r_istore_n (pc := 1) (lv' := [(2, Iv 0), (0, Rv 1), (1, Rv 75)]) F dX9_keepsAhead_1 rfl (by decide) rfl ?_
  refine r_iconst (pc := 2) F dX9_keepsAhead_2 (inR_lit rfl) ?_
  refine r_istore_n (pc := 3) (lv' := [(3, Iv 0), (2, Iv 0), (0, Rv 1), (1, Rv 75)]) F dX9_keepsAhead_3 rfl (by decide) rfl ?_
  exact V.sub [2, 3, 1, 0] rfl (g4 μ 0 0 hb)
set_option maxHeartbeats 4000000 in
set_option maxRecDepth 100000 in
theorem c_X9_makes {g : Wc} {l : Launch} (μ : Mem) (p0 : Int) (Post : Pst) (hb : wp_X9_makes μ p0 Post) : MtC g l yX9_makes cX9_makes 8 (some .int) 3 [Rv 1, Iv p0, Rv 75] μ (QI g Post) := by
  intro hok
  refine enter (own := RX9) (by decide) rfl (Nat.le_of_ble_eq_true rfl) hok (fun X hl F hr hR => ?_)
  subst hl
  show V g X 8 μ [(0, Rv 1), (1, Iv p0), (2, Rv 75)] 0 []
  unfold wp_X9_makes at hb
  obtain ⟨G11, g11, f11⟩ : ∃ G : Mem → Int → Int → Int → Int → Int → Prop, (∀ μ x1 x3 x4 x5 x6, G μ x1 x3 x4 x5 x6 → V g X 8 μ [(0, Rv 1), (1, Iv x1), (2, Rv 75), (3, Iv x3), (4, Iv x4), (5, Iv x5), (6, Iv x6)] 11 []) ∧ (∀ μ x1 x3 x4 x5 x6, V g X 8 μ [(0, Rv 1), (1, Iv x1), (2, Rv 75), (3, Iv x3), (4, Iv x4), (5, Iv x5), (6, Iv x6)] 11 [] → G μ x1 x3 x4 x5 x6) := ⟨fun μ x1 x3 x4 x5 x6 => V g X 8 μ [(0, Rv 1), (1, Iv x1), (2, Rv 75), (3, Iv x3), (4, Iv x4), (5, Iv x5), (6, Iv x6)] 11 [], fun _ _ _ _ _ _ h => h, fun _ _ _ _ _ _ h => h⟩
  have K11 : ∀ (μ : Mem) (x1 : Int) (x3 : Int) (x4 : Int) (x5 : Int) (x6 : Int), b_X9_makes_11 G11 Post μ x1 x3 x4 x5 x6 → V g X 8 μ [(0, Rv 1), (1, Iv x1), (2, Rv 75), (3, Iv x3), (4, Iv x4), (5, Iv x5), (6, Iv x6)] 11 [] := by
    intro μ x1 x3 x4 x5 x6 hb
    unfold b_X9_makes_11 at hb
    refine r_iload (pc := 11) 6 F dX9_makes_11 rfl ?_
    refine r_aload_n (pc := 13) 0 F dX9_makes_13 rfl rfl ?_
    refine gf_RX9_26 (pc := 14) F dX9_makes_14 ?_
    refine r_icmp_ge (pc := 17) (tgt := 73) F dX9_makes_17 (by decide) (fun c_1 => ?_) (fun c_1 => ?_)
    · have hb := hb.1 c_1
      refine r_iload_n (pc := 73) 3 F dX9_makes_73 rfl rfl ?_
      exact r_iret (pc := 74) F hR hr dX9_makes_74 hb
    · have hb := hb.2 c_1
      refine r_aload_n (pc := 20) 2 F dX9_makes_20 rfl rfl ?_
      refine r_iload (pc := 21) 6 F dX9_makes_21 rfl ?_
      have hg_2 := hb.1
      have hb := hb.2
      refine r_iald (pc := 23) F lc75.1 lc75.2.1 lc75.2.2 hg_2 dX9_makes_23 ?_
      refine V.nmI (fun x_3 ex_3 => ?_)
      have hb := hb x_3 ex_3
      refine r_istore (pc := 24) (lv' := [(7, Iv x_3), (0, Rv 1), (1, Iv x1), (2, Rv 75), (3, Iv x3), (4, Iv x4), (5, Iv x5), (6, Iv x6)]) F dX9_makes_24 (by decide) rfl ?_
      refine r_aload_n (pc := 26) 1 F dX9_makes_26 rfl rfl ?_
      refine r_iload (pc := 27) 5 F dX9_makes_27 rfl ?_
      refine r_aload_n (pc := 29) 1 F dX9_makes_29 rfl rfl ?_
      refine r_iload (pc := 30) 6 F dX9_makes_30 rfl ?_
      refine r_iload (pc := 32) 0 F dX9_makes_32 rfl ?_
      refine r_callI (pc := 34) (avs := [Iv x5, Iv x_3]) (st := [Iv x4, Rv 1]) F (c_X9_changeFor μ x5 x_3 _ hb) (by decide) cal_X9_changeFor calv_X9_changeFor lk_RX9_59 rfl rfl (Nat.le_of_ble_eq_true rfl) dX9_makes_34 (fun r_4 μ_5 hb => ?_)
      refine r_iadd (pc := 37) F dX9_makes_37 ?_
      refine r_iload (pc := 38) 0 F dX9_makes_38 rfl ?_
      refine r_callI (pc := 40) (avs := [Iv (wrap (x4 + r_4)), Iv x_3]) (st := []) F (c_X9_endBehind μ_5 (wrap (x4 + r_4)) x_3 _ hb) (by decide) cal_X9_endBehind calv_X9_endBehind lk_RX9_62 rfl rfl (Nat.le_of_ble_eq_true rfl) dX9_makes_40 (fun r_6 μ_7 hb => ?_)
      refine r_istore (pc := 43) (lv' := [(4, Iv r_6), (7, Iv x_3), (0, Rv 1), (1, Iv x1), (2, Rv 75), (3, Iv x3), (5, Iv x5), (6, Iv x6)]) F dX9_makes_43 (by decide) rfl ?_
      refine r_aload_n (pc := 45) 2 F dX9_makes_45 rfl rfl ?_
      refine r_iload_n (pc := 46) 3 F dX9_makes_46 rfl rfl ?_
      refine r_iload_n (pc := 47) 5 F dX9_makes_47 rfl rfl ?_
      refine r_iload (pc := 48) 1 F dX9_makes_48 rfl ?_
      refine r_iload (pc := 50) 0 F dX9_makes_50 rfl ?_
      refine r_callI (pc := 52) (avs := [Iv x1, Iv x3, Iv x_3, Iv r_6]) (st := []) F (c_X9_gathered μ_7 x1 x3 x_3 r_6 _ hb) (by decide) cal_X9_gathered calv_X9_gathered lk_RX9_65 rfl rfl (Nat.le_of_ble_eq_true rfl) dX9_makes_52 (fun r_8 μ_9 hb => ?_)
      refine r_istore_n (pc := 55) (lv' := [(3, Iv r_8), (4, Iv r_6), (7, Iv x_3), (0, Rv 1), (1, Iv x1), (2, Rv 75), (5, Iv x5), (6, Iv x6)]) F dX9_makes_55 rfl (by decide) rfl ?_
      refine r_aload_n (pc := 56) 3 F dX9_makes_56 rfl rfl ?_
      refine gf_RX9_11 (pc := 57) F dX9_makes_57 ?_
      refine r_iconst (pc := 60) F dX9_makes_60 (inR_lit rfl) ?_
      refine r_aaldk (pc := 61) (e := 28) F (c := 12) (by decide) (by decide) rfl (by decide) ⟨by decide, by decide⟩ dX9_makes_61 ?_
      refine r_iload (pc := 62) 2 F dX9_makes_62 rfl ?_
      have hg_10 := hb.1
      have hb := hb.2
      refine r_iald (pc := 64) F lc28.1 lc28.2.1 lc28.2.2 hg_10 dX9_makes_64 ?_
      refine V.nmI (fun x_11 ex_11 => ?_)
      have hb := hb x_11 ex_11
      refine r_istore (pc := 65) (lv' := [(5, Iv x_11), (3, Iv r_8), (4, Iv r_6), (7, Iv x_3), (0, Rv 1), (1, Iv x1), (2, Rv 75), (6, Iv x6)]) F dX9_makes_65 (by decide) rfl ?_
      refine r_iincN (pc := 67) 7 (lf := fun x_12 => [(6, Iv x_12), (5, Iv x_11), (3, Iv r_8), (4, Iv r_6), (7, Iv x_3), (0, Rv 1), (1, Iv x1), (2, Rv 75)]) F dX9_makes_67 rfl (by decide) rfl (fun x_12 ex_12 => ?_)
      have hb := hb x_12 ex_12
      refine r_goto (pc := 70) (tgt := 11) F dX9_makes_70 (by decide) ?_
      exact V.sub [5, 6, 7, 2, 3, 1, 0] rfl (g11 μ_9 x1 r_8 r_6 x_11 x_12 hb)
  have hb := hb G11 (fun μ x1 x3 x4 x5 x6 hb => f11 μ x1 x3 x4 x5 x6 (K11 μ x1 x3 x4 x5 x6 hb))
  unfold b_X9_makes_e at hb
  refine r_iconst (pc := 0) F dX9_makes_0 (inR_lit rfl) ?_
  refine r_istore_n (pc := 1) (lv' := [(3, Iv 0), (0, Rv 1), (1, Iv p0), (2, Rv 75)]) F dX9_makes_1 rfl (by decide) rfl ?_
  refine r_iconst (pc := 2) F dX9_makes_2 (inR_lit rfl) ?_
  refine r_istore (pc := 3) (lv' := [(4, Iv 0), (3, Iv 0), (0, Rv 1), (1, Iv p0), (2, Rv 75)]) F dX9_makes_3 (by decide) rfl ?_
  refine r_iconst (pc := 5) F dX9_makes_5 (inR_lit rfl) ?_
  refine r_istore (pc := 6) (lv' := [(5, Iv (-1)), (4, Iv 0), (3, Iv 0), (0, Rv 1), (1, Iv p0), (2, Rv 75)]) F dX9_makes_6 (by decide) rfl ?_
  refine r_iconst (pc := 8) F dX9_makes_8 (inR_lit rfl) ?_
  refine r_istore (pc := 9) (lv' := [(6, Iv 0), (5, Iv (-1)), (4, Iv 0), (3, Iv 0), (0, Rv 1), (1, Iv p0), (2, Rv 75)]) F dX9_makes_9 (by decide) rfl ?_
  exact V.sub [4, 5, 6, 3, 2, 1, 0] rfl (g11 μ p0 0 0 (-1) 0 hb)
set_option maxHeartbeats 4000000 in
set_option maxRecDepth 100000 in
theorem c_X10_judge {g : Wc} {l : Launch} (μ : Mem) (p0 : Int) (Post : Pst) (hb : wp_X10_judge μ p0 Post) : MtC g l yX10_judge cX10_judge 2 (some .int) 4 [Rv 0, Iv p0] μ (QI g Post) := by
  intro hok
  refine enter (own := RX10) (by decide) rfl (Nat.le_of_ble_eq_true rfl) hok (fun X hl F hr hR => ?_)
  subst hl
  show V g X 2 μ [(0, Rv 0), (1, Iv p0)] 0 []
  unfold wp_X10_judge at hb
  have hb := hb
  unfold b_X10_judge_e at hb
  refine r_iload_n (pc := 0) 1 F dX10_judge_0 rfl rfl ?_
  refine r_iconst (pc := 1) F dX10_judge_1 (inR_lit rfl) ?_
  refine r_iconst (pc := 2) F dX10_judge_2 (inR_lit rfl) ?_
  refine r_callSI (pc := 3) (avs := [Iv p0, Iv 0, Iv 5]) (st := []) F (c_X10_isFrom μ p0 0 5 _ hb) (by decide) cal_X10_isFrom st_X10_isFrom lk_RX10_90 rfl rfl (Nat.le_of_ble_eq_true rfl) dX10_judge_3 (fun r_1 μ_2 hb => ?_)
  refine r_if_ne (pc := 6) (tgt := 12) F dX10_judge_6 (by decide) (fun c_3 => ?_) (fun c_3 => ?_)
  · have hb := hb.1 c_3
    refine r_aload_n (pc := 12) 0 F dX10_judge_12 rfl rfl ?_
    refine gf_RX10_19 (pc := 13) F dX10_judge_13 ?_
    refine gf_RX10_166 (pc := 16) F dX10_judge_16 ?_
    refine r_aload_n (pc := 19) 0 F dX10_judge_19 rfl rfl ?_
    refine gf_RX10_10 (pc := 20) F dX10_judge_20 ?_
    refine gf_RX10_94 (pc := 23) F dX10_judge_23 ?_
    refine r_icmp_eq (pc := 26) (tgt := 32) F dX10_judge_26 (by decide) (fun c_4 => ?_) (fun c_4 => ?_)
    · have hb := hb.1 c_4
      refine r_iload_n (pc := 32) 1 F dX10_judge_32 rfl rfl ?_
      refine r_iconst (pc := 33) F dX10_judge_33 (inR_lit rfl) ?_
      refine r_icmp_ne (pc := 34) (tgt := 52) F dX10_judge_34 (by decide) (fun c_5 => ?_) (fun c_5 => ?_)
      · have hb := hb.1 c_5
        refine r_aload_n (pc := 52) 0 F dX10_judge_52 rfl rfl ?_
        refine gf_RX10_10 (pc := 53) F dX10_judge_53 ?_
        refine r_aload_n (pc := 56) 0 F dX10_judge_56 rfl rfl ?_
        refine gf_RX10_19 (pc := 57) F dX10_judge_57 ?_
        refine gf_RX10_167 (pc := 60) F dX10_judge_60 ?_
        refine r_callI (pc := 63) (avs := [Rv 75]) (st := []) F (c_X9_keepsAhead μ_2 _ hb) (by decide) cal_X9_keepsAhead calv_X9_keepsAhead lk_RX10_172 rfl rfl (Nat.le_of_ble_eq_true rfl) dX10_judge_63 (fun r_6 μ_7 hb => ?_)
        refine r_if_eq (pc := 66) (tgt := 87) F dX10_judge_66 (by decide) (fun c_8 => ?_) (fun c_8 => ?_)
        · have hb := hb.1 c_8
          refine r_bipush (pc := 87) F dX10_judge_87 (inR_lit rfl) (by decide) ?_
          exact r_iret (pc := 89) F hR hr dX10_judge_89 hb
        · have hb := hb.2 c_8
          refine r_aload_n (pc := 69) 0 F dX10_judge_69 rfl rfl ?_
          refine gf_RX10_10 (pc := 70) F dX10_judge_70 ?_
          refine r_iload_n (pc := 73) 1 F dX10_judge_73 rfl rfl ?_
          refine r_aload_n (pc := 74) 0 F dX10_judge_74 rfl rfl ?_
          refine gf_RX10_19 (pc := 75) F dX10_judge_75 ?_
          refine gf_RX10_167 (pc := 78) F dX10_judge_78 ?_
          refine r_callI (pc := 81) (avs := [Iv p0, Rv 75]) (st := []) F (c_X9_makes μ_7 p0 _ hb) (by decide) cal_X9_makes calv_X9_makes lk_RX10_176 rfl rfl (Nat.le_of_ble_eq_true rfl) dX10_judge_81 (fun r_9 μ_10 hb => ?_)
          refine r_goto (pc := 84) (tgt := 89) F dX10_judge_84 (by decide) ?_
          exact r_iret (pc := 89) F hR hr dX10_judge_89 hb
      · have hb := hb.2 c_5
        refine r_aload_n (pc := 37) 0 F dX10_judge_37 rfl rfl ?_
        refine gf_RX10_49 (pc := 38) F dX10_judge_38 ?_
        refine r_aload_n (pc := 41) 0 F dX10_judge_41 rfl rfl ?_
        refine gf_RX10_19 (pc := 42) F dX10_judge_42 ?_
        refine gf_RX10_167 (pc := 45) F dX10_judge_45 ?_
        refine r_callI (pc := 48) (avs := [Rv 75]) (st := []) F (c_X4_lastEnd μ_2 _ hb) (by decide) cal_X4_lastEnd calv_X4_lastEnd lk_RX10_168 rfl rfl (Nat.le_of_ble_eq_true rfl) dX10_judge_48 (fun r_11 μ_12 hb => ?_)
        exact r_iret (pc := 51) F hR hr dX10_judge_51 hb
    · have hb := hb.2 c_4
      refine r_bipush (pc := 29) F dX10_judge_29 (inR_lit rfl) (by decide) ?_
      exact r_iret (pc := 31) F hR hr dX10_judge_31 hb
  · have hb := hb.2 c_3
    refine r_bipush (pc := 9) F dX10_judge_9 (inR_lit rfl) (by decide) ?_
    exact r_iret (pc := 11) F hR hr dX10_judge_11 hb
