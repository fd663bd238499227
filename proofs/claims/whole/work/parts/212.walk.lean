/-! Walks: X11_put, X11_step, X11_walk, X11_way, X11_work. By program. -/
set_option maxHeartbeats 4000000 in
set_option maxRecDepth 100000 in
theorem c_X11_put {g : Wc} {l : Launch} (μ : Mem) (p0 : Int) (p1 : Int) (p2 : Int) (Post : Pst) (hb : wp_X11_put μ p0 p1 p2 Post) : MtC g l yX11_put cX11_put 5 (some .int) 2 [Rv 11, Iv p0, Iv p1, Iv p2] μ (QI g Post) := by
  intro hok
  refine enter (own := RX11) (by decide) rfl (Nat.le_of_ble_eq_true rfl) hok (fun X hl F hr hR => ?_)
  subst hl
  show V g X 5 μ [(0, Rv 11), (1, Iv p0), (2, Iv p1), (3, Iv p2)] 0 []
  unfold wp_X11_put at hb
  have K166 : ∀ (μ : Mem) (x1 : Int) (x2 : Int) (x3 : Int) (x4 : Int), b_X11_put_166 Post μ x1 x2 x3 x4 → V g X 5 μ [(0, Rv 11), (1, Iv x1), (2, Iv x2), (3, Iv x3), (4, Iv x4)] 166 [] := by
    intro μ x1 x2 x3 x4 hb
    unfold b_X11_put_166 at hb
    refine r_iload_n (pc := 166) 2 F dX11_put_166 rfl rfl ?_
    refine r_iconst (pc := 167) F dX11_put_167 (inR_lit rfl) ?_
    refine r_icmp_ne (pc := 168) (tgt := 198) F dX11_put_168 (by decide) (fun c_1 => ?_) (fun c_1 => ?_)
    · have hb := hb.1 c_1
      refine r_iload (pc := 198) 4 F dX11_put_198 rfl ?_
      exact r_iret (pc := 200) F hR hr dX11_put_200 hb
    · have hb := hb.2 c_1
      refine r_iload_n (pc := 171) 3 F dX11_put_171 rfl rfl ?_
      refine r_i2l (pc := 172) F dX11_put_172 ?_
      refine r_lconst (pc := 173) (x := 0) F dX11_put_173 (inRL_lit rfl) (by decide) ?_
      refine r_ldc2 (pc := 174) F kl_RX11_104 (x := 2) (by decide) (inRL_lit rfl) dX11_put_174 ?_
      refine r_callSI (pc := 177) (avs := [Lv x3, Lv 0, Lv 2]) (st := []) F (c_X11_in μ x3 0 2 _ hb) (by decide) cal_X11_in st_X11_in lk_RX11_86 rfl rfl (Nat.le_of_ble_eq_true rfl) dX11_put_177 (fun r_2 μ_3 hb => ?_)
      refine r_if_eq (pc := 180) (tgt := 198) F dX11_put_180 (by decide) (fun c_4 => ?_) (fun c_4 => ?_)
      · have hb := hb.1 c_4
        refine r_iload (pc := 198) 4 F dX11_put_198 rfl ?_
        exact r_iret (pc := 200) F hR hr dX11_put_200 hb
      · have hb := hb.2 c_4
        refine r_aload_n (pc := 183) 0 F dX11_put_183 rfl rfl ?_
        refine gf_RX11_22 (pc := 184) F dX11_put_184 ?_
        refine r_iload_n (pc := 187) 1 F dX11_put_187 rfl rfl ?_
        have hg_5 := hb.1
        have hb := hb.2
        refine r_iald (pc := 188) F lc94.1 lc94.2.1 lc94.2.2 hg_5 dX11_put_188 ?_
        refine V.nmI (fun x_6 ex_6 => ?_)
        have hb := hb x_6 ex_6
        refine r_istore (pc := 189) (lv' := [(4, Iv x_6), (0, Rv 11), (1, Iv x1), (2, Iv x2), (3, Iv x3)]) F dX11_put_189 (by decide) rfl ?_
        refine r_aload_n (pc := 191) 1 F dX11_put_191 rfl rfl ?_
        refine gf_RX11_22 (pc := 192) F dX11_put_192 ?_
        refine r_iload_n (pc := 195) 2 F dX11_put_195 rfl rfl ?_
        refine r_iload_n (pc := 196) 4 F dX11_put_196 rfl rfl ?_
        have hg_7 := hb.1
        have hb := hb.2
        refine r_iast (pc := 197) F lc94.1 lc94.2.1 lc94.2.2 hg_7 dX11_put_197 ?_
        refine V.nmM (fun μ_8 eμ_8 => ?_)
        have hb := hb μ_8 eμ_8
        refine r_iload (pc := 198) 0 F dX11_put_198 rfl ?_
        exact r_iret (pc := 200) F hR hr dX11_put_200 hb
  have K131 : ∀ (μ : Mem) (x1 : Int) (x2 : Int) (x3 : Int) (x4 : Int), b_X11_put_131 Post μ x1 x2 x3 x4 → V g X 5 μ [(0, Rv 11), (1, Iv x1), (2, Iv x2), (3, Iv x3), (4, Iv x4)] 131 [] := by
    intro μ x1 x2 x3 x4 hb
    unfold b_X11_put_131 at hb
    refine r_iload_n (pc := 131) 2 F dX11_put_131 rfl rfl ?_
    refine r_iconst (pc := 132) F dX11_put_132 (inR_lit rfl) ?_
    refine r_icmp_ne (pc := 133) (tgt := 166) F dX11_put_133 (by decide) (fun c_9 => ?_) (fun c_9 => ?_)
    · have hb := hb.1 c_9
      exact V.sub [0, 1, 2, 3, 4] rfl (K166 μ x1 x2 x3 x4 hb)
    · have hb := hb.2 c_9
      refine r_iload_n (pc := 136) 3 F dX11_put_136 rfl rfl ?_
      refine r_i2l (pc := 137) F dX11_put_137 ?_
      refine r_lconst (pc := 138) (x := 0) F dX11_put_138 (inRL_lit rfl) (by decide) ?_
      refine r_ldc2 (pc := 139) F kl_RX11_102 (x := 20) (by decide) (inRL_lit rfl) dX11_put_139 ?_
      refine r_callSI (pc := 142) (avs := [Lv x3, Lv 0, Lv 20]) (st := []) F (c_X11_in μ x3 0 20 _ hb) (by decide) cal_X11_in st_X11_in lk_RX11_86 rfl rfl (Nat.le_of_ble_eq_true rfl) dX11_put_142 (fun r_10 μ_11 hb => ?_)
      refine r_if_eq (pc := 145) (tgt := 166) F dX11_put_145 (by decide) (fun c_12 => ?_) (fun c_12 => ?_)
      · have hb := hb.1 c_12
        exact V.sub [0, 1, 2, 3, 4] rfl (K166 μ_11 x1 x2 x3 x4 hb)
      · have hb := hb.2 c_12
        refine r_aload_n (pc := 148) 0 F dX11_put_148 rfl rfl ?_
        refine gf_RX11_19 (pc := 149) F dX11_put_149 ?_
        refine r_iload_n (pc := 152) 1 F dX11_put_152 rfl rfl ?_
        have hg_13 := hb.1
        have hb := hb.2
        refine r_iald (pc := 153) F lc93.1 lc93.2.1 lc93.2.2 hg_13 dX11_put_153 ?_
        refine V.nmI (fun x_14 ex_14 => ?_)
        have hb := hb x_14 ex_14
        refine r_istore (pc := 154) (lv' := [(4, Iv x_14), (0, Rv 11), (1, Iv x1), (2, Iv x2), (3, Iv x3)]) F dX11_put_154 (by decide) rfl ?_
        refine r_aload_n (pc := 156) 1 F dX11_put_156 rfl rfl ?_
        refine gf_RX11_19 (pc := 157) F dX11_put_157 ?_
        refine r_iload_n (pc := 160) 2 F dX11_put_160 rfl rfl ?_
        refine r_iload_n (pc := 161) 4 F dX11_put_161 rfl rfl ?_
        have hg_15 := hb.1
        have hb := hb.2
        refine r_iast (pc := 162) F lc93.1 lc93.2.1 lc93.2.2 hg_15 dX11_put_162 ?_
        refine V.nmM (fun μ_16 eμ_16 => ?_)
        have hb := hb μ_16 eμ_16
        refine r_goto (pc := 163) (tgt := 198) F dX11_put_163 (by decide) ?_
        refine r_iload (pc := 198) 0 F dX11_put_198 rfl ?_
        exact r_iret (pc := 200) F hR hr dX11_put_200 hb
  have K96 : ∀ (μ : Mem) (x1 : Int) (x2 : Int) (x3 : Int) (x4 : Int), b_X11_put_96 Post μ x1 x2 x3 x4 → V g X 5 μ [(0, Rv 11), (1, Iv x1), (2, Iv x2), (3, Iv x3), (4, Iv x4)] 96 [] := by
    intro μ x1 x2 x3 x4 hb
    unfold b_X11_put_96 at hb
    refine r_iload_n (pc := 96) 2 F dX11_put_96 rfl rfl ?_
    refine r_iconst (pc := 97) F dX11_put_97 (inR_lit rfl) ?_
    refine r_icmp_ne (pc := 98) (tgt := 131) F dX11_put_98 (by decide) (fun c_17 => ?_) (fun c_17 => ?_)
    · have hb := hb.1 c_17
      exact V.sub [0, 1, 2, 3, 4] rfl (K131 μ x1 x2 x3 x4 hb)
    · have hb := hb.2 c_17
      refine r_iload_n (pc := 101) 3 F dX11_put_101 rfl rfl ?_
      refine r_i2l (pc := 102) F dX11_put_102 ?_
      refine r_lconst (pc := 103) (x := 0) F dX11_put_103 (inRL_lit rfl) (by decide) ?_
      refine r_ldc2 (pc := 104) F kl_RX11_100 (x := 300) (by decide) (inRL_lit rfl) dX11_put_104 ?_
      refine r_callSI (pc := 107) (avs := [Lv x3, Lv 0, Lv 300]) (st := []) F (c_X11_in μ x3 0 300 _ hb) (by decide) cal_X11_in st_X11_in lk_RX11_86 rfl rfl (Nat.le_of_ble_eq_true rfl) dX11_put_107 (fun r_18 μ_19 hb => ?_)
      refine r_if_eq (pc := 110) (tgt := 131) F dX11_put_110 (by decide) (fun c_20 => ?_) (fun c_20 => ?_)
      · have hb := hb.1 c_20
        exact V.sub [0, 1, 2, 3, 4] rfl (K131 μ_19 x1 x2 x3 x4 hb)
      · have hb := hb.2 c_20
        refine r_aload_n (pc := 113) 0 F dX11_put_113 rfl rfl ?_
        refine gf_RX11_16 (pc := 114) F dX11_put_114 ?_
        refine r_iload_n (pc := 117) 1 F dX11_put_117 rfl rfl ?_
        have hg_21 := hb.1
        have hb := hb.2
        refine r_iald (pc := 118) F lc92.1 lc92.2.1 lc92.2.2 hg_21 dX11_put_118 ?_
        refine V.nmI (fun x_22 ex_22 => ?_)
        have hb := hb x_22 ex_22
        refine r_istore (pc := 119) (lv' := [(4, Iv x_22), (0, Rv 11), (1, Iv x1), (2, Iv x2), (3, Iv x3)]) F dX11_put_119 (by decide) rfl ?_
        refine r_aload_n (pc := 121) 1 F dX11_put_121 rfl rfl ?_
        refine gf_RX11_16 (pc := 122) F dX11_put_122 ?_
        refine r_iload_n (pc := 125) 2 F dX11_put_125 rfl rfl ?_
        refine r_iload_n (pc := 126) 4 F dX11_put_126 rfl rfl ?_
        have hg_23 := hb.1
        have hb := hb.2
        refine r_iast (pc := 127) F lc92.1 lc92.2.1 lc92.2.2 hg_23 dX11_put_127 ?_
        refine V.nmM (fun μ_24 eμ_24 => ?_)
        have hb := hb μ_24 eμ_24
        refine r_goto (pc := 128) (tgt := 198) F dX11_put_128 (by decide) ?_
        refine r_iload (pc := 198) 0 F dX11_put_198 rfl ?_
        exact r_iret (pc := 200) F hR hr dX11_put_200 hb
  have K61 : ∀ (μ : Mem) (x1 : Int) (x2 : Int) (x3 : Int) (x4 : Int), b_X11_put_61 Post μ x1 x2 x3 x4 → V g X 5 μ [(0, Rv 11), (1, Iv x1), (2, Iv x2), (3, Iv x3), (4, Iv x4)] 61 [] := by
    intro μ x1 x2 x3 x4 hb
    unfold b_X11_put_61 at hb
    refine r_iload_n (pc := 61) 2 F dX11_put_61 rfl rfl ?_
    refine r_iconst (pc := 62) F dX11_put_62 (inR_lit rfl) ?_
    refine r_icmp_ne (pc := 63) (tgt := 96) F dX11_put_63 (by decide) (fun c_25 => ?_) (fun c_25 => ?_)
    · have hb := hb.1 c_25
      exact V.sub [0, 1, 2, 3, 4] rfl (K96 μ x1 x2 x3 x4 hb)
    · have hb := hb.2 c_25
      refine r_iload_n (pc := 66) 3 F dX11_put_66 rfl rfl ?_
      refine r_i2l (pc := 67) F dX11_put_67 ?_
      refine r_lconst (pc := 68) (x := 0) F dX11_put_68 (inRL_lit rfl) (by decide) ?_
      refine r_ldc2 (pc := 69) F kl_RX11_98 (x := 99) (by decide) (inRL_lit rfl) dX11_put_69 ?_
      refine r_callSI (pc := 72) (avs := [Lv x3, Lv 0, Lv 99]) (st := []) F (c_X11_in μ x3 0 99 _ hb) (by decide) cal_X11_in st_X11_in lk_RX11_86 rfl rfl (Nat.le_of_ble_eq_true rfl) dX11_put_72 (fun r_26 μ_27 hb => ?_)
      refine r_if_eq (pc := 75) (tgt := 96) F dX11_put_75 (by decide) (fun c_28 => ?_) (fun c_28 => ?_)
      · have hb := hb.1 c_28
        exact V.sub [0, 1, 2, 3, 4] rfl (K96 μ_27 x1 x2 x3 x4 hb)
      · have hb := hb.2 c_28
        refine r_aload_n (pc := 78) 0 F dX11_put_78 rfl rfl ?_
        refine gf_RX11_13 (pc := 79) F dX11_put_79 ?_
        refine r_iload_n (pc := 82) 1 F dX11_put_82 rfl rfl ?_
        have hg_29 := hb.1
        have hb := hb.2
        refine r_iald (pc := 83) F lc91.1 lc91.2.1 lc91.2.2 hg_29 dX11_put_83 ?_
        refine V.nmI (fun x_30 ex_30 => ?_)
        have hb := hb x_30 ex_30
        refine r_istore (pc := 84) (lv' := [(4, Iv x_30), (0, Rv 11), (1, Iv x1), (2, Iv x2), (3, Iv x3)]) F dX11_put_84 (by decide) rfl ?_
        refine r_aload_n (pc := 86) 1 F dX11_put_86 rfl rfl ?_
        refine gf_RX11_13 (pc := 87) F dX11_put_87 ?_
        refine r_iload_n (pc := 90) 2 F dX11_put_90 rfl rfl ?_
        refine r_iload_n (pc := 91) 4 F dX11_put_91 rfl rfl ?_
        have hg_31 := hb.1
        have hb := hb.2
        refine r_iast (pc := 92) F lc91.1 lc91.2.1 lc91.2.2 hg_31 dX11_put_92 ?_
        refine V.nmM (fun μ_32 eμ_32 => ?_)
        have hb := hb μ_32 eμ_32
        refine r_goto (pc := 93) (tgt := 198) F dX11_put_93 (by decide) ?_
        refine r_iload (pc := 198) 0 F dX11_put_198 rfl ?_
        exact r_iret (pc := 200) F hR hr dX11_put_200 hb
  have hb := hb
  unfold b_X11_put_e at hb
  refine r_aload_n (pc := 0) 0 F dX11_put_0 rfl rfl ?_
  refine r_iload_n (pc := 1) 1 F dX11_put_1 rfl rfl ?_
  refine r_callI (pc := 2) (avs := [Iv p0]) (st := []) F (c_X11_isWork μ p0 _ hb) (by decide) cal_X11_isWork calv_X11_isWork lk_RX11_92 rfl rfl (Nat.le_of_ble_eq_true rfl) dX11_put_2 (fun r_33 μ_34 hb => ?_)
  refine r_if_eq (pc := 5) (tgt := 20) F dX11_put_5 (by decide) (fun c_35 => ?_) (fun c_35 => ?_)
  · have hb := hb.1 c_35
    refine r_bipush (pc := 20) F dX11_put_20 (inR_lit rfl) (by decide) ?_
    exact r_iret (pc := 22) F hR hr dX11_put_22 hb
  · have hb := hb.2 c_35
    refine r_iload_n (pc := 8) 2 F dX11_put_8 rfl rfl ?_
    refine r_i2l (pc := 9) F dX11_put_9 ?_
    refine r_lconst (pc := 10) (x := 0) F dX11_put_10 (inRL_lit rfl) (by decide) ?_
    refine r_ldc2 (pc := 11) F kl_RX11_96 (x := 4) (by decide) (inRL_lit rfl) dX11_put_11 ?_
    refine r_callSI (pc := 14) (avs := [Lv p1, Lv 0, Lv 4]) (st := []) F (c_X11_in μ_34 p1 0 4 _ hb) (by decide) cal_X11_in st_X11_in lk_RX11_86 rfl rfl (Nat.le_of_ble_eq_true rfl) dX11_put_14 (fun r_36 μ_37 hb => ?_)
    refine r_if_ne (pc := 17) (tgt := 23) F dX11_put_17 (by decide) (fun c_38 => ?_) (fun c_38 => ?_)
    · have hb := hb.1 c_38
      refine r_bipush (pc := 23) F dX11_put_23 (inR_lit rfl) (by decide) ?_
      refine r_istore (pc := 25) (lv' := [(4, Iv (-2)), (0, Rv 11), (1, Iv p0), (2, Iv p1), (3, Iv p2)]) F dX11_put_25 (by decide) rfl ?_
      refine r_iload_n (pc := 27) 3 F dX11_put_27 rfl rfl ?_
      refine r_if_ne (pc := 28) (tgt := 61) F dX11_put_28 (by decide) (fun c_39 => ?_) (fun c_39 => ?_)
      · have hb := hb.1 c_39
        exact V.sub [1, 2, 3, 4, 0] rfl (K61 μ_37 p0 p1 p2 (-2) hb)
      · have hb := hb.2 c_39
        refine r_iload_n (pc := 31) 4 F dX11_put_31 rfl rfl ?_
        refine r_i2l (pc := 32) F dX11_put_32 ?_
        refine r_lconst (pc := 33) (x := 1) F dX11_put_33 (inRL_lit rfl) (by decide) ?_
        refine r_ldc2 (pc := 34) F kl_RX11_90 (x := 40) (by decide) (inRL_lit rfl) dX11_put_34 ?_
        refine r_callSI (pc := 37) (avs := [Lv p2, Lv 1, Lv 40]) (st := []) F (c_X11_in μ_37 p2 1 40 _ hb) (by decide) cal_X11_in st_X11_in lk_RX11_86 rfl rfl (Nat.le_of_ble_eq_true rfl) dX11_put_37 (fun r_40 μ_41 hb => ?_)
        refine r_if_eq (pc := 40) (tgt := 61) F dX11_put_40 (by decide) (fun c_42 => ?_) (fun c_42 => ?_)
        · have hb := hb.1 c_42
          exact V.sub [1, 2, 3, 4, 0] rfl (K61 μ_41 p0 p1 p2 (-2) hb)
        · have hb := hb.2 c_42
          refine r_aload_n (pc := 43) 1 F dX11_put_43 rfl rfl ?_
          refine gf_RX11_7 (pc := 44) F dX11_put_44 ?_
          refine r_iload_n (pc := 47) 2 F dX11_put_47 rfl rfl ?_
          have hg_43 := hb.1
          have hb := hb.2
          refine r_iald (pc := 48) F lc90.1 lc90.2.1 lc90.2.2 hg_43 dX11_put_48 ?_
          refine V.nmI (fun x_44 ex_44 => ?_)
          have hb := hb x_44 ex_44
          refine r_istore (pc := 49) (lv' := [(4, Iv x_44), (0, Rv 11), (1, Iv p0), (2, Iv p1), (3, Iv p2)]) F dX11_put_49 (by decide) rfl ?_
          refine r_aload_n (pc := 51) 1 F dX11_put_51 rfl rfl ?_
          refine gf_RX11_7 (pc := 52) F dX11_put_52 ?_
          refine r_iload_n (pc := 55) 2 F dX11_put_55 rfl rfl ?_
          refine r_iload_n (pc := 56) 4 F dX11_put_56 rfl rfl ?_
          have hg_45 := hb.1
          have hb := hb.2
          refine r_iast (pc := 57) F lc90.1 lc90.2.1 lc90.2.2 hg_45 dX11_put_57 ?_
          refine V.nmM (fun μ_46 eμ_46 => ?_)
          have hb := hb μ_46 eμ_46
          refine r_goto (pc := 58) (tgt := 198) F dX11_put_58 (by decide) ?_
          refine r_iload (pc := 198) 0 F dX11_put_198 rfl ?_
          exact r_iret (pc := 200) F hR hr dX11_put_200 hb
    · have hb := hb.2 c_38
      refine r_bipush (pc := 20) F dX11_put_20 (inR_lit rfl) (by decide) ?_
      exact r_iret (pc := 22) F hR hr dX11_put_22 hb
set_option maxHeartbeats 4000000 in
set_option maxRecDepth 100000 in
theorem c_X11_step {g : Wc} {l : Launch} (μ : Mem) (p0 : Int) (p1 : Int) (p2 : Int) (Post : Pst) (hb : wp_X11_step μ p0 p1 p2 Post) : MtC g l yX11_step cX11_step 5 (some .int) 1 [Rv 11, Iv p0, Iv p1, Iv p2] μ (QI g Post) := by
  intro hok
  refine enter (own := RX11) (by decide) rfl (Nat.le_of_ble_eq_true rfl) hok (fun X hl F hr hR => ?_)
  subst hl
  show V g X 5 μ [(0, Rv 11), (1, Iv p0), (2, Iv p1), (3, Iv p2)] 0 []
  unfold wp_X11_step at hb
  have hb := hb
  unfold b_X11_step_e at hb
  refine r_iload_n (pc := 0) 1 F dX11_step_0 rfl rfl ?_
  refine r_i2l (pc := 1) F dX11_step_1 ?_
  refine r_lconst (pc := 2) (x := 0) F dX11_step_2 (inRL_lit rfl) (by decide) ?_
  refine r_lconst (pc := 3) (x := 1) F dX11_step_3 (inRL_lit rfl) (by decide) ?_
  refine r_callSI (pc := 4) (avs := [Lv p0, Lv 0, Lv 1]) (st := []) F (c_X11_in μ p0 0 1 _ hb) (by decide) cal_X11_in st_X11_in lk_RX11_86 rfl rfl (Nat.le_of_ble_eq_true rfl) dX11_step_4 (fun r_1 μ_2 hb => ?_)
  refine r_if_eq (pc := 7) (tgt := 34) F dX11_step_7 (by decide) (fun c_3 => ?_) (fun c_3 => ?_)
  · have hb := hb.1 c_3
    refine r_bipush (pc := 34) F dX11_step_34 (inR_lit rfl) (by decide) ?_
    exact r_iret (pc := 36) F hR hr dX11_step_36 hb
  · have hb := hb.2 c_3
    refine r_iload_n (pc := 10) 2 F dX11_step_10 rfl rfl ?_
    refine r_i2l (pc := 11) F dX11_step_11 ?_
    refine r_lconst (pc := 12) (x := 0) F dX11_step_12 (inRL_lit rfl) (by decide) ?_
    refine r_ldc2 (pc := 13) F kl_RX11_154 (x := 5) (by decide) (inRL_lit rfl) dX11_step_13 ?_
    refine r_callSI (pc := 16) (avs := [Lv p1, Lv 0, Lv 5]) (st := []) F (c_X11_in μ_2 p1 0 5 _ hb) (by decide) cal_X11_in st_X11_in lk_RX11_86 rfl rfl (Nat.le_of_ble_eq_true rfl) dX11_step_16 (fun r_4 μ_5 hb => ?_)
    refine r_if_eq (pc := 19) (tgt := 34) F dX11_step_19 (by decide) (fun c_6 => ?_) (fun c_6 => ?_)
    · have hb := hb.1 c_6
      refine r_bipush (pc := 34) F dX11_step_34 (inR_lit rfl) (by decide) ?_
      exact r_iret (pc := 36) F hR hr dX11_step_36 hb
    · have hb := hb.2 c_6
      refine r_iload_n (pc := 22) 3 F dX11_step_22 rfl rfl ?_
      refine r_i2l (pc := 23) F dX11_step_23 ?_
      refine r_lconst (pc := 24) (x := 1) F dX11_step_24 (inRL_lit rfl) (by decide) ?_
      refine r_ldc2 (pc := 25) F kl_RX11_102 (x := 20) (by decide) (inRL_lit rfl) dX11_step_25 ?_
      refine r_callSI (pc := 28) (avs := [Lv p2, Lv 1, Lv 20]) (st := []) F (c_X11_in μ_5 p2 1 20 _ hb) (by decide) cal_X11_in st_X11_in lk_RX11_86 rfl rfl (Nat.le_of_ble_eq_true rfl) dX11_step_28 (fun r_7 μ_8 hb => ?_)
      refine r_if_ne (pc := 31) (tgt := 37) F dX11_step_31 (by decide) (fun c_9 => ?_) (fun c_9 => ?_)
      · have hb := hb.1 c_9
        refine r_aload_n (pc := 37) 0 F dX11_step_37 rfl rfl ?_
        refine gf_RX11_47 (pc := 38) F dX11_step_38 ?_
        refine r_iload_n (pc := 41) 1 F dX11_step_41 rfl rfl ?_
        have hg_10 := hb.1
        have hb := hb.2
        refine r_iald (pc := 42) F lc101.1 lc101.2.1 lc101.2.2 hg_10 dX11_step_42 ?_
        refine V.nmI (fun x_11 ex_11 => ?_)
        have hb := hb x_11 ex_11
        refine r_istore (pc := 43) (lv' := [(4, Iv x_11), (0, Rv 11), (1, Iv p0), (2, Iv p1), (3, Iv p2)]) F dX11_step_43 (by decide) rfl ?_
        refine r_iload (pc := 45) 0 F dX11_step_45 rfl ?_
        refine r_bipush (pc := 47) F dX11_step_47 (inR_lit rfl) (by decide) ?_
        refine r_icmp_ne (pc := 49) (tgt := 55) F dX11_step_49 (by decide) (fun c_12 => ?_) (fun c_12 => ?_)
        · have hb := hb.1 c_12
          refine r_aload_n (pc := 55) 1 F dX11_step_55 rfl rfl ?_
          refine gf_RX11_44 (pc := 56) F dX11_step_56 ?_
          refine r_bipush (pc := 59) F dX11_step_59 (inR_lit rfl) (by decide) ?_
          refine r_iload_n (pc := 61) 2 F dX11_step_61 rfl rfl ?_
          refine r_imul (pc := 62) F dX11_step_62 ?_
          refine r_iconst (pc := 63) F dX11_step_63 (inR_lit rfl) ?_
          refine r_iload (pc := 64) 0 F dX11_step_64 rfl ?_
          refine r_imul (pc := 66) F dX11_step_66 ?_
          refine r_iadd (pc := 67) F dX11_step_67 ?_
          refine r_iload_n (pc := 68) 3 F dX11_step_68 rfl rfl ?_
          have hg_13 := hb.1
          have hb := hb.2
          refine r_iast (pc := 69) F lc100.1 lc100.2.1 lc100.2.2 hg_13 dX11_step_69 ?_
          refine V.nmM (fun μ_14 eμ_14 => ?_)
          have hb := hb μ_14 eμ_14
          refine r_aload_n (pc := 70) 1 F dX11_step_70 rfl rfl ?_
          refine gf_RX11_44 (pc := 71) F dX11_step_71 ?_
          refine r_bipush (pc := 74) F dX11_step_74 (inR_lit rfl) (by decide) ?_
          refine r_iload_n (pc := 76) 2 F dX11_step_76 rfl rfl ?_
          refine r_imul (pc := 77) F dX11_step_77 ?_
          refine r_iconst (pc := 78) F dX11_step_78 (inR_lit rfl) ?_
          refine r_iload (pc := 79) 0 F dX11_step_79 rfl ?_
          refine r_imul (pc := 81) F dX11_step_81 ?_
          refine r_iadd (pc := 82) F dX11_step_82 ?_
          refine r_iconst (pc := 83) F dX11_step_83 (inR_lit rfl) ?_
          refine r_iadd (pc := 84) F dX11_step_84 ?_
          refine r_iload_n (pc := 85) 4 F dX11_step_85 rfl rfl ?_
          have hg_15 := hb.1
          have hb := hb.2
          refine r_iast (pc := 86) F lc100.1 lc100.2.1 lc100.2.2 hg_15 dX11_step_86 ?_
          refine V.nmM (fun μ_16 eμ_16 => ?_)
          have hb := hb μ_16 eμ_16
          refine r_aload_n (pc := 87) 1 F dX11_step_87 rfl rfl ?_
          refine gf_RX11_47 (pc := 88) F dX11_step_88 ?_
          refine r_iload_n (pc := 91) 2 F dX11_step_91 rfl rfl ?_
          refine r_dup2 (pc := 92) F dX11_step_92 rfl rfl ?_
          have hg_17 := hb.1
          have hb := hb.2
          refine r_iald (pc := 93) F lc101.1 lc101.2.1 lc101.2.2 hg_17 dX11_step_93 ?_
          refine r_iconst (pc := 94) F dX11_step_94 (inR_lit rfl) ?_
          refine r_iadd (pc := 95) F dX11_step_95 ?_
          have hg_18 := hb.1
          have hb := hb.2
          refine r_iast (pc := 96) F lc101.1 lc101.2.1 lc101.2.2 hg_18 dX11_step_96 ?_
          refine V.nmM (fun μ_19 eμ_19 => ?_)
          have hb := hb μ_19 eμ_19
          refine r_iload (pc := 97) 0 F dX11_step_97 rfl ?_
          refine r_iconst (pc := 99) F dX11_step_99 (inR_lit rfl) ?_
          refine r_iadd (pc := 100) F dX11_step_100 ?_
          exact r_iret (pc := 101) F hR hr dX11_step_101 hb
        · have hb := hb.2 c_12
          refine r_bipush (pc := 52) F dX11_step_52 (inR_lit rfl) (by decide) ?_
          exact r_iret (pc := 54) F hR hr dX11_step_54 hb
      · have hb := hb.2 c_9
        refine r_bipush (pc := 34) F dX11_step_34 (inR_lit rfl) (by decide) ?_
        exact r_iret (pc := 36) F hR hr dX11_step_36 hb
set_option maxHeartbeats 4000000 in
set_option maxRecDepth 100000 in
theorem c_X11_walk {g : Wc} {l : Launch} (μ : Mem) (Post : Pst) (hb : wp_X11_walk μ Post) : MtC g l yX11_walk cX11_walk 9 (some .int) 1 [Rv 11] μ (QI g Post) := by
  intro hok
  refine enter (own := RX11) (by decide) rfl (Nat.le_of_ble_eq_true rfl) hok (fun X hl F hr hR => ?_)
  subst hl
  show V g X 9 μ [(0, Rv 11)] 0 []
  unfold wp_X11_walk at hb
  obtain ⟨G14, g14, f14⟩ : ∃ G : Mem → Int → Int → Int → Prop, (∀ μ x1 x2 x3, G μ x1 x2 x3 → V g X 9 μ [(0, Rv 11), (1, Iv x1), (2, Iv x2), (3, Iv x3)] 14 []) ∧ (∀ μ x1 x2 x3, V g X 9 μ [(0, Rv 11), (1, Iv x1), (2, Iv x2), (3, Iv x3)] 14 [] → G μ x1 x2 x3) := ⟨fun μ x1 x2 x3 => V g X 9 μ [(0, Rv 11), (1, Iv x1), (2, Iv x2), (3, Iv x3)] 14 [], fun _ _ _ _ h => h, fun _ _ _ _ h => h⟩
  obtain ⟨G22, g22, f22⟩ : ∃ G : Mem → Int → Int → Int → Int → Prop, (∀ μ x1 x2 x3 x4, G μ x1 x2 x3 x4 → V g X 9 μ [(0, Rv 11), (1, Iv x1), (2, Iv x2), (3, Iv x3), (4, Iv x4)] 22 []) ∧ (∀ μ x1 x2 x3 x4, V g X 9 μ [(0, Rv 11), (1, Iv x1), (2, Iv x2), (3, Iv x3), (4, Iv x4)] 22 [] → G μ x1 x2 x3 x4) := ⟨fun μ x1 x2 x3 x4 => V g X 9 μ [(0, Rv 11), (1, Iv x1), (2, Iv x2), (3, Iv x3), (4, Iv x4)] 22 [], fun _ _ _ _ _ h => h, fun _ _ _ _ _ h => h⟩
  obtain ⟨G67, g67, f67⟩ : ∃ G : Mem → Int → Int → Int → Prop, (∀ μ x1 x2 x3, G μ x1 x2 x3 → V g X 9 μ [(0, Rv 11), (1, Iv x1), (2, Iv x2), (3, Iv x3)] 67 []) ∧ (∀ μ x1 x2 x3, V g X 9 μ [(0, Rv 11), (1, Iv x1), (2, Iv x2), (3, Iv x3)] 67 [] → G μ x1 x2 x3) := ⟨fun μ x1 x2 x3 => V g X 9 μ [(0, Rv 11), (1, Iv x1), (2, Iv x2), (3, Iv x3)] 67 [], fun _ _ _ _ h => h, fun _ _ _ _ h => h⟩
  obtain ⟨G75, g75, f75⟩ : ∃ G : Mem → Int → Int → Int → Int → Prop, (∀ μ x1 x2 x3 x4, G μ x1 x2 x3 x4 → V g X 9 μ [(0, Rv 11), (1, Iv x1), (2, Iv x2), (3, Iv x3), (4, Iv x4)] 75 []) ∧ (∀ μ x1 x2 x3 x4, V g X 9 μ [(0, Rv 11), (1, Iv x1), (2, Iv x2), (3, Iv x3), (4, Iv x4)] 75 [] → G μ x1 x2 x3 x4) := ⟨fun μ x1 x2 x3 x4 => V g X 9 μ [(0, Rv 11), (1, Iv x1), (2, Iv x2), (3, Iv x3), (4, Iv x4)] 75 [], fun _ _ _ _ _ h => h, fun _ _ _ _ _ h => h⟩
  have K52 : ∀ (μ : Mem) (x1 : Int) (x2 : Int) (x3 : Int) (x4 : Int) (s1 : Int) (s2 : Int), b_X11_walk_52 G14 G22 G67 G75 Post μ x1 x2 x3 x4 s1 s2 → V g X 9 μ [(0, Rv 11), (1, Iv x1), (2, Iv x2), (3, Iv x3), (4, Iv x4)] 52 [Iv s2, Iv s1, Rv 109] := by
    intro μ x1 x2 x3 x4 s1 s2 hb
    unfold b_X11_walk_52 at hb
    have hg_1 := hb.1
    have hb := hb.2
    refine r_iast (pc := 52) F lc109.1 lc109.2.1 lc109.2.2 hg_1 dX11_walk_52 ?_
    refine V.nmM (fun μ_2 eμ_2 => ?_)
    have hb := hb μ_2 eμ_2
    refine r_iincN (pc := 53) 4 (lf := fun x_3 => [(4, Iv x_3), (0, Rv 11), (1, Iv x1), (2, Iv x2), (3, Iv x3)]) F dX11_walk_53 rfl (by decide) rfl (fun x_3 ex_3 => ?_)
    have hb := hb x_3 ex_3
    refine r_goto (pc := 56) (tgt := 22) F dX11_walk_56 (by decide) ?_
    exact V.sub [1, 2, 3, 4, 0] rfl (g22 μ_2 x1 x2 x3 x_3 hb)
  have K311 : ∀ (μ : Mem) (x1 : Int) (x2 : Int) (x3 : Int) (x4 : Int), b_X11_walk_311 G14 G22 G67 G75 Post μ x1 x2 x3 x4 → V g X 9 μ [(0, Rv 11), (1, Iv x1), (2, Iv x2), (3, Iv x3), (4, Iv x4)] 311 [] := by
    intro μ x1 x2 x3 x4 hb
    unfold b_X11_walk_311 at hb
    refine r_iincN (pc := 311) 4 (lf := fun x_4 => [(4, Iv x_4), (0, Rv 11), (1, Iv x1), (2, Iv x2), (3, Iv x3)]) F dX11_walk_311 rfl (by decide) rfl (fun x_4 ex_4 => ?_)
    have hb := hb x_4 ex_4
    refine r_goto (pc := 314) (tgt := 75) F dX11_walk_314 (by decide) ?_
    exact V.sub [1, 2, 3, 4, 0] rfl (g75 μ x1 x2 x3 x_4 hb)
  have K269 : ∀ (μ : Mem) (x1 : Int) (x2 : Int) (x3 : Int) (x4 : Int) (x5 : Int) (x8 : Int), b_X11_walk_269 G14 G22 G67 G75 Post μ x1 x2 x3 x4 x5 x8 → V g X 9 μ [(0, Rv 11), (1, Iv x1), (2, Iv x2), (3, Iv x3), (4, Iv x4), (5, Iv x5), (8, Iv x8)] 269 [] := by
    intro μ x1 x2 x3 x4 x5 x8 hb
    unfold b_X11_walk_269 at hb
    refine r_iload (pc := 269) 6 F dX11_walk_269 rfl ?_
    refine r_if_eq (pc := 271) (tgt := 311) F dX11_walk_271 (by decide) (fun c_5 => ?_) (fun c_5 => ?_)
    · have hb := hb.1 c_5
      exact V.sub [0, 1, 2, 3, 4] rfl (K311 μ x1 x2 x3 x4 hb)
    · have hb := hb.2 c_5
      refine r_iload (pc := 274) 5 F dX11_walk_274 rfl ?_
      refine r_aload_n (pc := 276) 0 F dX11_walk_276 rfl rfl ?_
      refine gf_RX11_74 (pc := 277) F dX11_walk_277 ?_
      refine r_bipush (pc := 280) F dX11_walk_280 (inR_lit rfl) (by decide) ?_
      refine r_iload_n (pc := 282) 3 F dX11_walk_282 rfl rfl ?_
      refine r_imul (pc := 283) F dX11_walk_283 ?_
      refine r_bipush (pc := 284) F dX11_walk_284 (inR_lit rfl) (by decide) ?_
      refine r_iadd (pc := 286) F dX11_walk_286 ?_
      refine r_iload (pc := 287) 4 F dX11_walk_287 rfl ?_
      refine r_iadd (pc := 289) F dX11_walk_289 ?_
      have hg_6 := hb.1
      have hb := hb.2
      refine r_iald (pc := 290) F lc109.1 lc109.2.1 lc109.2.2 hg_6 dX11_walk_290 ?_
      refine r_icmp_ge (pc := 291) (tgt := 311) F dX11_walk_291 (by decide) (fun c_7 => ?_) (fun c_7 => ?_)
      · have hb := hb.1 c_7
        exact V.sub [0, 1, 2, 3, 4] rfl (K311 μ x1 x2 x3 x4 hb)
      · have hb := hb.2 c_7
        refine r_aload_n (pc := 294) 0 F dX11_walk_294 rfl rfl ?_
        refine gf_RX11_74 (pc := 295) F dX11_walk_295 ?_
        refine r_bipush (pc := 298) F dX11_walk_298 (inR_lit rfl) (by decide) ?_
        refine r_iload_n (pc := 300) 3 F dX11_walk_300 rfl rfl ?_
        refine r_imul (pc := 301) F dX11_walk_301 ?_
        refine r_bipush (pc := 302) F dX11_walk_302 (inR_lit rfl) (by decide) ?_
        refine r_iadd (pc := 304) F dX11_walk_304 ?_
        refine r_iload (pc := 305) 4 F dX11_walk_305 rfl ?_
        refine r_iadd (pc := 307) F dX11_walk_307 ?_
        refine r_iload (pc := 308) 5 F dX11_walk_308 rfl ?_
        have hg_8 := hb.1
        have hb := hb.2
        refine r_iast (pc := 310) F lc109.1 lc109.2.1 lc109.2.2 hg_8 dX11_walk_310 ?_
        refine V.nmM (fun μ_9 eμ_9 => ?_)
        have hb := hb μ_9 eμ_9
        exact V.sub [0, 1, 2, 3, 4] rfl (K311 μ_9 x1 x2 x3 x4 hb)
  have K229 : ∀ (μ : Mem) (x1 : Int) (x2 : Int) (x3 : Int) (x4 : Int) (x5 : Int) (x7 : Int) (x8 : Int), b_X11_walk_229 G14 G22 G67 G75 Post μ x1 x2 x3 x4 x5 x7 x8 → V g X 9 μ [(0, Rv 11), (1, Iv x1), (2, Iv x2), (3, Iv x3), (4, Iv x4), (5, Iv x5), (7, Iv x7), (8, Iv x8)] 229 [] := by
    intro μ x1 x2 x3 x4 x5 x7 x8 hb
    unfold b_X11_walk_229 at hb
    refine r_iload (pc := 229) 6 F dX11_walk_229 rfl ?_
    refine r_if_eq (pc := 231) (tgt := 269) F dX11_walk_231 (by decide) (fun c_10 => ?_) (fun c_10 => ?_)
    · have hb := hb.1 c_10
      exact V.sub [0, 1, 2, 3, 4, 5, 7] rfl (K269 μ x1 x2 x3 x4 x5 x8 hb)
    · have hb := hb.2 c_10
      refine r_iload (pc := 234) 5 F dX11_walk_234 rfl ?_
      refine r_aload_n (pc := 236) 0 F dX11_walk_236 rfl rfl ?_
      refine gf_RX11_74 (pc := 237) F dX11_walk_237 ?_
      refine r_bipush (pc := 240) F dX11_walk_240 (inR_lit rfl) (by decide) ?_
      refine r_iload_n (pc := 242) 3 F dX11_walk_242 rfl rfl ?_
      refine r_imul (pc := 243) F dX11_walk_243 ?_
      refine r_iload (pc := 244) 4 F dX11_walk_244 rfl ?_
      refine r_iadd (pc := 246) F dX11_walk_246 ?_
      refine r_iconst (pc := 247) F dX11_walk_247 (inR_lit rfl) ?_
      refine r_iadd (pc := 248) F dX11_walk_248 ?_
      have hg_11 := hb.1
      have hb := hb.2
      refine r_iald (pc := 249) F lc109.1 lc109.2.1 lc109.2.2 hg_11 dX11_walk_249 ?_
      refine r_icmp_ge (pc := 250) (tgt := 269) F dX11_walk_250 (by decide) (fun c_12 => ?_) (fun c_12 => ?_)
      · have hb := hb.1 c_12
        exact V.sub [0, 1, 2, 3, 4, 5, 7] rfl (K269 μ x1 x2 x3 x4 x5 x8 hb)
      · have hb := hb.2 c_12
        refine r_aload_n (pc := 253) 0 F dX11_walk_253 rfl rfl ?_
        refine gf_RX11_74 (pc := 254) F dX11_walk_254 ?_
        refine r_bipush (pc := 257) F dX11_walk_257 (inR_lit rfl) (by decide) ?_
        refine r_iload_n (pc := 259) 3 F dX11_walk_259 rfl rfl ?_
        refine r_imul (pc := 260) F dX11_walk_260 ?_
        refine r_iload (pc := 261) 4 F dX11_walk_261 rfl ?_
        refine r_iadd (pc := 263) F dX11_walk_263 ?_
        refine r_iconst (pc := 264) F dX11_walk_264 (inR_lit rfl) ?_
        refine r_iadd (pc := 265) F dX11_walk_265 ?_
        refine r_iload (pc := 266) 5 F dX11_walk_266 rfl ?_
        have hg_13 := hb.1
        have hb := hb.2
        refine r_iast (pc := 268) F lc109.1 lc109.2.1 lc109.2.2 hg_13 dX11_walk_268 ?_
        refine V.nmM (fun μ_14 eμ_14 => ?_)
        have hb := hb μ_14 eμ_14
        exact V.sub [0, 1, 2, 3, 4, 5, 7] rfl (K269 μ_14 x1 x2 x3 x4 x5 x8 hb)
  have K185 : ∀ (μ : Mem) (x1 : Int) (x2 : Int) (x3 : Int) (x4 : Int) (x5 : Int) (x6 : Int) (x7 : Int) (s0 : Int), b_X11_walk_185 G14 G22 G67 G75 Post μ x1 x2 x3 x4 x5 x6 x7 s0 → V g X 9 μ [(0, Rv 11), (1, Iv x1), (2, Iv x2), (3, Iv x3), (4, Iv x4), (5, Iv x5), (6, Iv x6), (7, Iv x7)] 185 [Iv s0] := by
    intro μ x1 x2 x3 x4 x5 x6 x7 s0 hb
    unfold b_X11_walk_185 at hb
    refine r_istore (pc := 185) (lv' := [(8, Iv s0), (0, Rv 11), (1, Iv x1), (2, Iv x2), (3, Iv x3), (4, Iv x4), (5, Iv x5), (6, Iv x6), (7, Iv x7)]) F dX11_walk_185 (by decide) rfl ?_
    refine r_iload (pc := 187) 7 F dX11_walk_187 rfl ?_
    refine r_if_eq (pc := 189) (tgt := 229) F dX11_walk_189 (by decide) (fun c_15 => ?_) (fun c_15 => ?_)
    · have hb := hb.1 c_15
      exact V.sub [1, 2, 3, 4, 5, 6, 8, 0] rfl (K229 μ x1 x2 x3 x4 x5 x7 s0 hb)
    · have hb := hb.2 c_15
      refine r_iload (pc := 192) 6 F dX11_walk_192 rfl ?_
      refine r_aload_n (pc := 194) 1 F dX11_walk_194 rfl rfl ?_
      refine gf_RX11_74 (pc := 195) F dX11_walk_195 ?_
      refine r_bipush (pc := 198) F dX11_walk_198 (inR_lit rfl) (by decide) ?_
      refine r_iload_n (pc := 200) 4 F dX11_walk_200 rfl rfl ?_
      refine r_imul (pc := 201) F dX11_walk_201 ?_
      refine r_bipush (pc := 202) F dX11_walk_202 (inR_lit rfl) (by decide) ?_
      refine r_iadd (pc := 204) F dX11_walk_204 ?_
      refine r_iload (pc := 205) 5 F dX11_walk_205 rfl ?_
      refine r_iadd (pc := 207) F dX11_walk_207 ?_
      have hg_16 := hb.1
      have hb := hb.2
      refine r_iald (pc := 208) F lc109.1 lc109.2.1 lc109.2.2 hg_16 dX11_walk_208 ?_
      refine r_icmp_ge (pc := 209) (tgt := 229) F dX11_walk_209 (by decide) (fun c_17 => ?_) (fun c_17 => ?_)
      · have hb := hb.1 c_17
        exact V.sub [1, 2, 3, 4, 5, 6, 8, 0] rfl (K229 μ x1 x2 x3 x4 x5 x7 s0 hb)
      · have hb := hb.2 c_17
        refine r_aload_n (pc := 212) 1 F dX11_walk_212 rfl rfl ?_
        refine gf_RX11_74 (pc := 213) F dX11_walk_213 ?_
        refine r_bipush (pc := 216) F dX11_walk_216 (inR_lit rfl) (by decide) ?_
        refine r_iload_n (pc := 218) 4 F dX11_walk_218 rfl rfl ?_
        refine r_imul (pc := 219) F dX11_walk_219 ?_
        refine r_bipush (pc := 220) F dX11_walk_220 (inR_lit rfl) (by decide) ?_
        refine r_iadd (pc := 222) F dX11_walk_222 ?_
        refine r_iload (pc := 223) 5 F dX11_walk_223 rfl ?_
        refine r_iadd (pc := 225) F dX11_walk_225 ?_
        refine r_iload (pc := 226) 6 F dX11_walk_226 rfl ?_
        have hg_18 := hb.1
        have hb := hb.2
        refine r_iast (pc := 228) F lc109.1 lc109.2.1 lc109.2.2 hg_18 dX11_walk_228 ?_
        refine V.nmM (fun μ_19 eμ_19 => ?_)
        have hb := hb μ_19 eμ_19
        exact V.sub [1, 2, 3, 4, 5, 6, 8, 0] rfl (K229 μ_19 x1 x2 x3 x4 x5 x7 s0 hb)
  have K184 : ∀ (μ : Mem) (x1 : Int) (x2 : Int) (x3 : Int) (x4 : Int) (x5 : Int) (x6 : Int) (x7 : Int), b_X11_walk_184 G14 G22 G67 G75 Post μ x1 x2 x3 x4 x5 x6 x7 → V g X 9 μ [(0, Rv 11), (1, Iv x1), (2, Iv x2), (3, Iv x3), (4, Iv x4), (5, Iv x5), (6, Iv x6), (7, Iv x7)] 184 [] := by
    intro μ x1 x2 x3 x4 x5 x6 x7 hb
    unfold b_X11_walk_184 at hb
    refine r_iconst (pc := 184) F dX11_walk_184 (inR_lit rfl) ?_
    exact V.sub [0, 1, 2, 3, 4, 5, 6, 7] rfl (K185 μ x1 x2 x3 x4 x5 x6 x7 0 hb)
  have K152 : ∀ (μ : Mem) (x1 : Int) (x2 : Int) (x3 : Int) (x4 : Int) (x5 : Int) (x6 : Int) (s0 : Int), b_X11_walk_152 G14 G22 G67 G75 Post μ x1 x2 x3 x4 x5 x6 s0 → V g X 9 μ [(0, Rv 11), (1, Iv x1), (2, Iv x2), (3, Iv x3), (4, Iv x4), (5, Iv x5), (6, Iv x6)] 152 [Iv s0] := by
    intro μ x1 x2 x3 x4 x5 x6 s0 hb
    unfold b_X11_walk_152 at hb
    refine r_istore (pc := 152) (lv' := [(7, Iv s0), (0, Rv 11), (1, Iv x1), (2, Iv x2), (3, Iv x3), (4, Iv x4), (5, Iv x5), (6, Iv x6)]) F dX11_walk_152 (by decide) rfl ?_
    refine r_iload (pc := 154) 7 F dX11_walk_154 rfl ?_
    refine r_if_eq (pc := 156) (tgt := 184) F dX11_walk_156 (by decide) (fun c_20 => ?_) (fun c_20 => ?_)
    · have hb := hb.1 c_20
      exact V.sub [1, 2, 3, 4, 5, 6, 7, 0] rfl (K184 μ x1 x2 x3 x4 x5 x6 s0 hb)
    · have hb := hb.2 c_20
      refine r_iload (pc := 159) 0 F dX11_walk_159 rfl ?_
      refine r_if_eq (pc := 161) (tgt := 184) F dX11_walk_161 (by decide) (fun c_21 => ?_) (fun c_21 => ?_)
      · have hb := hb.1 c_21
        exact V.sub [1, 2, 3, 4, 5, 6, 7, 0] rfl (K184 μ x1 x2 x3 x4 x5 x6 s0 hb)
      · have hb := hb.2 c_21
        refine r_aload_n (pc := 164) 1 F dX11_walk_164 rfl rfl ?_
        refine r_iconst (pc := 165) F dX11_walk_165 (inR_lit rfl) ?_
        refine r_iload_n (pc := 166) 4 F dX11_walk_166 rfl rfl ?_
        refine r_callI (pc := 167) (avs := [Iv 0, Iv x3]) (st := []) F (c_X11_benchAt μ 0 x3 _ hb) (by decide) cal_X11_benchAt calv_X11_benchAt lk_RX11_172 rfl rfl (Nat.le_of_ble_eq_true rfl) dX11_walk_167 (fun r_22 μ_23 hb => ?_)
        refine r_aload_n (pc := 170) 1 F dX11_walk_170 rfl rfl ?_
        refine r_iconst (pc := 171) F dX11_walk_171 (inR_lit rfl) ?_
        refine r_iload (pc := 172) 5 F dX11_walk_172 rfl ?_
        refine r_callI (pc := 174) (avs := [Iv 1, Iv x4]) (st := [Iv r_22]) F (c_X11_benchAt μ_23 1 x4 _ hb) (by decide) cal_X11_benchAt calv_X11_benchAt lk_RX11_172 rfl rfl (Nat.le_of_ble_eq_true rfl) dX11_walk_174 (fun r_24 μ_25 hb => ?_)
        refine r_icmp_eq (pc := 177) (tgt := 184) F dX11_walk_177 (by decide) (fun c_26 => ?_) (fun c_26 => ?_)
        · have hb := hb.1 c_26
          exact V.sub [1, 2, 3, 4, 5, 6, 7, 0] rfl (K184 μ_25 x1 x2 x3 x4 x5 x6 s0 hb)
        · have hb := hb.2 c_26
          refine r_iconst (pc := 180) F dX11_walk_180 (inR_lit rfl) ?_
          refine r_goto (pc := 181) (tgt := 185) F dX11_walk_181 (by decide) ?_
          exact V.sub [1, 2, 3, 4, 5, 6, 7, 0] rfl (K185 μ_25 x1 x2 x3 x4 x5 x6 s0 1 hb)
  have K151 : ∀ (μ : Mem) (x1 : Int) (x2 : Int) (x3 : Int) (x4 : Int) (x5 : Int) (x6 : Int), b_X11_walk_151 G14 G22 G67 G75 Post μ x1 x2 x3 x4 x5 x6 → V g X 9 μ [(0, Rv 11), (1, Iv x1), (2, Iv x2), (3, Iv x3), (4, Iv x4), (5, Iv x5), (6, Iv x6)] 151 [] := by
    intro μ x1 x2 x3 x4 x5 x6 hb
    unfold b_X11_walk_151 at hb
    refine r_iconst (pc := 151) F dX11_walk_151 (inR_lit rfl) ?_
    exact V.sub [0, 1, 2, 3, 4, 5, 6] rfl (K152 μ x1 x2 x3 x4 x5 x6 0 hb)
  have K123 : ∀ (μ : Mem) (x1 : Int) (x2 : Int) (x3 : Int) (x4 : Int) (x5 : Int) (s0 : Int), b_X11_walk_123 G14 G22 G67 G75 Post μ x1 x2 x3 x4 x5 s0 → V g X 9 μ [(0, Rv 11), (1, Iv x1), (2, Iv x2), (3, Iv x3), (4, Iv x4), (5, Iv x5)] 123 [Iv s0] := by
    intro μ x1 x2 x3 x4 x5 s0 hb
    unfold b_X11_walk_123 at hb
    refine r_istore (pc := 123) (lv' := [(6, Iv s0), (0, Rv 11), (1, Iv x1), (2, Iv x2), (3, Iv x3), (4, Iv x4), (5, Iv x5)]) F dX11_walk_123 (by decide) rfl ?_
    refine r_iload (pc := 125) 5 F dX11_walk_125 rfl ?_
    refine r_iload_n (pc := 127) 3 F dX11_walk_127 rfl rfl ?_
    refine r_icmp_ge (pc := 128) (tgt := 151) F dX11_walk_128 (by decide) (fun c_27 => ?_) (fun c_27 => ?_)
    · have hb := hb.1 c_27
      exact V.sub [1, 2, 3, 4, 5, 6, 0] rfl (K151 μ x1 x2 x3 x4 x5 s0 hb)
    · have hb := hb.2 c_27
      refine r_aload_n (pc := 131) 1 F dX11_walk_131 rfl rfl ?_
      refine r_iconst (pc := 132) F dX11_walk_132 (inR_lit rfl) ?_
      refine r_iload (pc := 133) 5 F dX11_walk_133 rfl ?_
      refine r_callI (pc := 135) (avs := [Iv 1, Iv x4]) (st := []) F (c_X11_benchAt μ 1 x4 _ hb) (by decide) cal_X11_benchAt calv_X11_benchAt lk_RX11_172 rfl rfl (Nat.le_of_ble_eq_true rfl) dX11_walk_135 (fun r_28 μ_29 hb => ?_)
      refine r_aload_n (pc := 138) 1 F dX11_walk_138 rfl rfl ?_
      refine r_iconst (pc := 139) F dX11_walk_139 (inR_lit rfl) ?_
      refine r_iload_n (pc := 140) 4 F dX11_walk_140 rfl rfl ?_
      refine r_callI (pc := 141) (avs := [Iv 0, Iv x3]) (st := [Iv r_28]) F (c_X11_heldAt μ_29 0 x3 _ hb) (by decide) cal_X11_heldAt calv_X11_heldAt lk_RX11_176 rfl rfl (Nat.le_of_ble_eq_true rfl) dX11_walk_141 (fun r_30 μ_31 hb => ?_)
      refine r_icmp_eq (pc := 144) (tgt := 151) F dX11_walk_144 (by decide) (fun c_32 => ?_) (fun c_32 => ?_)
      · have hb := hb.1 c_32
        exact V.sub [1, 2, 3, 4, 5, 6, 0] rfl (K151 μ_31 x1 x2 x3 x4 x5 s0 hb)
      · have hb := hb.2 c_32
        refine r_iconst (pc := 147) F dX11_walk_147 (inR_lit rfl) ?_
        refine r_goto (pc := 148) (tgt := 152) F dX11_walk_148 (by decide) ?_
        exact V.sub [1, 2, 3, 4, 5, 6, 0] rfl (K152 μ_31 x1 x2 x3 x4 x5 s0 1 hb)
  have K122 : ∀ (μ : Mem) (x1 : Int) (x2 : Int) (x3 : Int) (x4 : Int) (x5 : Int), b_X11_walk_122 G14 G22 G67 G75 Post μ x1 x2 x3 x4 x5 → V g X 9 μ [(0, Rv 11), (1, Iv x1), (2, Iv x2), (3, Iv x3), (4, Iv x4), (5, Iv x5)] 122 [] := by
    intro μ x1 x2 x3 x4 x5 hb
    unfold b_X11_walk_122 at hb
    refine r_iconst (pc := 122) F dX11_walk_122 (inR_lit rfl) ?_
    exact V.sub [0, 1, 2, 3, 4, 5] rfl (K123 μ x1 x2 x3 x4 x5 0 hb)
  have K14 : ∀ (μ : Mem) (x1 : Int) (x2 : Int) (x3 : Int), b_X11_walk_14 G14 G22 G67 G75 Post μ x1 x2 x3 → V g X 9 μ [(0, Rv 11), (1, Iv x1), (2, Iv x2), (3, Iv x3)] 14 [] := by
    intro μ x1 x2 x3 hb
    unfold b_X11_walk_14 at hb
    refine r_iload_n (pc := 14) 3 F dX11_walk_14 rfl rfl ?_
    refine r_iload_n (pc := 15) 1 F dX11_walk_15 rfl rfl ?_
    refine r_icmp_gt (pc := 16) (tgt := 65) F dX11_walk_16 (by decide) (fun c_33 => ?_) (fun c_33 => ?_)
    · have hb := hb.1 c_33
      refine r_iconst (pc := 65) F dX11_walk_65 (inR_lit rfl) ?_
      refine r_istore_n (pc := 66) (lv' := [(3, Iv 0), (0, Rv 11), (1, Iv x1), (2, Iv x2)]) F dX11_walk_66 rfl (by decide) rfl ?_
      exact V.sub [1, 2, 3, 0] rfl (g67 μ x1 x2 0 hb)
    · have hb := hb.2 c_33
      refine r_iconst (pc := 19) F dX11_walk_19 (inR_lit rfl) ?_
      refine r_istore (pc := 20) (lv' := [(4, Iv 0), (0, Rv 11), (1, Iv x1), (2, Iv x2), (3, Iv x3)]) F dX11_walk_20 (by decide) rfl ?_
      exact V.sub [1, 2, 3, 4, 0] rfl (g22 μ x1 x2 x3 0 hb)
  have K22 : ∀ (μ : Mem) (x1 : Int) (x2 : Int) (x3 : Int) (x4 : Int), b_X11_walk_22 G14 G22 G67 G75 Post μ x1 x2 x3 x4 → V g X 9 μ [(0, Rv 11), (1, Iv x1), (2, Iv x2), (3, Iv x3), (4, Iv x4)] 22 [] := by
    intro μ x1 x2 x3 x4 hb
    unfold b_X11_walk_22 at hb
    refine r_iload (pc := 22) 4 F dX11_walk_22 rfl ?_
    refine r_iload_n (pc := 24) 2 F dX11_walk_24 rfl rfl ?_
    refine r_icmp_gt (pc := 25) (tgt := 59) F dX11_walk_25 (by decide) (fun c_34 => ?_) (fun c_34 => ?_)
    · have hb := hb.1 c_34
      refine r_iincN (pc := 59) 3 (lf := fun x_35 => [(3, Iv x_35), (0, Rv 11), (1, Iv x1), (2, Iv x2), (4, Iv x4)]) F dX11_walk_59 rfl (by decide) rfl (fun x_35 ex_35 => ?_)
      have hb := hb x_35 ex_35
      refine r_goto (pc := 62) (tgt := 14) F dX11_walk_62 (by decide) ?_
      exact V.sub [1, 2, 3, 0] rfl (g14 μ x1 x2 x_35 hb)
    · have hb := hb.2 c_34
      refine r_aload_n (pc := 28) 0 F dX11_walk_28 rfl rfl ?_
      refine gf_RX11_74 (pc := 29) F dX11_walk_29 ?_
      refine r_bipush (pc := 32) F dX11_walk_32 (inR_lit rfl) (by decide) ?_
      refine r_iload_n (pc := 34) 3 F dX11_walk_34 rfl rfl ?_
      refine r_imul (pc := 35) F dX11_walk_35 ?_
      refine r_iload (pc := 36) 4 F dX11_walk_36 rfl ?_
      refine r_iadd (pc := 38) F dX11_walk_38 ?_
      refine r_iload_n (pc := 39) 3 F dX11_walk_39 rfl rfl ?_
      refine r_iload (pc := 40) 4 F dX11_walk_40 rfl ?_
      refine r_iadd (pc := 42) F dX11_walk_42 ?_
      refine r_if_ne (pc := 43) (tgt := 50) F dX11_walk_43 (by decide) (fun c_36 => ?_) (fun c_36 => ?_)
      · have hb := hb.1 c_36
        refine r_ldc (pc := 50) F kc_RX11_171 (x := 100000) (by decide) (inR_lit rfl) dX11_walk_50 ?_
        exact V.sub [0, 1, 2, 3, 4] rfl (K52 μ x1 x2 x3 x4 (wrap ((wrap (121 * x3)) + x4)) 100000 hb)
      · have hb := hb.2 c_36
        refine r_iconst (pc := 46) F dX11_walk_46 (inR_lit rfl) ?_
        refine r_goto (pc := 47) (tgt := 52) F dX11_walk_47 (by decide) ?_
        exact V.sub [0, 1, 2, 3, 4] rfl (K52 μ x1 x2 x3 x4 (wrap ((wrap (121 * x3)) + x4)) 0 hb)
  have K67 : ∀ (μ : Mem) (x1 : Int) (x2 : Int) (x3 : Int), b_X11_walk_67 G14 G22 G67 G75 Post μ x1 x2 x3 → V g X 9 μ [(0, Rv 11), (1, Iv x1), (2, Iv x2), (3, Iv x3)] 67 [] := by
    intro μ x1 x2 x3 hb
    unfold b_X11_walk_67 at hb
    refine r_iload_n (pc := 67) 3 F dX11_walk_67 rfl rfl ?_
    refine r_iload_n (pc := 68) 1 F dX11_walk_68 rfl rfl ?_
    refine r_icmp_gt (pc := 69) (tgt := 323) F dX11_walk_69 (by decide) (fun c_37 => ?_) (fun c_37 => ?_)
    · have hb := hb.1 c_37
      refine r_aload_n (pc := 323) 0 F dX11_walk_323 rfl rfl ?_
      refine gf_RX11_74 (pc := 324) F dX11_walk_324 ?_
      refine r_bipush (pc := 327) F dX11_walk_327 (inR_lit rfl) (by decide) ?_
      refine r_iload_n (pc := 329) 1 F dX11_walk_329 rfl rfl ?_
      refine r_imul (pc := 330) F dX11_walk_330 ?_
      refine r_iload_n (pc := 331) 2 F dX11_walk_331 rfl rfl ?_
      refine r_iadd (pc := 332) F dX11_walk_332 ?_
      have hg_38 := hb.1
      have hb := hb.2
      refine r_iald (pc := 333) F lc109.1 lc109.2.1 lc109.2.2 hg_38 dX11_walk_333 ?_
      exact r_iret (pc := 334) F hR hr dX11_walk_334 hb
    · have hb := hb.2 c_37
      refine r_iconst (pc := 72) F dX11_walk_72 (inR_lit rfl) ?_
      refine r_istore (pc := 73) (lv' := [(4, Iv 0), (0, Rv 11), (1, Iv x1), (2, Iv x2), (3, Iv x3)]) F dX11_walk_73 (by decide) rfl ?_
      exact V.sub [1, 2, 3, 4, 0] rfl (g75 μ x1 x2 x3 0 hb)
  have K75 : ∀ (μ : Mem) (x1 : Int) (x2 : Int) (x3 : Int) (x4 : Int), b_X11_walk_75 G14 G22 G67 G75 Post μ x1 x2 x3 x4 → V g X 9 μ [(0, Rv 11), (1, Iv x1), (2, Iv x2), (3, Iv x3), (4, Iv x4)] 75 [] := by
    intro μ x1 x2 x3 x4 hb
    unfold b_X11_walk_75 at hb
    refine r_iload (pc := 75) 4 F dX11_walk_75 rfl ?_
    refine r_iload_n (pc := 77) 2 F dX11_walk_77 rfl rfl ?_
    refine r_icmp_gt (pc := 78) (tgt := 317) F dX11_walk_78 (by decide) (fun c_39 => ?_) (fun c_39 => ?_)
    · have hb := hb.1 c_39
      refine r_iincN (pc := 317) 3 (lf := fun x_40 => [(3, Iv x_40), (0, Rv 11), (1, Iv x1), (2, Iv x2), (4, Iv x4)]) F dX11_walk_317 rfl (by decide) rfl (fun x_40 ex_40 => ?_)
      have hb := hb x_40 ex_40
      refine r_goto (pc := 320) (tgt := 67) F dX11_walk_320 (by decide) ?_
      exact V.sub [1, 2, 3, 0] rfl (g67 μ x1 x2 x_40 hb)
    · have hb := hb.2 c_39
      refine r_aload_n (pc := 81) 0 F dX11_walk_81 rfl rfl ?_
      refine gf_RX11_74 (pc := 82) F dX11_walk_82 ?_
      refine r_bipush (pc := 85) F dX11_walk_85 (inR_lit rfl) (by decide) ?_
      refine r_iload_n (pc := 87) 3 F dX11_walk_87 rfl rfl ?_
      refine r_imul (pc := 88) F dX11_walk_88 ?_
      refine r_iload (pc := 89) 4 F dX11_walk_89 rfl ?_
      refine r_iadd (pc := 91) F dX11_walk_91 ?_
      have hg_41 := hb.1
      have hb := hb.2
      refine r_iald (pc := 92) F lc109.1 lc109.2.1 lc109.2.2 hg_41 dX11_walk_92 ?_
      refine r_iconst (pc := 93) F dX11_walk_93 (inR_lit rfl) ?_
      refine r_iadd (pc := 94) F dX11_walk_94 ?_
      refine V.nmI (fun x_42 ex_42 => ?_)
      have hb := hb x_42 ex_42
      refine r_istore (pc := 95) (lv' := [(5, Iv x_42), (0, Rv 11), (1, Iv x1), (2, Iv x2), (3, Iv x3), (4, Iv x4)]) F dX11_walk_95 (by decide) rfl ?_
      refine r_iload_n (pc := 97) 4 F dX11_walk_97 rfl rfl ?_
      refine r_iload_n (pc := 98) 2 F dX11_walk_98 rfl rfl ?_
      refine r_icmp_ge (pc := 99) (tgt := 122) F dX11_walk_99 (by decide) (fun c_43 => ?_) (fun c_43 => ?_)
      · have hb := hb.1 c_43
        exact V.sub [1, 2, 3, 4, 5, 0] rfl (K122 μ x1 x2 x3 x4 x_42 hb)
      · have hb := hb.2 c_43
        refine r_aload_n (pc := 102) 1 F dX11_walk_102 rfl rfl ?_
        refine r_iconst (pc := 103) F dX11_walk_103 (inR_lit rfl) ?_
        refine r_iload_n (pc := 104) 4 F dX11_walk_104 rfl rfl ?_
        refine r_callI (pc := 105) (avs := [Iv 0, Iv x3]) (st := []) F (c_X11_benchAt μ 0 x3 _ hb) (by decide) cal_X11_benchAt calv_X11_benchAt lk_RX11_172 rfl rfl (Nat.le_of_ble_eq_true rfl) dX11_walk_105 (fun r_44 μ_45 hb => ?_)
        refine r_aload_n (pc := 108) 1 F dX11_walk_108 rfl rfl ?_
        refine r_iconst (pc := 109) F dX11_walk_109 (inR_lit rfl) ?_
        refine r_iload (pc := 110) 5 F dX11_walk_110 rfl ?_
        refine r_callI (pc := 112) (avs := [Iv 1, Iv x4]) (st := [Iv r_44]) F (c_X11_heldAt μ_45 1 x4 _ hb) (by decide) cal_X11_heldAt calv_X11_heldAt lk_RX11_176 rfl rfl (Nat.le_of_ble_eq_true rfl) dX11_walk_112 (fun r_46 μ_47 hb => ?_)
        refine r_icmp_eq (pc := 115) (tgt := 122) F dX11_walk_115 (by decide) (fun c_48 => ?_) (fun c_48 => ?_)
        · have hb := hb.1 c_48
          exact V.sub [1, 2, 3, 4, 5, 0] rfl (K122 μ_47 x1 x2 x3 x4 x_42 hb)
        · have hb := hb.2 c_48
          refine r_iconst (pc := 118) F dX11_walk_118 (inR_lit rfl) ?_
          refine r_goto (pc := 119) (tgt := 123) F dX11_walk_119 (by decide) ?_
          exact V.sub [1, 2, 3, 4, 5, 0] rfl (K123 μ_47 x1 x2 x3 x4 x_42 1 hb)
  have hb := hb G14 G22 G67 G75 (fun μ x1 x2 x3 hb => f14 μ x1 x2 x3 (K14 μ x1 x2 x3 hb)) (fun μ x1 x2 x3 x4 hb => f22 μ x1 x2 x3 x4 (K22 μ x1 x2 x3 x4 hb)) (fun μ x1 x2 x3 hb => f67 μ x1 x2 x3 (K67 μ x1 x2 x3 hb)) (fun μ x1 x2 x3 x4 hb => f75 μ x1 x2 x3 x4 (K75 μ x1 x2 x3 x4 hb))
  unfold b_X11_walk_e at hb
  refine r_aload_n (pc := 0) 0 F dX11_walk_0 rfl rfl ?_
  refine r_iconst (pc := 1) F dX11_walk_1 (inR_lit rfl) ?_
  refine r_callI (pc := 2) (avs := [Iv 0]) (st := []) F (c_X11_allMinutes μ 0 _ hb) (by decide) cal_X11_allMinutes calv_X11_allMinutes lk_RX11_168 rfl rfl (Nat.le_of_ble_eq_true rfl) dX11_walk_2 (fun r_49 μ_50 hb => ?_)
  refine r_istore_n (pc := 5) (lv' := [(1, Iv r_49), (0, Rv 11)]) F dX11_walk_5 rfl (by decide) rfl ?_
  refine r_aload_n (pc := 6) 1 F dX11_walk_6 rfl rfl ?_
  refine r_iconst (pc := 7) F dX11_walk_7 (inR_lit rfl) ?_
  refine r_callI (pc := 8) (avs := [Iv 1]) (st := []) F (c_X11_allMinutes μ_50 1 _ hb) (by decide) cal_X11_allMinutes calv_X11_allMinutes lk_RX11_168 rfl rfl (Nat.le_of_ble_eq_true rfl) dX11_walk_8 (fun r_51 μ_52 hb => ?_)
  refine r_istore_n (pc := 11) (lv' := [(2, Iv r_51), (1, Iv r_49), (0, Rv 11)]) F dX11_walk_11 rfl (by decide) rfl ?_
  refine r_iconst (pc := 12) F dX11_walk_12 (inR_lit rfl) ?_
  refine r_istore_n (pc := 13) (lv' := [(3, Iv 0), (2, Iv r_51), (1, Iv r_49), (0, Rv 11)]) F dX11_walk_13 rfl (by decide) rfl ?_
  exact V.sub [3, 2, 1, 0] rfl (g14 μ_52 r_49 r_51 0 hb)
set_option maxHeartbeats 4000000 in
set_option maxRecDepth 100000 in
theorem c_X11_way {g : Wc} {l : Launch} (μ : Mem) (p0 : Int) (p1 : Int) (Post : Pst) (hb : wp_X11_way μ p0 p1 Post) : MtC g l yX11_way cX11_way 4 (some .int) 1 [Rv 11, Iv p0, Iv p1] μ (QI g Post) := by
  intro hok
  refine enter (own := RX11) (by decide) rfl (Nat.le_of_ble_eq_true rfl) hok (fun X hl F hr hR => ?_)
  subst hl
  show V g X 4 μ [(0, Rv 11), (1, Iv p0), (2, Iv p1)] 0 []
  unfold wp_X11_way at hb
  have hb := hb
  unfold b_X11_way_e at hb
  refine r_iload_n (pc := 0) 1 F dX11_way_0 rfl rfl ?_
  refine r_i2l (pc := 1) F dX11_way_1 ?_
  refine r_lconst (pc := 2) (x := 1) F dX11_way_2 (inRL_lit rfl) (by decide) ?_
  refine r_ldc2 (pc := 3) F kl_RX11_160 (x := 3) (by decide) (inRL_lit rfl) dX11_way_3 ?_
  refine r_callSI (pc := 6) (avs := [Lv p0, Lv 1, Lv 3]) (st := []) F (c_X11_in μ p0 1 3 _ hb) (by decide) cal_X11_in st_X11_in lk_RX11_86 rfl rfl (Nat.le_of_ble_eq_true rfl) dX11_way_6 (fun r_1 μ_2 hb => ?_)
  refine r_if_eq (pc := 9) (tgt := 24) F dX11_way_9 (by decide) (fun c_3 => ?_) (fun c_3 => ?_)
  · have hb := hb.1 c_3
    refine r_bipush (pc := 24) F dX11_way_24 (inR_lit rfl) (by decide) ?_
    exact r_iret (pc := 26) F hR hr dX11_way_26 hb
  · have hb := hb.2 c_3
    refine r_iload_n (pc := 12) 2 F dX11_way_12 rfl rfl ?_
    refine r_i2l (pc := 13) F dX11_way_13 ?_
    refine r_lconst (pc := 14) (x := 0) F dX11_way_14 (inRL_lit rfl) (by decide) ?_
    refine r_ldc2 (pc := 15) F kl_RX11_162 (x := 9) (by decide) (inRL_lit rfl) dX11_way_15 ?_
    refine r_callSI (pc := 18) (avs := [Lv p1, Lv 0, Lv 9]) (st := []) F (c_X11_in μ_2 p1 0 9 _ hb) (by decide) cal_X11_in st_X11_in lk_RX11_86 rfl rfl (Nat.le_of_ble_eq_true rfl) dX11_way_18 (fun r_4 μ_5 hb => ?_)
    refine r_if_ne (pc := 21) (tgt := 27) F dX11_way_21 (by decide) (fun c_6 => ?_) (fun c_6 => ?_)
    · have hb := hb.1 c_6
      refine r_aload_n (pc := 27) 0 F dX11_way_27 rfl rfl ?_
      refine gf_RX11_38 (pc := 28) F dX11_way_28 ?_
      refine r_iload_n (pc := 31) 1 F dX11_way_31 rfl rfl ?_
      have hg_7 := hb.1
      have hb := hb.2
      refine r_iald (pc := 32) F lc98.1 lc98.2.1 lc98.2.2 hg_7 dX11_way_32 ?_
      refine V.nmI (fun x_8 ex_8 => ?_)
      have hb := hb x_8 ex_8
      refine r_istore_n (pc := 33) (lv' := [(3, Iv x_8), (0, Rv 11), (1, Iv p0), (2, Iv p1)]) F dX11_way_33 rfl (by decide) rfl ?_
      refine r_aload_n (pc := 34) 1 F dX11_way_34 rfl rfl ?_
      refine gf_RX11_38 (pc := 35) F dX11_way_35 ?_
      refine r_iload_n (pc := 38) 2 F dX11_way_38 rfl rfl ?_
      refine r_iload_n (pc := 39) 3 F dX11_way_39 rfl rfl ?_
      have hg_9 := hb.1
      have hb := hb.2
      refine r_iast (pc := 40) F lc98.1 lc98.2.1 lc98.2.2 hg_9 dX11_way_40 ?_
      refine V.nmM (fun μ_10 eμ_10 => ?_)
      have hb := hb μ_10 eμ_10
      refine r_iload_n (pc := 41) 0 F dX11_way_41 rfl rfl ?_
      exact r_iret (pc := 42) F hR hr dX11_way_42 hb
    · have hb := hb.2 c_6
      refine r_bipush (pc := 24) F dX11_way_24 (inR_lit rfl) (by decide) ?_
      exact r_iret (pc := 26) F hR hr dX11_way_26 hb
set_option maxHeartbeats 4000000 in
set_option maxRecDepth 100000 in
theorem c_X11_work {g : Wc} {l : Launch} (μ : Mem) (p0 : Int) (Post : Pst) (hb : wp_X11_work μ p0 Post) : MtC g l yX11_work cX11_work 3 (some .int) 1 [Rv 11, Iv p0] μ (QI g Post) := by
  intro hok
  refine enter (own := RX11) (by decide) rfl (Nat.le_of_ble_eq_true rfl) hok (fun X hl F hr hR => ?_)
  subst hl
  show V g X 3 μ [(0, Rv 11), (1, Iv p0)] 0 []
  unfold wp_X11_work at hb
  obtain ⟨G91, g91, f91⟩ : ∃ G : Mem → Int → Int → Prop, (∀ μ x1 x2, G μ x1 x2 → V g X 3 μ [(0, Rv 11), (1, Iv x1), (2, Iv x2)] 91 []) ∧ (∀ μ x1 x2, V g X 3 μ [(0, Rv 11), (1, Iv x1), (2, Iv x2)] 91 [] → G μ x1 x2) := ⟨fun μ x1 x2 => V g X 3 μ [(0, Rv 11), (1, Iv x1), (2, Iv x2)] 91 [], fun _ _ _ h => h, fun _ _ _ h => h⟩
  have K117 : ∀ (μ : Mem) (x1 : Int) (x2 : Int) (s1 : Int) (s2 : Int), b_X11_work_117 G91 Post μ x1 x2 s1 s2 → V g X 3 μ [(0, Rv 11), (1, Iv x1), (2, Iv x2)] 117 [Iv s2, Iv s1, Rv 97] := by
    intro μ x1 x2 s1 s2 hb
    unfold b_X11_work_117 at hb
    have hg_1 := hb.1
    have hb := hb.2
    refine r_iast (pc := 117) F lc97.1 lc97.2.1 lc97.2.2 hg_1 dX11_work_117 ?_
    refine V.nmM (fun μ_2 eμ_2 => ?_)
    have hb := hb μ_2 eμ_2
    refine r_iincN (pc := 118) 2 (lf := fun x_3 => [(2, Iv x_3), (0, Rv 11), (1, Iv x1)]) F dX11_work_118 rfl (by decide) rfl (fun x_3 ex_3 => ?_)
    have hb := hb x_3 ex_3
    refine r_goto (pc := 121) (tgt := 91) F dX11_work_121 (by decide) ?_
    exact V.sub [1, 2, 0] rfl (g91 μ_2 x1 x_3 hb)
  have K91 : ∀ (μ : Mem) (x1 : Int) (x2 : Int), b_X11_work_91 G91 Post μ x1 x2 → V g X 3 μ [(0, Rv 11), (1, Iv x1), (2, Iv x2)] 91 [] := by
    intro μ x1 x2 hb
    unfold b_X11_work_91 at hb
    refine r_iload_n (pc := 91) 2 F dX11_work_91 rfl rfl ?_
    refine r_iconst (pc := 92) F dX11_work_92 (inR_lit rfl) ?_
    refine r_icmp_ge (pc := 93) (tgt := 124) F dX11_work_93 (by decide) (fun c_4 => ?_) (fun c_4 => ?_)
    · have hb := hb.1 c_4
      refine r_aload_n (pc := 124) 0 F dX11_work_124 rfl rfl ?_
      refine r_dup (pc := 125) F dX11_work_125 rfl ?_
      refine gf_RX11_83 (pc := 126) F dX11_work_126 ?_
      refine r_iconst (pc := 129) F dX11_work_129 (inR_lit rfl) ?_
      refine r_iadd (pc := 130) F dX11_work_130 ?_
      refine pf_RX11_83 (pc := 131) F dX11_work_131 ?_
      refine V.nmM (fun μ_5 eμ_5 => ?_)
      have hb := hb μ_5 eμ_5
      refine r_aload_n (pc := 134) 0 F dX11_work_134 rfl rfl ?_
      refine gf_RX11_83 (pc := 135) F dX11_work_135 ?_
      refine r_iconst (pc := 138) F dX11_work_138 (inR_lit rfl) ?_
      refine r_isub (pc := 139) F dX11_work_139 ?_
      exact r_iret (pc := 140) F hR hr dX11_work_140 hb
    · have hb := hb.2 c_4
      refine r_aload_n (pc := 96) 0 F dX11_work_96 rfl rfl ?_
      refine gf_RX11_31 (pc := 97) F dX11_work_97 ?_
      refine r_iconst (pc := 100) F dX11_work_100 (inR_lit rfl) ?_
      refine r_aload_n (pc := 101) 0 F dX11_work_101 rfl rfl ?_
      refine gf_RX11_83 (pc := 102) F dX11_work_102 ?_
      refine r_imul (pc := 105) F dX11_work_105 ?_
      refine r_iload_n (pc := 106) 2 F dX11_work_106 rfl rfl ?_
      refine r_iadd (pc := 107) F dX11_work_107 ?_
      refine r_iload_n (pc := 108) 2 F dX11_work_108 rfl rfl ?_
      refine r_if_ne (pc := 109) (tgt := 116) F dX11_work_109 (by decide) (fun c_6 => ?_) (fun c_6 => ?_)
      · have hb := hb.1 c_6
        refine r_iconst (pc := 116) F dX11_work_116 (inR_lit rfl) ?_
        exact V.sub [0, 1, 2] rfl (K117 μ x1 x2 (wrap ((wrap (4 * (μ 11 0))) + x2)) 1 hb)
      · have hb := hb.2 c_6
        refine r_iload_n (pc := 112) 1 F dX11_work_112 rfl rfl ?_
        refine r_goto (pc := 113) (tgt := 117) F dX11_work_113 (by decide) ?_
        exact V.sub [0, 1, 2] rfl (K117 μ x1 x2 (wrap ((wrap (4 * (μ 11 0))) + x2)) x1 hb)
  have hb := hb G91 (fun μ x1 x2 hb => f91 μ x1 x2 (K91 μ x1 x2 hb))
  unfold b_X11_work_e at hb
  refine r_iload_n (pc := 0) 1 F dX11_work_0 rfl rfl ?_
  refine r_i2l (pc := 1) F dX11_work_1 ?_
  refine r_lconst (pc := 2) (x := 1) F dX11_work_2 (inRL_lit rfl) (by decide) ?_
  refine r_ldc2 (pc := 3) F kl_RX11_90 (x := 40) (by decide) (inRL_lit rfl) dX11_work_3 ?_
  refine r_callSI (pc := 6) (avs := [Lv p0, Lv 1, Lv 40]) (st := []) F (c_X11_in μ p0 1 40 _ hb) (by decide) cal_X11_in st_X11_in lk_RX11_86 rfl rfl (Nat.le_of_ble_eq_true rfl) dX11_work_6 (fun r_7 μ_8 hb => ?_)
  refine r_if_ne (pc := 9) (tgt := 15) F dX11_work_9 (by decide) (fun c_9 => ?_) (fun c_9 => ?_)
  · have hb := hb.1 c_9
    refine r_aload_n (pc := 15) 0 F dX11_work_15 rfl rfl ?_
    refine gf_RX11_83 (pc := 16) F dX11_work_16 ?_
    refine r_bipush (pc := 19) F dX11_work_19 (inR_lit rfl) (by decide) ?_
    refine r_icmp_ne (pc := 21) (tgt := 27) F dX11_work_21 (by decide) (fun c_10 => ?_) (fun c_10 => ?_)
    · have hb := hb.1 c_10
      refine r_aload_n (pc := 27) 0 F dX11_work_27 rfl rfl ?_
      refine gf_RX11_7 (pc := 28) F dX11_work_28 ?_
      refine r_aload_n (pc := 31) 0 F dX11_work_31 rfl rfl ?_
      refine gf_RX11_83 (pc := 32) F dX11_work_32 ?_
      refine r_iload_n (pc := 35) 1 F dX11_work_35 rfl rfl ?_
      have hg_11 := hb.1
      have hb := hb.2
      refine r_iast (pc := 36) F lc90.1 lc90.2.1 lc90.2.2 hg_11 dX11_work_36 ?_
      refine V.nmM (fun μ_12 eμ_12 => ?_)
      have hb := hb μ_12 eμ_12
      refine r_aload_n (pc := 37) 0 F dX11_work_37 rfl rfl ?_
      refine gf_RX11_13 (pc := 38) F dX11_work_38 ?_
      refine r_aload_n (pc := 41) 0 F dX11_work_41 rfl rfl ?_
      refine gf_RX11_83 (pc := 42) F dX11_work_42 ?_
      refine r_iconst (pc := 45) F dX11_work_45 (inR_lit rfl) ?_
      have hg_13 := hb.1
      have hb := hb.2
      refine r_iast (pc := 46) F lc91.1 lc91.2.1 lc91.2.2 hg_13 dX11_work_46 ?_
      refine V.nmM (fun μ_14 eμ_14 => ?_)
      have hb := hb μ_14 eμ_14
      refine r_aload_n (pc := 47) 0 F dX11_work_47 rfl rfl ?_
      refine gf_RX11_16 (pc := 48) F dX11_work_48 ?_
      refine r_aload_n (pc := 51) 0 F dX11_work_51 rfl rfl ?_
      refine gf_RX11_83 (pc := 52) F dX11_work_52 ?_
      refine r_sipush (pc := 55) F dX11_work_55 (inR_lit rfl) (by decide) ?_
      have hg_15 := hb.1
      have hb := hb.2
      refine r_iast (pc := 58) F lc92.1 lc92.2.1 lc92.2.2 hg_15 dX11_work_58 ?_
      refine V.nmM (fun μ_16 eμ_16 => ?_)
      have hb := hb μ_16 eμ_16
      refine r_aload_n (pc := 59) 0 F dX11_work_59 rfl rfl ?_
      refine gf_RX11_19 (pc := 60) F dX11_work_60 ?_
      refine r_aload_n (pc := 63) 0 F dX11_work_63 rfl rfl ?_
      refine gf_RX11_83 (pc := 64) F dX11_work_64 ?_
      refine r_iconst (pc := 67) F dX11_work_67 (inR_lit rfl) ?_
      have hg_17 := hb.1
      have hb := hb.2
      refine r_iast (pc := 68) F lc93.1 lc93.2.1 lc93.2.2 hg_17 dX11_work_68 ?_
      refine V.nmM (fun μ_18 eμ_18 => ?_)
      have hb := hb μ_18 eμ_18
      refine r_aload_n (pc := 69) 0 F dX11_work_69 rfl rfl ?_
      refine gf_RX11_22 (pc := 70) F dX11_work_70 ?_
      refine r_aload_n (pc := 73) 0 F dX11_work_73 rfl rfl ?_
      refine gf_RX11_83 (pc := 74) F dX11_work_74 ?_
      refine r_iconst (pc := 77) F dX11_work_77 (inR_lit rfl) ?_
      have hg_19 := hb.1
      have hb := hb.2
      refine r_iast (pc := 78) F lc94.1 lc94.2.1 lc94.2.2 hg_19 dX11_work_78 ?_
      refine V.nmM (fun μ_20 eμ_20 => ?_)
      have hb := hb μ_20 eμ_20
      refine r_aload_n (pc := 79) 0 F dX11_work_79 rfl rfl ?_
      refine gf_RX11_25 (pc := 80) F dX11_work_80 ?_
      refine r_aload_n (pc := 83) 0 F dX11_work_83 rfl rfl ?_
      refine gf_RX11_83 (pc := 84) F dX11_work_84 ?_
      refine r_iconst (pc := 87) F dX11_work_87 (inR_lit rfl) ?_
      have hg_21 := hb.1
      have hb := hb.2
      refine r_iast (pc := 88) F lc95.1 lc95.2.1 lc95.2.2 hg_21 dX11_work_88 ?_
      refine V.nmM (fun μ_22 eμ_22 => ?_)
      have hb := hb μ_22 eμ_22
      refine r_iconst (pc := 89) F dX11_work_89 (inR_lit rfl) ?_
      refine r_istore_n (pc := 90) (lv' := [(2, Iv 0), (0, Rv 11), (1, Iv p0)]) F dX11_work_90 rfl (by decide) rfl ?_
      exact V.sub [1, 2, 0] rfl (g91 μ_22 p0 0 hb)
    · have hb := hb.2 c_10
      refine r_bipush (pc := 24) F dX11_work_24 (inR_lit rfl) (by decide) ?_
      exact r_iret (pc := 26) F hR hr dX11_work_26 hb
  · have hb := hb.2 c_9
    refine r_bipush (pc := 12) F dX11_work_12 (inR_lit rfl) (by decide) ?_
    exact r_iret (pc := 14) F hR hr dX11_work_14 hb
