/-! Walks: X11_goBroken, X11_broken, X11_byDue, X11_isSooner, X11_byRule, X11_isTool, X11_change, X11_clear. By program. -/
set_option maxHeartbeats 4000000 in
set_option maxRecDepth 100000 in
theorem c_X11_goBroken {g : Wc} {l : Launch} (μ : Mem) (Post : Pst) (hb : wp_X11_goBroken μ Post) : MtC g l yX11_goBroken cX11_goBroken 6 (some .int) 0 [Rv 11] μ (QI g Post) := by
  intro hok
  refine enter (own := RX11) (by decide) rfl (Nat.le_of_ble_eq_true rfl) hok (fun X hl F hr hR => ?_)
  subst hl
  show V g X 6 μ [(0, Rv 11)] 0 []
  unfold wp_X11_goBroken at hb
  obtain ⟨G4, g4, f4⟩ : ∃ G : Mem → Int → Int → Prop, (∀ μ x1 x2, G μ x1 x2 → V g X 6 μ [(0, Rv 11), (1, Iv x1), (2, Iv x2)] 4 []) ∧ (∀ μ x1 x2, V g X 6 μ [(0, Rv 11), (1, Iv x1), (2, Iv x2)] 4 [] → G μ x1 x2) := ⟨fun μ x1 x2 => V g X 6 μ [(0, Rv 11), (1, Iv x1), (2, Iv x2)] 4 [], fun _ _ _ h => h, fun _ _ _ h => h⟩
  obtain ⟨G32, g32, f32⟩ : ∃ G : Mem → Int → Int → Prop, (∀ μ x1 x2, G μ x1 x2 → V g X 6 μ [(0, Rv 11), (1, Iv x1), (2, Iv x2)] 32 []) ∧ (∀ μ x1 x2, V g X 6 μ [(0, Rv 11), (1, Iv x1), (2, Iv x2)] 32 [] → G μ x1 x2) := ⟨fun μ x1 x2 => V g X 6 μ [(0, Rv 11), (1, Iv x1), (2, Iv x2)] 32 [], fun _ _ _ h => h, fun _ _ _ h => h⟩
  obtain ⟨G44, g44, f44⟩ : ∃ G : Mem → Int → Int → Int → Int → Prop, (∀ μ x1 x2 x3 x4, G μ x1 x2 x3 x4 → V g X 6 μ [(0, Rv 11), (1, Iv x1), (2, Iv x2), (3, Iv x3), (4, Iv x4)] 44 []) ∧ (∀ μ x1 x2 x3 x4, V g X 6 μ [(0, Rv 11), (1, Iv x1), (2, Iv x2), (3, Iv x3), (4, Iv x4)] 44 [] → G μ x1 x2 x3 x4) := ⟨fun μ x1 x2 x3 x4 => V g X 6 μ [(0, Rv 11), (1, Iv x1), (2, Iv x2), (3, Iv x3), (4, Iv x4)] 44 [], fun _ _ _ _ _ h => h, fun _ _ _ _ _ h => h⟩
  have K113 : ∀ (μ : Mem) (x1 : Int) (x2 : Int) (x4 : Int) (s0 : Int), b_X11_goBroken_113 G4 G32 G44 Post μ x1 x2 x4 s0 → V g X 6 μ [(0, Rv 11), (1, Iv x1), (2, Iv x2), (4, Iv x4)] 113 [Iv s0] := by
    intro μ x1 x2 x4 s0 hb
    unfold b_X11_goBroken_113 at hb
    refine r_istore_n (pc := 113) (lv' := [(3, Iv s0), (0, Rv 11), (1, Iv x1), (2, Iv x2), (4, Iv x4)]) F dX11_goBroken_113 rfl (by decide) rfl ?_
    refine r_iincN (pc := 114) 4 (lf := fun x_1 => [(4, Iv x_1), (3, Iv s0), (0, Rv 11), (1, Iv x1), (2, Iv x2)]) F dX11_goBroken_114 rfl (by decide) rfl (fun x_1 ex_1 => ?_)
    have hb := hb x_1 ex_1
    refine r_goto (pc := 117) (tgt := 44) F dX11_goBroken_117 (by decide) ?_
    exact V.sub [2, 3, 4, 1, 0] rfl (g44 μ x1 x2 s0 x_1 hb)
  have K112 : ∀ (μ : Mem) (x1 : Int) (x2 : Int) (x3 : Int) (x4 : Int), b_X11_goBroken_112 G4 G32 G44 Post μ x1 x2 x3 x4 → V g X 6 μ [(0, Rv 11), (1, Iv x1), (2, Iv x2), (3, Iv x3), (4, Iv x4)] 112 [] := by
    intro μ x1 x2 x3 x4 hb
    unfold b_X11_goBroken_112 at hb
    refine r_iload_n (pc := 112) 3 F dX11_goBroken_112 rfl rfl ?_
    exact V.sub [0, 1, 2, 4] rfl (K113 μ x1 x2 x4 x3 hb)
  have K107 : ∀ (μ : Mem) (x1 : Int) (x2 : Int) (x4 : Int), b_X11_goBroken_107 G4 G32 G44 Post μ x1 x2 x4 → V g X 6 μ [(0, Rv 11), (1, Iv x1), (2, Iv x2), (4, Iv x4)] 107 [] := by
    intro μ x1 x2 x4 hb
    unfold b_X11_goBroken_107 at hb
    refine r_iload (pc := 107) 3 F dX11_goBroken_107 rfl ?_
    refine r_goto (pc := 109) (tgt := 113) F dX11_goBroken_109 (by decide) ?_
    exact V.sub [0, 1, 2, 3] rfl (K113 μ x1 x2 x4 x4 hb)
  have K79 : ∀ (μ : Mem) (x1 : Int) (x2 : Int) (x3 : Int) (x4 : Int) (s0 : Int), b_X11_goBroken_79 G4 G32 G44 Post μ x1 x2 x3 x4 s0 → V g X 6 μ [(0, Rv 11), (1, Iv x1), (2, Iv x2), (3, Iv x3), (4, Iv x4)] 79 [Iv s0] := by
    intro μ x1 x2 x3 x4 s0 hb
    unfold b_X11_goBroken_79 at hb
    refine r_istore (pc := 79) (lv' := [(5, Iv s0), (0, Rv 11), (1, Iv x1), (2, Iv x2), (3, Iv x3), (4, Iv x4)]) F dX11_goBroken_79 (by decide) rfl ?_
    refine r_iload (pc := 81) 0 F dX11_goBroken_81 rfl ?_
    refine r_if_eq (pc := 83) (tgt := 112) F dX11_goBroken_83 (by decide) (fun c_2 => ?_) (fun c_2 => ?_)
    · have hb := hb.1 c_2
      exact V.sub [1, 2, 3, 4, 5] rfl (K112 μ x1 x2 x3 x4 hb)
    · have hb := hb.2 c_2
      refine r_iload_n (pc := 86) 4 F dX11_goBroken_86 rfl rfl ?_
      refine r_iconst (pc := 87) F dX11_goBroken_87 (inR_lit rfl) ?_
      refine r_icmp_eq (pc := 88) (tgt := 107) F dX11_goBroken_88 (by decide) (fun c_3 => ?_) (fun c_3 => ?_)
      · have hb := hb.1 c_3
        exact V.sub [1, 2, 3, 5] rfl (K107 μ x1 x2 x4 hb)
      · have hb := hb.2 c_3
        refine r_aload_n (pc := 91) 1 F dX11_goBroken_91 rfl rfl ?_
        refine gf_RX11_16 (pc := 92) F dX11_goBroken_92 ?_
        refine r_iload (pc := 95) 5 F dX11_goBroken_95 rfl ?_
        have hg_4 := hb.1
        have hb := hb.2
        refine r_iald (pc := 97) F lc92.1 lc92.2.1 lc92.2.2 hg_4 dX11_goBroken_97 ?_
        refine r_aload_n (pc := 98) 1 F dX11_goBroken_98 rfl rfl ?_
        refine gf_RX11_16 (pc := 99) F dX11_goBroken_99 ?_
        refine r_iload_n (pc := 102) 4 F dX11_goBroken_102 rfl rfl ?_
        have hg_5 := hb.1
        have hb := hb.2
        refine r_iald (pc := 103) F lc92.1 lc92.2.1 lc92.2.2 hg_5 dX11_goBroken_103 ?_
        refine r_icmp_ge (pc := 104) (tgt := 112) F dX11_goBroken_104 (by decide) (fun c_6 => ?_) (fun c_6 => ?_)
        · have hb := hb.1 c_6
          exact V.sub [1, 2, 3, 4, 5] rfl (K112 μ x1 x2 x3 x4 hb)
        · have hb := hb.2 c_6
          exact V.sub [1, 2, 3, 5] rfl (K107 μ x1 x2 x4 hb)
  have K78 : ∀ (μ : Mem) (x1 : Int) (x2 : Int) (x3 : Int) (x4 : Int), b_X11_goBroken_78 G4 G32 G44 Post μ x1 x2 x3 x4 → V g X 6 μ [(0, Rv 11), (1, Iv x1), (2, Iv x2), (3, Iv x3), (4, Iv x4)] 78 [] := by
    intro μ x1 x2 x3 x4 hb
    unfold b_X11_goBroken_78 at hb
    refine r_iconst (pc := 78) F dX11_goBroken_78 (inR_lit rfl) ?_
    exact V.sub [0, 1, 2, 3, 4] rfl (K79 μ x1 x2 x3 x4 0 hb)
  have K180 : ∀ (μ : Mem) (x1 : Int) (x2 : Int), b_X11_goBroken_180 G4 G32 G44 Post μ x1 x2 → V g X 6 μ [(0, Rv 11), (1, Iv x1), (2, Iv x2)] 180 [] := by
    intro μ x1 x2 hb
    unfold b_X11_goBroken_180 at hb
    refine r_iincN (pc := 180) 2 (lf := fun x_7 => [(2, Iv x_7), (0, Rv 11), (1, Iv x1)]) F dX11_goBroken_180 rfl (by decide) rfl (fun x_7 ex_7 => ?_)
    have hb := hb x_7 ex_7
    refine r_goto (pc := 183) (tgt := 32) F dX11_goBroken_183 (by decide) ?_
    exact V.sub [1, 2, 0] rfl (g32 μ x1 x_7 hb)
  have K179 : ∀ (μ : Mem) (x2 : Int) (s0 : Int), b_X11_goBroken_179 G4 G32 G44 Post μ x2 s0 → V g X 6 μ [(0, Rv 11), (2, Iv x2)] 179 [Iv s0] := by
    intro μ x2 s0 hb
    unfold b_X11_goBroken_179 at hb
    refine r_istore_n (pc := 179) (lv' := [(1, Iv s0), (0, Rv 11), (2, Iv x2)]) F dX11_goBroken_179 rfl (by decide) rfl ?_
    exact V.sub [1, 0, 2] rfl (K180 μ s0 x2 hb)
  have K178 : ∀ (μ : Mem) (x1 : Int) (x2 : Int), b_X11_goBroken_178 G4 G32 G44 Post μ x1 x2 → V g X 6 μ [(0, Rv 11), (1, Iv x1), (2, Iv x2)] 178 [] := by
    intro μ x1 x2 hb
    unfold b_X11_goBroken_178 at hb
    refine r_iload_n (pc := 178) 1 F dX11_goBroken_178 rfl rfl ?_
    exact V.sub [0, 2] rfl (K179 μ x2 x1 hb)
  have K4 : ∀ (μ : Mem) (x1 : Int) (x2 : Int), b_X11_goBroken_4 G4 G32 G44 Post μ x1 x2 → V g X 6 μ [(0, Rv 11), (1, Iv x1), (2, Iv x2)] 4 [] := by
    intro μ x1 x2 hb
    unfold b_X11_goBroken_4 at hb
    refine r_iload_n (pc := 4) 2 F dX11_goBroken_4 rfl rfl ?_
    refine r_aload_n (pc := 5) 0 F dX11_goBroken_5 rfl rfl ?_
    refine gf_RX11_83 (pc := 6) F dX11_goBroken_6 ?_
    refine r_icmp_ge (pc := 9) (tgt := 30) F dX11_goBroken_9 (by decide) (fun c_8 => ?_) (fun c_8 => ?_)
    · have hb := hb.1 c_8
      refine r_iconst (pc := 30) F dX11_goBroken_30 (inR_lit rfl) ?_
      refine r_istore_n (pc := 31) (lv' := [(2, Iv 0), (0, Rv 11), (1, Iv x1)]) F dX11_goBroken_31 rfl (by decide) rfl ?_
      exact V.sub [1, 2, 0] rfl (g32 μ x1 0 hb)
    · have hb := hb.2 c_8
      refine r_aload_n (pc := 12) 0 F dX11_goBroken_12 rfl rfl ?_
      refine gf_RX11_65 (pc := 13) F dX11_goBroken_13 ?_
      refine r_iload_n (pc := 16) 2 F dX11_goBroken_16 rfl rfl ?_
      refine r_aload_n (pc := 17) 0 F dX11_goBroken_17 rfl rfl ?_
      refine gf_RX11_7 (pc := 18) F dX11_goBroken_18 ?_
      refine r_iload_n (pc := 21) 2 F dX11_goBroken_21 rfl rfl ?_
      have hg_9 := hb.1
      have hb := hb.2
      refine r_iald (pc := 22) F lc90.1 lc90.2.1 lc90.2.2 hg_9 dX11_goBroken_22 ?_
      have hg_10 := hb.1
      have hb := hb.2
      refine r_iast (pc := 23) F lc106.1 lc106.2.1 lc106.2.2 hg_10 dX11_goBroken_23 ?_
      refine V.nmM (fun μ_11 eμ_11 => ?_)
      have hb := hb μ_11 eμ_11
      refine r_iincN (pc := 24) 2 (lf := fun x_12 => [(2, Iv x_12), (0, Rv 11), (1, Iv x1)]) F dX11_goBroken_24 rfl (by decide) rfl (fun x_12 ex_12 => ?_)
      have hb := hb x_12 ex_12
      refine r_goto (pc := 27) (tgt := 4) F dX11_goBroken_27 (by decide) ?_
      exact V.sub [1, 2, 0] rfl (g4 μ_11 x1 x_12 hb)
  have K32 : ∀ (μ : Mem) (x1 : Int) (x2 : Int), b_X11_goBroken_32 G4 G32 G44 Post μ x1 x2 → V g X 6 μ [(0, Rv 11), (1, Iv x1), (2, Iv x2)] 32 [] := by
    intro μ x1 x2 hb
    unfold b_X11_goBroken_32 at hb
    refine r_iload_n (pc := 32) 2 F dX11_goBroken_32 rfl rfl ?_
    refine r_sipush (pc := 33) F dX11_goBroken_33 (inR_lit rfl) (by decide) ?_
    refine r_icmp_ge (pc := 36) (tgt := 186) F dX11_goBroken_36 (by decide) (fun c_13 => ?_) (fun c_13 => ?_)
    · have hb := hb.1 c_13
      refine r_iload_n (pc := 186) 1 F dX11_goBroken_186 rfl rfl ?_
      exact r_iret (pc := 187) F hR hr dX11_goBroken_187 hb
    · have hb := hb.2 c_13
      refine r_iconst (pc := 39) F dX11_goBroken_39 (inR_lit rfl) ?_
      refine r_istore_n (pc := 40) (lv' := [(3, Iv (-1)), (0, Rv 11), (1, Iv x1), (2, Iv x2)]) F dX11_goBroken_40 rfl (by decide) rfl ?_
      refine r_iconst (pc := 41) F dX11_goBroken_41 (inR_lit rfl) ?_
      refine r_istore (pc := 42) (lv' := [(4, Iv 0), (3, Iv (-1)), (0, Rv 11), (1, Iv x1), (2, Iv x2)]) F dX11_goBroken_42 (by decide) rfl ?_
      exact V.sub [2, 3, 4, 1, 0] rfl (g44 μ x1 x2 (-1) 0 hb)
  have K44 : ∀ (μ : Mem) (x1 : Int) (x2 : Int) (x3 : Int) (x4 : Int), b_X11_goBroken_44 G4 G32 G44 Post μ x1 x2 x3 x4 → V g X 6 μ [(0, Rv 11), (1, Iv x1), (2, Iv x2), (3, Iv x3), (4, Iv x4)] 44 [] := by
    intro μ x1 x2 x3 x4 hb
    unfold b_X11_goBroken_44 at hb
    refine r_iload (pc := 44) 4 F dX11_goBroken_44 rfl ?_
    refine r_aload_n (pc := 46) 0 F dX11_goBroken_46 rfl rfl ?_
    refine gf_RX11_83 (pc := 47) F dX11_goBroken_47 ?_
    refine r_icmp_ge (pc := 50) (tgt := 120) F dX11_goBroken_50 (by decide) (fun c_14 => ?_) (fun c_14 => ?_)
    · have hb := hb.1 c_14
      refine r_aload_n (pc := 120) 0 F dX11_goBroken_120 rfl rfl ?_
      refine gf_RX11_62 (pc := 121) F dX11_goBroken_121 ?_
      refine r_iload_n (pc := 124) 2 F dX11_goBroken_124 rfl rfl ?_
      refine r_iload_n (pc := 125) 3 F dX11_goBroken_125 rfl rfl ?_
      have hg_15 := hb.1
      have hb := hb.2
      refine r_iast (pc := 126) F lc105.1 lc105.2.1 lc105.2.2 hg_15 dX11_goBroken_126 ?_
      refine V.nmM (fun μ_16 eμ_16 => ?_)
      have hb := hb μ_16 eμ_16
      refine r_iload_n (pc := 127) 3 F dX11_goBroken_127 rfl rfl ?_
      refine r_iconst (pc := 128) F dX11_goBroken_128 (inR_lit rfl) ?_
      refine r_icmp_eq (pc := 129) (tgt := 180) F dX11_goBroken_129 (by decide) (fun c_17 => ?_) (fun c_17 => ?_)
      · have hb := hb.1 c_17
        exact V.sub [0, 1, 2] rfl (K180 μ_16 x1 x2 hb)
      · have hb := hb.2 c_17
        refine r_aload_n (pc := 132) 0 F dX11_goBroken_132 rfl rfl ?_
        refine gf_RX11_65 (pc := 133) F dX11_goBroken_133 ?_
        refine r_iload_n (pc := 136) 3 F dX11_goBroken_136 rfl rfl ?_
        refine r_dup2 (pc := 137) F dX11_goBroken_137 rfl rfl ?_
        have hg_18 := hb.1
        have hb := hb.2
        refine r_iald (pc := 138) F lc106.1 lc106.2.1 lc106.2.2 hg_18 dX11_goBroken_138 ?_
        refine r_iconst (pc := 139) F dX11_goBroken_139 (inR_lit rfl) ?_
        refine r_isub (pc := 140) F dX11_goBroken_140 ?_
        have hg_19 := hb.1
        have hb := hb.2
        refine r_iast (pc := 141) F lc106.1 lc106.2.1 lc106.2.2 hg_19 dX11_goBroken_141 ?_
        refine V.nmM (fun μ_20 eμ_20 => ?_)
        have hb := hb μ_20 eμ_20
        refine r_aload_n (pc := 142) 0 F dX11_goBroken_142 rfl rfl ?_
        refine gf_RX11_65 (pc := 143) F dX11_goBroken_143 ?_
        refine r_iload_n (pc := 146) 3 F dX11_goBroken_146 rfl rfl ?_
        have hg_21 := hb.1
        have hb := hb.2
        refine r_iald (pc := 147) F lc106.1 lc106.2.1 lc106.2.2 hg_21 dX11_goBroken_147 ?_
        refine r_if_ne (pc := 148) (tgt := 178) F dX11_goBroken_148 (by decide) (fun c_22 => ?_) (fun c_22 => ?_)
        · have hb := hb.1 c_22
          exact V.sub [0, 1, 2] rfl (K178 μ_20 x1 x2 hb)
        · have hb := hb.2 c_22
          refine r_iload_n (pc := 151) 2 F dX11_goBroken_151 rfl rfl ?_
          refine r_iconst (pc := 152) F dX11_goBroken_152 (inR_lit rfl) ?_
          refine r_iadd (pc := 153) F dX11_goBroken_153 ?_
          refine r_aload_n (pc := 154) 0 F dX11_goBroken_154 rfl rfl ?_
          refine gf_RX11_16 (pc := 155) F dX11_goBroken_155 ?_
          refine r_iload_n (pc := 158) 3 F dX11_goBroken_158 rfl rfl ?_
          have hg_23 := hb.1
          have hb := hb.2
          refine r_iald (pc := 159) F lc92.1 lc92.2.1 lc92.2.2 hg_23 dX11_goBroken_159 ?_
          refine r_isub (pc := 160) F dX11_goBroken_160 ?_
          refine r_iload_n (pc := 161) 1 F dX11_goBroken_161 rfl rfl ?_
          refine r_icmp_le (pc := 162) (tgt := 178) F dX11_goBroken_162 (by decide) (fun c_24 => ?_) (fun c_24 => ?_)
          · have hb := hb.1 c_24
            exact V.sub [0, 1, 2] rfl (K178 μ_20 x1 x2 hb)
          · have hb := hb.2 c_24
            refine r_iload_n (pc := 165) 2 F dX11_goBroken_165 rfl rfl ?_
            refine r_iconst (pc := 166) F dX11_goBroken_166 (inR_lit rfl) ?_
            refine r_iadd (pc := 167) F dX11_goBroken_167 ?_
            refine r_aload_n (pc := 168) 0 F dX11_goBroken_168 rfl rfl ?_
            refine gf_RX11_16 (pc := 169) F dX11_goBroken_169 ?_
            refine r_iload_n (pc := 172) 3 F dX11_goBroken_172 rfl rfl ?_
            have hg_25 := hb.1
            have hb := hb.2
            refine r_iald (pc := 173) F lc92.1 lc92.2.1 lc92.2.2 hg_25 dX11_goBroken_173 ?_
            refine r_isub (pc := 174) F dX11_goBroken_174 ?_
            refine r_goto (pc := 175) (tgt := 179) F dX11_goBroken_175 (by decide) ?_
            exact V.sub [0, 2] rfl (K179 μ_20 x2 (wrap ((wrap (x2 + 1)) - (μ_20 92 x3.toNat))) hb)
    · have hb := hb.2 c_14
      refine r_aload_n (pc := 53) 0 F dX11_goBroken_53 rfl rfl ?_
      refine gf_RX11_13 (pc := 54) F dX11_goBroken_54 ?_
      refine r_iload (pc := 57) 4 F dX11_goBroken_57 rfl ?_
      have hg_26 := hb.1
      have hb := hb.2
      refine r_iald (pc := 59) F lc91.1 lc91.2.1 lc91.2.2 hg_26 dX11_goBroken_59 ?_
      refine r_iload_n (pc := 60) 2 F dX11_goBroken_60 rfl rfl ?_
      refine r_icmp_gt (pc := 61) (tgt := 78) F dX11_goBroken_61 (by decide) (fun c_27 => ?_) (fun c_27 => ?_)
      · have hb := hb.1 c_27
        exact V.sub [0, 1, 2, 3, 4] rfl (K78 μ x1 x2 x3 x4 hb)
      · have hb := hb.2 c_27
        refine r_aload_n (pc := 64) 0 F dX11_goBroken_64 rfl rfl ?_
        refine gf_RX11_65 (pc := 65) F dX11_goBroken_65 ?_
        refine r_iload (pc := 68) 4 F dX11_goBroken_68 rfl ?_
        have hg_28 := hb.1
        have hb := hb.2
        refine r_iald (pc := 70) F lc106.1 lc106.2.1 lc106.2.2 hg_28 dX11_goBroken_70 ?_
        refine r_if_le (pc := 71) (tgt := 78) F dX11_goBroken_71 (by decide) (fun c_29 => ?_) (fun c_29 => ?_)
        · have hb := hb.1 c_29
          exact V.sub [0, 1, 2, 3, 4] rfl (K78 μ x1 x2 x3 x4 hb)
        · have hb := hb.2 c_29
          refine r_iconst (pc := 74) F dX11_goBroken_74 (inR_lit rfl) ?_
          refine r_goto (pc := 75) (tgt := 79) F dX11_goBroken_75 (by decide) ?_
          exact V.sub [0, 1, 2, 3, 4] rfl (K79 μ x1 x2 x3 x4 1 hb)
  have hb := hb G4 G32 G44 (fun μ x1 x2 hb => f4 μ x1 x2 (K4 μ x1 x2 hb)) (fun μ x1 x2 hb => f32 μ x1 x2 (K32 μ x1 x2 hb)) (fun μ x1 x2 x3 x4 hb => f44 μ x1 x2 x3 x4 (K44 μ x1 x2 x3 x4 hb))
  unfold b_X11_goBroken_e at hb
  refine r_iconst (pc := 0) F dX11_goBroken_0 (inR_lit rfl) ?_
  refine r_istore_n (pc := 1) (lv' := [(1, Iv 0), (0, Rv 11)]) F dX11_goBroken_1 rfl (by decide) rfl ?_
  refine r_iconst (pc := 2) F dX11_goBroken_2 (inR_lit rfl) ?_
  refine r_istore_n (pc := 3) (lv' := [(2, Iv 0), (1, Iv 0), (0, Rv 11)]) F dX11_goBroken_3 rfl (by decide) rfl ?_
  exact V.sub [2, 1, 0] rfl (g4 μ 0 0 hb)
set_option maxHeartbeats 4000000 in
set_option maxRecDepth 100000 in
theorem c_X11_broken {g : Wc} {l : Launch} (μ : Mem) (p0 : Int) (Post : Pst) (hb : wp_X11_broken μ p0 Post) : MtC g l yX11_broken cX11_broken 10 (some .int) 1 [Rv 11, Iv p0] μ (QI g Post) := by
  intro hok
  refine enter (own := RX11) (by decide) rfl (Nat.le_of_ble_eq_true rfl) hok (fun X hl F hr hR => ?_)
  subst hl
  show V g X 10 μ [(0, Rv 11), (1, Iv p0)] 0 []
  unfold wp_X11_broken at hb
  obtain ⟨G45, g45, f45⟩ : ∃ G : Mem → Int → Int → Int → Int → Int → Prop, (∀ μ x1 x3 x4 x5 x6, G μ x1 x3 x4 x5 x6 → V g X 10 μ [(0, Rv 11), (1, Iv x1), (3, Iv x3), (4, Iv x4), (5, Iv x5), (6, Iv x6)] 45 []) ∧ (∀ μ x1 x3 x4 x5 x6, V g X 10 μ [(0, Rv 11), (1, Iv x1), (3, Iv x3), (4, Iv x4), (5, Iv x5), (6, Iv x6)] 45 [] → G μ x1 x3 x4 x5 x6) := ⟨fun μ x1 x3 x4 x5 x6 => V g X 10 μ [(0, Rv 11), (1, Iv x1), (3, Iv x3), (4, Iv x4), (5, Iv x5), (6, Iv x6)] 45 [], fun _ _ _ _ _ _ h => h, fun _ _ _ _ _ _ h => h⟩
  obtain ⟨G55, g55, f55⟩ : ∃ G : Mem → Int → Int → Int → Int → Int → Int → Prop, (∀ μ x1 x3 x4 x5 x6 x7, G μ x1 x3 x4 x5 x6 x7 → V g X 10 μ [(0, Rv 11), (1, Iv x1), (3, Iv x3), (4, Iv x4), (5, Iv x5), (6, Iv x6), (7, Iv x7)] 55 []) ∧ (∀ μ x1 x3 x4 x5 x6 x7, V g X 10 μ [(0, Rv 11), (1, Iv x1), (3, Iv x3), (4, Iv x4), (5, Iv x5), (6, Iv x6), (7, Iv x7)] 55 [] → G μ x1 x3 x4 x5 x6 x7) := ⟨fun μ x1 x3 x4 x5 x6 x7 => V g X 10 μ [(0, Rv 11), (1, Iv x1), (3, Iv x3), (4, Iv x4), (5, Iv x5), (6, Iv x6), (7, Iv x7)] 55 [], fun _ _ _ _ _ _ _ h => h, fun _ _ _ _ _ _ _ h => h⟩
  obtain ⟨G69, g69, f69⟩ : ∃ G : Mem → Int → Int → Int → Int → Int → Int → Int → Int → Prop, (∀ μ x1 x3 x4 x5 x6 x7 x8 x9, G μ x1 x3 x4 x5 x6 x7 x8 x9 → V g X 10 μ [(0, Rv 11), (1, Iv x1), (3, Iv x3), (4, Iv x4), (5, Iv x5), (6, Iv x6), (7, Iv x7), (8, Iv x8), (9, Iv x9)] 69 []) ∧ (∀ μ x1 x3 x4 x5 x6 x7 x8 x9, V g X 10 μ [(0, Rv 11), (1, Iv x1), (3, Iv x3), (4, Iv x4), (5, Iv x5), (6, Iv x6), (7, Iv x7), (8, Iv x8), (9, Iv x9)] 69 [] → G μ x1 x3 x4 x5 x6 x7 x8 x9) := ⟨fun μ x1 x3 x4 x5 x6 x7 x8 x9 => V g X 10 μ [(0, Rv 11), (1, Iv x1), (3, Iv x3), (4, Iv x4), (5, Iv x5), (6, Iv x6), (7, Iv x7), (8, Iv x8), (9, Iv x9)] 69 [], fun _ _ _ _ _ _ _ _ _ h => h, fun _ _ _ _ _ _ _ _ _ h => h⟩
  have K115 : ∀ (μ : Mem) (x1 : Int) (x3 : Int) (x4 : Int) (x5 : Int) (x6 : Int) (x7 : Int) (x9 : Int) (s0 : Int) (s1 : Int), b_X11_broken_115 G45 G55 G69 Post μ x1 x3 x4 x5 x6 x7 x9 s0 s1 → V g X 10 μ [(0, Rv 11), (1, Iv x1), (3, Iv x3), (4, Iv x4), (5, Iv x5), (6, Iv x6), (7, Iv x7), (9, Iv x9)] 115 [Iv s1, Iv s0] := by
    intro μ x1 x3 x4 x5 x6 x7 x9 s0 s1 hb
    unfold b_X11_broken_115 at hb
    refine r_iadd (pc := 115) F dX11_broken_115 ?_
    refine V.nmI (fun x_1 ex_1 => ?_)
    have hb := hb x_1 ex_1
    refine r_istore (pc := 116) (lv' := [(8, Iv x_1), (0, Rv 11), (1, Iv x1), (3, Iv x3), (4, Iv x4), (5, Iv x5), (6, Iv x6), (7, Iv x7), (9, Iv x9)]) F dX11_broken_116 (by decide) rfl ?_
    refine r_iincN (pc := 118) 8 (lf := fun x_2 => [(9, Iv x_2), (8, Iv x_1), (0, Rv 11), (1, Iv x1), (3, Iv x3), (4, Iv x4), (5, Iv x5), (6, Iv x6), (7, Iv x7)]) F dX11_broken_118 rfl (by decide) rfl (fun x_2 ex_2 => ?_)
    have hb := hb x_2 ex_2
    refine r_goto (pc := 121) (tgt := 69) F dX11_broken_121 (by decide) ?_
    exact V.sub [2, 3, 4, 5, 6, 7, 8, 1, 0] rfl (g69 μ x1 x3 x4 x5 x6 x7 x_1 x_2 hb)
  have K114 : ∀ (μ : Mem) (x1 : Int) (x3 : Int) (x4 : Int) (x5 : Int) (x6 : Int) (x7 : Int) (x9 : Int) (s0 : Int), b_X11_broken_114 G45 G55 G69 Post μ x1 x3 x4 x5 x6 x7 x9 s0 → V g X 10 μ [(0, Rv 11), (1, Iv x1), (3, Iv x3), (4, Iv x4), (5, Iv x5), (6, Iv x6), (7, Iv x7), (9, Iv x9)] 114 [Iv s0] := by
    intro μ x1 x3 x4 x5 x6 x7 x9 s0 hb
    unfold b_X11_broken_114 at hb
    refine r_iconst (pc := 114) F dX11_broken_114 (inR_lit rfl) ?_
    exact V.sub [0, 1, 2, 3, 4, 5, 6, 7] rfl (K115 μ x1 x3 x4 x5 x6 x7 x9 s0 0 hb)
  have K158 : ∀ (μ : Mem) (x1 : Int) (x3 : Int) (x4 : Int) (x5 : Int) (x6 : Int) (x7 : Int), b_X11_broken_158 G45 G55 G69 Post μ x1 x3 x4 x5 x6 x7 → V g X 10 μ [(0, Rv 11), (1, Iv x1), (3, Iv x3), (4, Iv x4), (5, Iv x5), (6, Iv x6), (7, Iv x7)] 158 [] := by
    intro μ x1 x3 x4 x5 x6 x7 hb
    unfold b_X11_broken_158 at hb
    refine r_iincN (pc := 158) 6 (lf := fun x_3 => [(7, Iv x_3), (0, Rv 11), (1, Iv x1), (3, Iv x3), (4, Iv x4), (5, Iv x5), (6, Iv x6)]) F dX11_broken_158 rfl (by decide) rfl (fun x_3 ex_3 => ?_)
    have hb := hb x_3 ex_3
    refine r_goto (pc := 161) (tgt := 55) F dX11_broken_161 (by decide) ?_
    exact V.sub [1, 2, 3, 4, 5, 6, 0] rfl (g55 μ x1 x3 x4 x5 x6 x_3 hb)
  have K45 : ∀ (μ : Mem) (x1 : Int) (x3 : Int) (x4 : Int) (x5 : Int) (x6 : Int), b_X11_broken_45 G45 G55 G69 Post μ x1 x3 x4 x5 x6 → V g X 10 μ [(0, Rv 11), (1, Iv x1), (3, Iv x3), (4, Iv x4), (5, Iv x5), (6, Iv x6)] 45 [] := by
    intro μ x1 x3 x4 x5 x6 hb
    unfold b_X11_broken_45 at hb
    refine r_iload (pc := 45) 5 F dX11_broken_45 rfl ?_
    refine r_bipush (pc := 47) F dX11_broken_47 (inR_lit rfl) (by decide) ?_
    refine r_icmp_ge (pc := 49) (tgt := 170) F dX11_broken_49 (by decide) (fun c_4 => ?_) (fun c_4 => ?_)
    · have hb := hb.1 c_4
      refine r_iload_n (pc := 170) 1 F dX11_broken_170 rfl rfl ?_
      refine r_iconst (pc := 171) F dX11_broken_171 (inR_lit rfl) ?_
      refine r_icmp_ne (pc := 172) (tgt := 180) F dX11_broken_172 (by decide) (fun c_5 => ?_) (fun c_5 => ?_)
      · have hb := hb.1 c_5
        refine r_iload (pc := 180) 4 F dX11_broken_180 rfl ?_
        exact r_iret (pc := 182) F hR hr dX11_broken_182 hb
      · have hb := hb.2 c_5
        refine r_iload (pc := 175) 3 F dX11_broken_175 rfl ?_
        refine r_goto (pc := 177) (tgt := 182) F dX11_broken_177 (by decide) ?_
        exact r_iret (pc := 182) F hR hr dX11_broken_182 hb
    · have hb := hb.2 c_4
      refine r_iconst (pc := 52) F dX11_broken_52 (inR_lit rfl) ?_
      refine r_istore (pc := 53) (lv' := [(7, Iv 0), (0, Rv 11), (1, Iv x1), (3, Iv x3), (4, Iv x4), (5, Iv x5), (6, Iv x6)]) F dX11_broken_53 (by decide) rfl ?_
      exact V.sub [1, 2, 3, 4, 5, 6, 0] rfl (g55 μ x1 x3 x4 x5 x6 0 hb)
  have K55 : ∀ (μ : Mem) (x1 : Int) (x3 : Int) (x4 : Int) (x5 : Int) (x6 : Int) (x7 : Int), b_X11_broken_55 G45 G55 G69 Post μ x1 x3 x4 x5 x6 x7 → V g X 10 μ [(0, Rv 11), (1, Iv x1), (3, Iv x3), (4, Iv x4), (5, Iv x5), (6, Iv x6), (7, Iv x7)] 55 [] := by
    intro μ x1 x3 x4 x5 x6 x7 hb
    unfold b_X11_broken_55 at hb
    refine r_iload (pc := 55) 6 F dX11_broken_55 rfl ?_
    refine r_sipush (pc := 57) F dX11_broken_57 (inR_lit rfl) (by decide) ?_
    refine r_icmp_gt (pc := 60) (tgt := 164) F dX11_broken_60 (by decide) (fun c_6 => ?_) (fun c_6 => ?_)
    · have hb := hb.1 c_6
      refine r_iincN (pc := 164) 5 (lf := fun x_7 => [(6, Iv x_7), (0, Rv 11), (1, Iv x1), (3, Iv x3), (4, Iv x4), (5, Iv x5), (7, Iv x7)]) F dX11_broken_164 rfl (by decide) rfl (fun x_7 ex_7 => ?_)
      have hb := hb x_7 ex_7
      refine r_goto (pc := 167) (tgt := 45) F dX11_broken_167 (by decide) ?_
      exact V.sub [1, 2, 3, 4, 5, 0] rfl (g45 μ x1 x3 x4 x5 x_7 hb)
    · have hb := hb.2 c_6
      refine r_iconst (pc := 63) F dX11_broken_63 (inR_lit rfl) ?_
      refine r_istore (pc := 64) (lv' := [(8, Iv 0), (0, Rv 11), (1, Iv x1), (3, Iv x3), (4, Iv x4), (5, Iv x5), (6, Iv x6), (7, Iv x7)]) F dX11_broken_64 (by decide) rfl ?_
      refine r_iconst (pc := 66) F dX11_broken_66 (inR_lit rfl) ?_
      refine r_istore (pc := 67) (lv' := [(9, Iv 0), (8, Iv 0), (0, Rv 11), (1, Iv x1), (3, Iv x3), (4, Iv x4), (5, Iv x5), (6, Iv x6), (7, Iv x7)]) F dX11_broken_67 (by decide) rfl ?_
      exact V.sub [2, 3, 4, 5, 6, 7, 8, 1, 0] rfl (g69 μ x1 x3 x4 x5 x6 x7 0 0 hb)
  have K69 : ∀ (μ : Mem) (x1 : Int) (x3 : Int) (x4 : Int) (x5 : Int) (x6 : Int) (x7 : Int) (x8 : Int) (x9 : Int), b_X11_broken_69 G45 G55 G69 Post μ x1 x3 x4 x5 x6 x7 x8 x9 → V g X 10 μ [(0, Rv 11), (1, Iv x1), (3, Iv x3), (4, Iv x4), (5, Iv x5), (6, Iv x6), (7, Iv x7), (8, Iv x8), (9, Iv x9)] 69 [] := by
    intro μ x1 x3 x4 x5 x6 x7 x8 x9 hb
    unfold b_X11_broken_69 at hb
    refine r_iload (pc := 69) 8 F dX11_broken_69 rfl ?_
    refine r_aload_n (pc := 71) 0 F dX11_broken_71 rfl rfl ?_
    refine gf_RX11_83 (pc := 72) F dX11_broken_72 ?_
    refine r_icmp_ge (pc := 75) (tgt := 124) F dX11_broken_75 (by decide) (fun c_8 => ?_) (fun c_8 => ?_)
    · have hb := hb.1 c_8
      refine r_iload (pc := 124) 7 F dX11_broken_124 rfl ?_
      refine r_if_le (pc := 126) (tgt := 158) F dX11_broken_126 (by decide) (fun c_9 => ?_) (fun c_9 => ?_)
      · have hb := hb.1 c_9
        exact V.sub [0, 1, 2, 3, 4, 5, 6] rfl (K158 μ x1 x3 x4 x5 x6 x7 hb)
      · have hb := hb.2 c_9
        refine r_iload (pc := 129) 5 F dX11_broken_129 rfl ?_
        refine r_iload (pc := 131) 7 F dX11_broken_131 rfl ?_
        refine r_iadd (pc := 133) F dX11_broken_133 ?_
        refine r_iload (pc := 134) 6 F dX11_broken_134 rfl ?_
        refine r_isub (pc := 136) F dX11_broken_136 ?_
        refine r_iload_n (pc := 137) 2 F dX11_broken_137 rfl rfl ?_
        refine r_icmp_le (pc := 138) (tgt := 158) F dX11_broken_138 (by decide) (fun c_10 => ?_) (fun c_10 => ?_)
        · have hb := hb.1 c_10
          exact V.sub [0, 1, 2, 3, 4, 5, 6] rfl (K158 μ x1 x3 x4 x5 x6 x7 hb)
        · have hb := hb.2 c_10
          refine r_iload (pc := 141) 5 F dX11_broken_141 rfl ?_
          refine r_iload (pc := 143) 7 F dX11_broken_143 rfl ?_
          refine r_iadd (pc := 145) F dX11_broken_145 ?_
          refine r_iload (pc := 146) 6 F dX11_broken_146 rfl ?_
          refine r_isub (pc := 148) F dX11_broken_148 ?_
          refine V.nmI (fun x_11 ex_11 => ?_)
          have hb := hb x_11 ex_11
          refine r_istore_n (pc := 149) (lv' := [(3, Iv x_11), (0, Rv 11), (1, Iv x1), (4, Iv x4), (5, Iv x5), (6, Iv x6), (7, Iv x7), (8, Iv x8), (9, Iv x9)]) F dX11_broken_149 rfl (by decide) rfl ?_
          refine r_iload (pc := 150) 5 F dX11_broken_150 rfl ?_
          refine r_istore (pc := 152) (lv' := [(4, Iv x6), (3, Iv x_11), (0, Rv 11), (1, Iv x1), (5, Iv x5), (6, Iv x6), (7, Iv x7), (8, Iv x8), (9, Iv x9)]) F dX11_broken_152 (by decide) rfl ?_
          refine r_iload (pc := 154) 6 F dX11_broken_154 rfl ?_
          refine r_istore (pc := 156) (lv' := [(5, Iv x7), (4, Iv x6), (3, Iv x_11), (0, Rv 11), (1, Iv x1), (6, Iv x6), (7, Iv x7), (8, Iv x8), (9, Iv x9)]) F dX11_broken_156 (by decide) rfl ?_
          exact V.sub [3, 4, 2, 1, 0, 5, 6] rfl (K158 μ x1 x_11 x6 x7 x6 x7 hb)
    · have hb := hb.2 c_8
      refine r_iload (pc := 78) 7 F dX11_broken_78 rfl ?_
      refine r_aload_n (pc := 80) 0 F dX11_broken_80 rfl rfl ?_
      refine gf_RX11_13 (pc := 81) F dX11_broken_81 ?_
      refine r_iload (pc := 84) 8 F dX11_broken_84 rfl ?_
      have hg_12 := hb.1
      have hb := hb.2
      refine r_iald (pc := 86) F lc91.1 lc91.2.1 lc91.2.2 hg_12 dX11_broken_86 ?_
      refine r_iload (pc := 87) 5 F dX11_broken_87 rfl ?_
      refine r_icmp_lt (pc := 89) (tgt := 114) F dX11_broken_89 (by decide) (fun c_13 => ?_) (fun c_13 => ?_)
      · have hb := hb.1 c_13
        exact V.sub [0, 1, 2, 3, 4, 5, 6, 8] rfl (K114 μ x1 x3 x4 x5 x6 x7 x9 x8 hb)
      · have hb := hb.2 c_13
        refine r_aload_n (pc := 92) 0 F dX11_broken_92 rfl rfl ?_
        refine gf_RX11_16 (pc := 93) F dX11_broken_93 ?_
        refine r_iload (pc := 96) 8 F dX11_broken_96 rfl ?_
        have hg_14 := hb.1
        have hb := hb.2
        refine r_iald (pc := 98) F lc92.1 lc92.2.1 lc92.2.2 hg_14 dX11_broken_98 ?_
        refine r_iload (pc := 99) 6 F dX11_broken_99 rfl ?_
        refine r_icmp_gt (pc := 101) (tgt := 114) F dX11_broken_101 (by decide) (fun c_15 => ?_) (fun c_15 => ?_)
        · have hb := hb.1 c_15
          exact V.sub [0, 1, 2, 3, 4, 5, 6, 8] rfl (K114 μ x1 x3 x4 x5 x6 x7 x9 x8 hb)
        · have hb := hb.2 c_15
          refine r_aload_n (pc := 104) 0 F dX11_broken_104 rfl rfl ?_
          refine gf_RX11_7 (pc := 105) F dX11_broken_105 ?_
          refine r_iload (pc := 108) 8 F dX11_broken_108 rfl ?_
          have hg_16 := hb.1
          have hb := hb.2
          refine r_iald (pc := 110) F lc90.1 lc90.2.1 lc90.2.2 hg_16 dX11_broken_110 ?_
          refine r_goto (pc := 111) (tgt := 115) F dX11_broken_111 (by decide) ?_
          exact V.sub [0, 1, 2, 3, 4, 5, 6, 8] rfl (K115 μ x1 x3 x4 x5 x6 x7 x9 x8 (μ 90 x9.toNat) hb)
  have hb := hb G45 G55 G69 (fun μ x1 x3 x4 x5 x6 hb => f45 μ x1 x3 x4 x5 x6 (K45 μ x1 x3 x4 x5 x6 hb)) (fun μ x1 x3 x4 x5 x6 x7 hb => f55 μ x1 x3 x4 x5 x6 x7 (K55 μ x1 x3 x4 x5 x6 x7 hb)) (fun μ x1 x3 x4 x5 x6 x7 x8 x9 hb => f69 μ x1 x3 x4 x5 x6 x7 x8 x9 (K69 μ x1 x3 x4 x5 x6 x7 x8 x9 hb))
  unfold b_X11_broken_e at hb
  refine r_iload_n (pc := 0) 1 F dX11_broken_0 rfl rfl ?_
  refine r_i2l (pc := 1) F dX11_broken_1 ?_
  refine r_lconst (pc := 2) (x := 0) F dX11_broken_2 (inRL_lit rfl) (by decide) ?_
  refine r_ldc2 (pc := 3) F kl_RX11_104 (x := 2) (by decide) (inRL_lit rfl) dX11_broken_3 ?_
  refine r_callSI (pc := 6) (avs := [Lv p0, Lv 0, Lv 2]) (st := []) F (c_X11_in μ p0 0 2 _ hb) (by decide) cal_X11_in st_X11_in lk_RX11_86 rfl rfl (Nat.le_of_ble_eq_true rfl) dX11_broken_6 (fun r_17 μ_18 hb => ?_)
  refine r_if_ne (pc := 9) (tgt := 15) F dX11_broken_9 (by decide) (fun c_19 => ?_) (fun c_19 => ?_)
  · have hb := hb.1 c_19
    refine r_aload_n (pc := 15) 0 F dX11_broken_15 rfl rfl ?_
    refine r_callI (pc := 16) (avs := []) (st := []) F (c_X11_goBroken μ_18 _ hb) (by decide) cal_X11_goBroken calv_X11_goBroken lk_RX11_145 rfl rfl (Nat.le_of_ble_eq_true rfl) dX11_broken_16 (fun r_20 μ_21 hb => ?_)
    refine r_istore_n (pc := 19) (lv' := [(2, Iv r_20), (0, Rv 11), (1, Iv p0)]) F dX11_broken_19 rfl (by decide) rfl ?_
    refine r_iload_n (pc := 20) 2 F dX11_broken_20 rfl rfl ?_
    refine r_if_ne (pc := 21) (tgt := 26) F dX11_broken_21 (by decide) (fun c_22 => ?_) (fun c_22 => ?_)
    · have hb := hb.1 c_22
      refine r_iload_n (pc := 26) 0 F dX11_broken_26 rfl rfl ?_
      refine r_if_ne (pc := 27) (tgt := 32) F dX11_broken_27 (by decide) (fun c_23 => ?_) (fun c_23 => ?_)
      · have hb := hb.1 c_23
        refine r_sipush (pc := 32) F dX11_broken_32 (inR_lit rfl) (by decide) ?_
        refine r_istore_n (pc := 35) (lv' := [(3, Iv (-1000)), (2, Iv r_20), (0, Rv 11), (1, Iv p0)]) F dX11_broken_35 rfl (by decide) rfl ?_
        refine r_iconst (pc := 36) F dX11_broken_36 (inR_lit rfl) ?_
        refine r_istore (pc := 37) (lv' := [(4, Iv (-1)), (3, Iv (-1000)), (2, Iv r_20), (0, Rv 11), (1, Iv p0)]) F dX11_broken_37 (by decide) rfl ?_
        refine r_iconst (pc := 39) F dX11_broken_39 (inR_lit rfl) ?_
        refine r_istore (pc := 40) (lv' := [(5, Iv (-1)), (4, Iv (-1)), (3, Iv (-1000)), (2, Iv r_20), (0, Rv 11), (1, Iv p0)]) F dX11_broken_40 (by decide) rfl ?_
        refine r_iconst (pc := 42) F dX11_broken_42 (inR_lit rfl) ?_
        refine r_istore (pc := 43) (lv' := [(6, Iv 0), (5, Iv (-1)), (4, Iv (-1)), (3, Iv (-1000)), (2, Iv r_20), (0, Rv 11), (1, Iv p0)]) F dX11_broken_43 (by decide) rfl ?_
        exact V.sub [5, 6, 3, 2, 1, 0] rfl (g45 μ_21 p0 (-1000) (-1) (-1) 0 hb)
      · have hb := hb.2 c_23
        refine r_iconst (pc := 30) F dX11_broken_30 (inR_lit rfl) ?_
        exact r_iret (pc := 31) F hR hr dX11_broken_31 hb
    · have hb := hb.2 c_22
      refine r_iload_n (pc := 24) 0 F dX11_broken_24 rfl rfl ?_
      exact r_iret (pc := 25) F hR hr dX11_broken_25 hb
  · have hb := hb.2 c_19
    refine r_bipush (pc := 12) F dX11_broken_12 (inR_lit rfl) (by decide) ?_
    exact r_iret (pc := 14) F hR hr dX11_broken_14 hb
set_option maxHeartbeats 4000000 in
set_option maxRecDepth 100000 in
theorem c_X11_byDue {g : Wc} {l : Launch} (μ : Mem) (Post : Pst) (hb : wp_X11_byDue μ Post) : MtC g l yX11_byDue cX11_byDue 3 none 1 [Rv 11] μ (QV g Post) := by
  intro hok
  refine enter (own := RX11) (by decide) rfl (Nat.le_of_ble_eq_true rfl) hok (fun X hl F hr hR => ?_)
  subst hl
  show V g X 3 μ [(0, Rv 11)] 0 []
  unfold wp_X11_byDue at hb
  obtain ⟨G6, g6, f6⟩ : ∃ G : Mem → Int → Prop, (∀ μ x1, G μ x1 → V g X 3 μ [(0, Rv 11), (1, Iv x1)] 6 []) ∧ (∀ μ x1, V g X 3 μ [(0, Rv 11), (1, Iv x1)] 6 [] → G μ x1) := ⟨fun μ x1 => V g X 3 μ [(0, Rv 11), (1, Iv x1)] 6 [], fun _ _ h => h, fun _ _ h => h⟩
  obtain ⟨G16, g16, f16⟩ : ∃ G : Mem → Int → Int → Prop, (∀ μ x1 x2, G μ x1 x2 → V g X 3 μ [(0, Rv 11), (1, Iv x1), (2, Iv x2)] 16 []) ∧ (∀ μ x1 x2, V g X 3 μ [(0, Rv 11), (1, Iv x1), (2, Iv x2)] 16 [] → G μ x1 x2) := ⟨fun μ x1 x2 => V g X 3 μ [(0, Rv 11), (1, Iv x1), (2, Iv x2)] 16 [], fun _ _ _ h => h, fun _ _ _ h => h⟩
  have K61 : ∀ (μ : Mem) (x1 : Int) (x2 : Int), b_X11_byDue_61 G6 G16 Post μ x1 x2 → V g X 3 μ [(0, Rv 11), (1, Iv x1), (2, Iv x2)] 61 [] := by
    intro μ x1 x2 hb
    unfold b_X11_byDue_61 at hb
    refine r_iincN (pc := 61) 2 (lf := fun x_1 => [(2, Iv x_1), (0, Rv 11), (1, Iv x1)]) F dX11_byDue_61 rfl (by decide) rfl (fun x_1 ex_1 => ?_)
    have hb := hb x_1 ex_1
    refine r_goto (pc := 64) (tgt := 16) F dX11_byDue_64 (by decide) ?_
    exact V.sub [1, 2, 0] rfl (g16 μ x1 x_1 hb)
  have K6 : ∀ (μ : Mem) (x1 : Int), b_X11_byDue_6 G6 G16 Post μ x1 → V g X 3 μ [(0, Rv 11), (1, Iv x1)] 6 [] := by
    intro μ x1 hb
    unfold b_X11_byDue_6 at hb
    refine r_iload_n (pc := 6) 1 F dX11_byDue_6 rfl rfl ?_
    refine r_aload_n (pc := 7) 0 F dX11_byDue_7 rfl rfl ?_
    refine gf_RX11_83 (pc := 8) F dX11_byDue_8 ?_
    refine r_icmp_ge (pc := 11) (tgt := 73) F dX11_byDue_11 (by decide) (fun c_2 => ?_) (fun c_2 => ?_)
    · have hb := hb.1 c_2
      exact r_vret (pc := 73) F hR hr dX11_byDue_73 hb
    · have hb := hb.2 c_2
      refine r_iconst (pc := 14) F dX11_byDue_14 (inR_lit rfl) ?_
      refine r_istore_n (pc := 15) (lv' := [(2, Iv 0), (0, Rv 11), (1, Iv x1)]) F dX11_byDue_15 rfl (by decide) rfl ?_
      exact V.sub [1, 2, 0] rfl (g16 μ x1 0 hb)
  have K16 : ∀ (μ : Mem) (x1 : Int) (x2 : Int), b_X11_byDue_16 G6 G16 Post μ x1 x2 → V g X 3 μ [(0, Rv 11), (1, Iv x1), (2, Iv x2)] 16 [] := by
    intro μ x1 x2 hb
    unfold b_X11_byDue_16 at hb
    refine r_iload_n (pc := 16) 2 F dX11_byDue_16 rfl rfl ?_
    refine r_iconst (pc := 17) F dX11_byDue_17 (inR_lit rfl) ?_
    refine r_iadd (pc := 18) F dX11_byDue_18 ?_
    refine r_aload_n (pc := 19) 0 F dX11_byDue_19 rfl rfl ?_
    refine gf_RX11_83 (pc := 20) F dX11_byDue_20 ?_
    refine r_icmp_ge (pc := 23) (tgt := 67) F dX11_byDue_23 (by decide) (fun c_3 => ?_) (fun c_3 => ?_)
    · have hb := hb.1 c_3
      refine r_iincN (pc := 67) 1 (lf := fun x_4 => [(1, Iv x_4), (0, Rv 11), (2, Iv x2)]) F dX11_byDue_67 rfl (by decide) rfl (fun x_4 ex_4 => ?_)
      have hb := hb x_4 ex_4
      refine r_goto (pc := 70) (tgt := 6) F dX11_byDue_70 (by decide) ?_
      exact V.sub [1, 0] rfl (g6 μ x_4 hb)
    · have hb := hb.2 c_3
      refine r_aload_n (pc := 26) 0 F dX11_byDue_26 rfl rfl ?_
      refine gf_RX11_16 (pc := 27) F dX11_byDue_27 ?_
      refine r_aload_n (pc := 30) 0 F dX11_byDue_30 rfl rfl ?_
      refine gf_RX11_56 (pc := 31) F dX11_byDue_31 ?_
      refine r_iload_n (pc := 34) 2 F dX11_byDue_34 rfl rfl ?_
      have hg_5 := hb.1
      have hb := hb.2
      refine r_iald (pc := 35) F lc103.1 lc103.2.1 lc103.2.2 hg_5 dX11_byDue_35 ?_
      have hg_6 := hb.1
      have hb := hb.2
      refine r_iald (pc := 36) F lc92.1 lc92.2.1 lc92.2.2 hg_6 dX11_byDue_36 ?_
      refine r_aload_n (pc := 37) 0 F dX11_byDue_37 rfl rfl ?_
      refine gf_RX11_16 (pc := 38) F dX11_byDue_38 ?_
      refine r_aload_n (pc := 41) 0 F dX11_byDue_41 rfl rfl ?_
      refine gf_RX11_56 (pc := 42) F dX11_byDue_42 ?_
      refine r_iload_n (pc := 45) 2 F dX11_byDue_45 rfl rfl ?_
      refine r_iconst (pc := 46) F dX11_byDue_46 (inR_lit rfl) ?_
      refine r_iadd (pc := 47) F dX11_byDue_47 ?_
      have hg_7 := hb.1
      have hb := hb.2
      refine r_iald (pc := 48) F lc103.1 lc103.2.1 lc103.2.2 hg_7 dX11_byDue_48 ?_
      have hg_8 := hb.1
      have hb := hb.2
      refine r_iald (pc := 49) F lc92.1 lc92.2.1 lc92.2.2 hg_8 dX11_byDue_49 ?_
      refine r_icmp_le (pc := 50) (tgt := 61) F dX11_byDue_50 (by decide) (fun c_9 => ?_) (fun c_9 => ?_)
      · have hb := hb.1 c_9
        exact V.sub [0, 1, 2] rfl (K61 μ x1 x2 hb)
      · have hb := hb.2 c_9
        refine r_aload_n (pc := 53) 0 F dX11_byDue_53 rfl rfl ?_
        refine r_iload_n (pc := 54) 2 F dX11_byDue_54 rfl rfl ?_
        refine r_iload_n (pc := 55) 2 F dX11_byDue_55 rfl rfl ?_
        refine r_iconst (pc := 56) F dX11_byDue_56 (inR_lit rfl) ?_
        refine r_iadd (pc := 57) F dX11_byDue_57 ?_
        refine r_callV (pc := 58) (avs := [Iv x2, Iv (wrap (x2 + 1))]) (st := []) F (c_X11_swap μ x2 (wrap (x2 + 1)) _ hb) (by decide) cal_X11_swap calv_X11_swap lk_RX11_113 rfl rfl (Nat.le_of_ble_eq_true rfl) dX11_byDue_58 (fun μ_11 hb => ?_)
        exact V.sub [0, 1, 2] rfl (K61 μ_11 x1 x2 hb)
  have hb := hb G6 G16 (fun μ x1 hb => f6 μ x1 (K6 μ x1 hb)) (fun μ x1 x2 hb => f16 μ x1 x2 (K16 μ x1 x2 hb))
  unfold b_X11_byDue_e at hb
  refine r_aload_n (pc := 0) 0 F dX11_byDue_0 rfl rfl ?_
  refine r_callV (pc := 1) (avs := []) (st := []) F (c_X11_firstOrder μ _ hb) (by decide) cal_X11_firstOrder calv_X11_firstOrder lk_RX11_117 rfl rfl (Nat.le_of_ble_eq_true rfl) dX11_byDue_1 (fun μ_13 hb => ?_)
  refine r_iconst (pc := 4) F dX11_byDue_4 (inR_lit rfl) ?_
  refine r_istore_n (pc := 5) (lv' := [(1, Iv 0), (0, Rv 11)]) F dX11_byDue_5 rfl (by decide) rfl ?_
  exact V.sub [1, 0] rfl (g6 μ_13 0 hb)
set_option maxHeartbeats 4000000 in
set_option maxRecDepth 100000 in
theorem c_X11_isSooner {g : Wc} {l : Launch} (μ : Mem) (p0 : Int) (p1 : Int) (Post : Pst) (hb : wp_X11_isSooner μ p0 p1 Post) : MtC g l yX11_isSooner cX11_isSooner 6 (some .boolean) 0 [Rv 11, Iv p0, Iv p1] μ (QI g Post) := by
  intro hok
  refine enter (own := RX11) (by decide) rfl (Nat.le_of_ble_eq_true rfl) hok (fun X hl F hr hR => ?_)
  subst hl
  show V g X 6 μ [(0, Rv 11), (1, Iv p0), (2, Iv p1)] 0 []
  unfold wp_X11_isSooner at hb
  have K108 : ∀ (μ : Mem) (x1 : Int) (x2 : Int) (s0 : Int), b_X11_isSooner_108 Post μ x1 x2 s0 → V g X 6 μ [(1, Iv x1), (2, Iv x2)] 108 [Iv s0] := by
    intro μ x1 x2 s0 hb
    unfold b_X11_isSooner_108 at hb
    refine r_istore (pc := 108) (lv' := [(5, Iv s0), (1, Iv x1), (2, Iv x2)]) F dX11_isSooner_108 (by decide) rfl ?_
    refine r_iload (pc := 110) 0 F dX11_isSooner_110 rfl ?_
    refine r_if_lt (pc := 112) (tgt := 125) F dX11_isSooner_112 (by decide) (fun c_1 => ?_) (fun c_1 => ?_)
    · have hb := hb.1 c_1
      refine r_iconst (pc := 125) F dX11_isSooner_125 (inR_lit rfl) ?_
      refine r_goto (pc := 126) (tgt := 130) F dX11_isSooner_126 (by decide) ?_
      exact r_zret (pc := 130) F hR hr dX11_isSooner_130 (Or.inr rfl) hb
    · have hb := hb.2 c_1
      refine r_iload (pc := 115) 0 F dX11_isSooner_115 rfl ?_
      refine r_if_ne (pc := 117) (tgt := 129) F dX11_isSooner_117 (by decide) (fun c_2 => ?_) (fun c_2 => ?_)
      · have hb := hb.1 c_2
        refine r_iconst (pc := 129) F dX11_isSooner_129 (inR_lit rfl) ?_
        exact r_zret (pc := 130) F hR hr dX11_isSooner_130 (Or.inl rfl) hb
      · have hb := hb.2 c_2
        refine r_iload_n (pc := 120) 1 F dX11_isSooner_120 rfl rfl ?_
        refine r_iload_n (pc := 121) 2 F dX11_isSooner_121 rfl rfl ?_
        refine r_icmp_ge (pc := 122) (tgt := 129) F dX11_isSooner_122 (by decide) (fun c_3 => ?_) (fun c_3 => ?_)
        · have hb := hb.1 c_3
          refine r_iconst (pc := 129) F dX11_isSooner_129 (inR_lit rfl) ?_
          exact r_zret (pc := 130) F hR hr dX11_isSooner_130 (Or.inl rfl) hb
        · have hb := hb.2 c_3
          refine r_iconst (pc := 125) F dX11_isSooner_125 (inR_lit rfl) ?_
          refine r_goto (pc := 126) (tgt := 130) F dX11_isSooner_126 (by decide) ?_
          exact r_zret (pc := 130) F hR hr dX11_isSooner_130 (Or.inr rfl) hb
  have K53 : ∀ (μ : Mem) (x1 : Int) (x2 : Int) (x3 : Int) (s0 : Int), b_X11_isSooner_53 Post μ x1 x2 x3 s0 → V g X 6 μ [(0, Rv 11), (1, Iv x1), (2, Iv x2), (3, Iv x3)] 53 [Iv s0] := by
    intro μ x1 x2 x3 s0 hb
    unfold b_X11_isSooner_53 at hb
    refine r_istore (pc := 53) (lv' := [(4, Iv s0), (0, Rv 11), (1, Iv x1), (2, Iv x2), (3, Iv x3)]) F dX11_isSooner_53 (by decide) rfl ?_
    refine r_iload_n (pc := 55) 4 F dX11_isSooner_55 rfl rfl ?_
    refine r_iload (pc := 56) 0 F dX11_isSooner_56 rfl ?_
    refine r_icmp_eq (pc := 58) (tgt := 63) F dX11_isSooner_58 (by decide) (fun c_4 => ?_) (fun c_4 => ?_)
    · have hb := hb.1 c_4
      refine r_iload_n (pc := 63) 4 F dX11_isSooner_63 rfl rfl ?_
      refine r_if_eq (pc := 64) (tgt := 87) F dX11_isSooner_64 (by decide) (fun c_5 => ?_) (fun c_5 => ?_)
      · have hb := hb.1 c_5
        refine r_aload_n (pc := 87) 1 F dX11_isSooner_87 rfl rfl ?_
        refine gf_RX11_31 (pc := 88) F dX11_isSooner_88 ?_
        refine r_iconst (pc := 91) F dX11_isSooner_91 (inR_lit rfl) ?_
        refine r_iload_n (pc := 92) 3 F dX11_isSooner_92 rfl rfl ?_
        refine r_imul (pc := 93) F dX11_isSooner_93 ?_
        refine r_iconst (pc := 94) F dX11_isSooner_94 (inR_lit rfl) ?_
        refine r_iadd (pc := 95) F dX11_isSooner_95 ?_
        have hg_6 := hb.1
        have hb := hb.2
        refine r_iald (pc := 96) F lc97.1 lc97.2.1 lc97.2.2 hg_6 dX11_isSooner_96 ?_
        refine r_aload_n (pc := 97) 1 F dX11_isSooner_97 rfl rfl ?_
        refine gf_RX11_31 (pc := 98) F dX11_isSooner_98 ?_
        refine r_iconst (pc := 101) F dX11_isSooner_101 (inR_lit rfl) ?_
        refine r_iload_n (pc := 102) 2 F dX11_isSooner_102 rfl rfl ?_
        refine r_imul (pc := 103) F dX11_isSooner_103 ?_
        refine r_iconst (pc := 104) F dX11_isSooner_104 (inR_lit rfl) ?_
        refine r_iadd (pc := 105) F dX11_isSooner_105 ?_
        have hg_7 := hb.1
        have hb := hb.2
        refine r_iald (pc := 106) F lc97.1 lc97.2.1 lc97.2.2 hg_7 dX11_isSooner_106 ?_
        refine r_isub (pc := 107) F dX11_isSooner_107 ?_
        exact V.sub [2, 3] rfl (K108 μ x1 x2 (wrap ((μ 97 (wrap ((wrap (4 * x2)) + 1)).toNat) - (μ 97 (wrap ((wrap (4 * x1)) + 1)).toNat))) hb)
      · have hb := hb.2 c_5
        refine r_aload_n (pc := 67) 1 F dX11_isSooner_67 rfl rfl ?_
        refine gf_RX11_31 (pc := 68) F dX11_isSooner_68 ?_
        refine r_iconst (pc := 71) F dX11_isSooner_71 (inR_lit rfl) ?_
        refine r_iload_n (pc := 72) 2 F dX11_isSooner_72 rfl rfl ?_
        refine r_imul (pc := 73) F dX11_isSooner_73 ?_
        have hg_8 := hb.1
        have hb := hb.2
        refine r_iald (pc := 74) F lc97.1 lc97.2.1 lc97.2.2 hg_8 dX11_isSooner_74 ?_
        refine r_aload_n (pc := 75) 1 F dX11_isSooner_75 rfl rfl ?_
        refine gf_RX11_31 (pc := 76) F dX11_isSooner_76 ?_
        refine r_iconst (pc := 79) F dX11_isSooner_79 (inR_lit rfl) ?_
        refine r_iload_n (pc := 80) 3 F dX11_isSooner_80 rfl rfl ?_
        refine r_imul (pc := 81) F dX11_isSooner_81 ?_
        have hg_9 := hb.1
        have hb := hb.2
        refine r_iald (pc := 82) F lc97.1 lc97.2.1 lc97.2.2 hg_9 dX11_isSooner_82 ?_
        refine r_isub (pc := 83) F dX11_isSooner_83 ?_
        refine r_goto (pc := 84) (tgt := 108) F dX11_isSooner_84 (by decide) ?_
        exact V.sub [2, 3] rfl (K108 μ x1 x2 (wrap ((μ 97 (wrap (4 * x1)).toNat) - (μ 97 (wrap (4 * x2)).toNat))) hb)
    · have hb := hb.2 c_4
      refine r_iload_n (pc := 61) 4 F dX11_isSooner_61 rfl rfl ?_
      exact r_zret (pc := 62) F hR hr dX11_isSooner_62 hb.1 hb.2
  have K26 : ∀ (μ : Mem) (x1 : Int) (x2 : Int) (s0 : Int), b_X11_isSooner_26 Post μ x1 x2 s0 → V g X 6 μ [(0, Rv 11), (1, Iv x1), (2, Iv x2)] 26 [Iv s0] := by
    intro μ x1 x2 s0 hb
    unfold b_X11_isSooner_26 at hb
    refine r_istore_n (pc := 26) (lv' := [(3, Iv s0), (0, Rv 11), (1, Iv x1), (2, Iv x2)]) F dX11_isSooner_26 rfl (by decide) rfl ?_
    refine r_aload_n (pc := 27) 1 F dX11_isSooner_27 rfl rfl ?_
    refine gf_RX11_31 (pc := 28) F dX11_isSooner_28 ?_
    refine r_iconst (pc := 31) F dX11_isSooner_31 (inR_lit rfl) ?_
    refine r_iload_n (pc := 32) 3 F dX11_isSooner_32 rfl rfl ?_
    refine r_imul (pc := 33) F dX11_isSooner_33 ?_
    have hg_10 := hb.1
    have hb := hb.2
    refine r_iald (pc := 34) F lc97.1 lc97.2.1 lc97.2.2 hg_10 dX11_isSooner_34 ?_
    refine r_aload_n (pc := 35) 1 F dX11_isSooner_35 rfl rfl ?_
    refine gf_RX11_31 (pc := 36) F dX11_isSooner_36 ?_
    refine r_iconst (pc := 39) F dX11_isSooner_39 (inR_lit rfl) ?_
    refine r_iload_n (pc := 40) 3 F dX11_isSooner_40 rfl rfl ?_
    refine r_imul (pc := 41) F dX11_isSooner_41 ?_
    refine r_iconst (pc := 42) F dX11_isSooner_42 (inR_lit rfl) ?_
    refine r_iadd (pc := 43) F dX11_isSooner_43 ?_
    have hg_11 := hb.1
    have hb := hb.2
    refine r_iald (pc := 44) F lc97.1 lc97.2.1 lc97.2.2 hg_11 dX11_isSooner_44 ?_
    refine r_icmp_ge (pc := 45) (tgt := 52) F dX11_isSooner_45 (by decide) (fun c_12 => ?_) (fun c_12 => ?_)
    · have hb := hb.1 c_12
      refine r_iconst (pc := 52) F dX11_isSooner_52 (inR_lit rfl) ?_
      exact V.sub [1, 2, 3, 0] rfl (K53 μ x1 x2 s0 0 hb)
    · have hb := hb.2 c_12
      refine r_iconst (pc := 48) F dX11_isSooner_48 (inR_lit rfl) ?_
      refine r_goto (pc := 49) (tgt := 53) F dX11_isSooner_49 (by decide) ?_
      exact V.sub [1, 2, 3, 0] rfl (K53 μ x1 x2 s0 1 hb)
  have hb := hb
  unfold b_X11_isSooner_e at hb
  refine r_aload_n (pc := 0) 0 F dX11_isSooner_0 rfl rfl ?_
  refine gf_RX11_31 (pc := 1) F dX11_isSooner_1 ?_
  refine r_iconst (pc := 4) F dX11_isSooner_4 (inR_lit rfl) ?_
  refine r_iload_n (pc := 5) 1 F dX11_isSooner_5 rfl rfl ?_
  refine r_imul (pc := 6) F dX11_isSooner_6 ?_
  have hg_13 := hb.1
  have hb := hb.2
  refine r_iald (pc := 7) F lc97.1 lc97.2.1 lc97.2.2 hg_13 dX11_isSooner_7 ?_
  refine r_aload_n (pc := 8) 0 F dX11_isSooner_8 rfl rfl ?_
  refine gf_RX11_31 (pc := 9) F dX11_isSooner_9 ?_
  refine r_iconst (pc := 12) F dX11_isSooner_12 (inR_lit rfl) ?_
  refine r_iload_n (pc := 13) 1 F dX11_isSooner_13 rfl rfl ?_
  refine r_imul (pc := 14) F dX11_isSooner_14 ?_
  refine r_iconst (pc := 15) F dX11_isSooner_15 (inR_lit rfl) ?_
  refine r_iadd (pc := 16) F dX11_isSooner_16 ?_
  have hg_14 := hb.1
  have hb := hb.2
  refine r_iald (pc := 17) F lc97.1 lc97.2.1 lc97.2.2 hg_14 dX11_isSooner_17 ?_
  refine r_icmp_ge (pc := 18) (tgt := 25) F dX11_isSooner_18 (by decide) (fun c_15 => ?_) (fun c_15 => ?_)
  · have hb := hb.1 c_15
    refine r_iconst (pc := 25) F dX11_isSooner_25 (inR_lit rfl) ?_
    exact V.sub [0, 1, 2] rfl (K26 μ p0 p1 0 hb)
  · have hb := hb.2 c_15
    refine r_iconst (pc := 21) F dX11_isSooner_21 (inR_lit rfl) ?_
    refine r_goto (pc := 22) (tgt := 26) F dX11_isSooner_22 (by decide) ?_
    exact V.sub [0, 1, 2] rfl (K26 μ p0 p1 1 hb)
set_option maxHeartbeats 4000000 in
set_option maxRecDepth 100000 in
theorem c_X11_byRule {g : Wc} {l : Launch} (μ : Mem) (p0 : Int) (Post : Pst) (hb : wp_X11_byRule μ p0 Post) : MtC g l yX11_byRule cX11_byRule 4 (some .int) 2 [Rv 11, Iv p0] μ (QI g Post) := by
  intro hok
  refine enter (own := RX11) (by decide) rfl (Nat.le_of_ble_eq_true rfl) hok (fun X hl F hr hR => ?_)
  subst hl
  show V g X 4 μ [(0, Rv 11), (1, Iv p0)] 0 []
  unfold wp_X11_byRule at hb
  obtain ⟨G17, g17, f17⟩ : ∃ G : Mem → Int → Int → Prop, (∀ μ x1 x2, G μ x1 x2 → V g X 4 μ [(0, Rv 11), (1, Iv x1), (2, Iv x2)] 17 []) ∧ (∀ μ x1 x2, V g X 4 μ [(0, Rv 11), (1, Iv x1), (2, Iv x2)] 17 [] → G μ x1 x2) := ⟨fun μ x1 x2 => V g X 4 μ [(0, Rv 11), (1, Iv x1), (2, Iv x2)] 17 [], fun _ _ _ h => h, fun _ _ _ h => h⟩
  obtain ⟨G27, g27, f27⟩ : ∃ G : Mem → Int → Int → Int → Prop, (∀ μ x1 x2 x3, G μ x1 x2 x3 → V g X 4 μ [(0, Rv 11), (1, Iv x1), (2, Iv x2), (3, Iv x3)] 27 []) ∧ (∀ μ x1 x2 x3, V g X 4 μ [(0, Rv 11), (1, Iv x1), (2, Iv x2), (3, Iv x3)] 27 [] → G μ x1 x2 x3) := ⟨fun μ x1 x2 x3 => V g X 4 μ [(0, Rv 11), (1, Iv x1), (2, Iv x2), (3, Iv x3)] 27 [], fun _ _ _ _ h => h, fun _ _ _ _ h => h⟩
  have K66 : ∀ (μ : Mem) (x1 : Int) (x2 : Int) (x3 : Int), b_X11_byRule_66 G17 G27 Post μ x1 x2 x3 → V g X 4 μ [(0, Rv 11), (1, Iv x1), (2, Iv x2), (3, Iv x3)] 66 [] := by
    intro μ x1 x2 x3 hb
    unfold b_X11_byRule_66 at hb
    refine r_iincN (pc := 66) 3 (lf := fun x_1 => [(3, Iv x_1), (0, Rv 11), (1, Iv x1), (2, Iv x2)]) F dX11_byRule_66 rfl (by decide) rfl (fun x_1 ex_1 => ?_)
    have hb := hb x_1 ex_1
    refine r_goto (pc := 69) (tgt := 27) F dX11_byRule_69 (by decide) ?_
    exact V.sub [1, 2, 3, 0] rfl (g27 μ x1 x2 x_1 hb)
  have K17 : ∀ (μ : Mem) (x1 : Int) (x2 : Int), b_X11_byRule_17 G17 G27 Post μ x1 x2 → V g X 4 μ [(0, Rv 11), (1, Iv x1), (2, Iv x2)] 17 [] := by
    intro μ x1 x2 hb
    unfold b_X11_byRule_17 at hb
    refine r_iload_n (pc := 17) 2 F dX11_byRule_17 rfl rfl ?_
    refine r_aload_n (pc := 18) 0 F dX11_byRule_18 rfl rfl ?_
    refine gf_RX11_83 (pc := 19) F dX11_byRule_19 ?_
    refine r_icmp_ge (pc := 22) (tgt := 78) F dX11_byRule_22 (by decide) (fun c_2 => ?_) (fun c_2 => ?_)
    · have hb := hb.1 c_2
      refine r_iload_n (pc := 78) 1 F dX11_byRule_78 rfl rfl ?_
      refine r_iconst (pc := 79) F dX11_byRule_79 (inR_lit rfl) ?_
      refine r_icmp_ne (pc := 80) (tgt := 92) F dX11_byRule_80 (by decide) (fun c_3 => ?_) (fun c_3 => ?_)
      · have hb := hb.1 c_3
        refine r_aload_n (pc := 92) 0 F dX11_byRule_92 rfl rfl ?_
        refine gf_RX11_56 (pc := 93) F dX11_byRule_93 ?_
        refine r_iload_n (pc := 96) 1 F dX11_byRule_96 rfl rfl ?_
        have hg_4 := hb.1
        have hb := hb.2
        refine r_iald (pc := 97) F lc103.1 lc103.2.1 lc103.2.2 hg_4 dX11_byRule_97 ?_
        exact r_iret (pc := 98) F hR hr dX11_byRule_98 hb
      · have hb := hb.2 c_3
        refine r_aload_n (pc := 83) 0 F dX11_byRule_83 rfl rfl ?_
        refine r_iconst (pc := 84) F dX11_byRule_84 (inR_lit rfl) ?_
        refine r_iconst (pc := 85) F dX11_byRule_85 (inR_lit rfl) ?_
        refine r_callI (pc := 86) (avs := [Iv 2, Iv 1]) (st := []) F (c_X11_rowEnd μ 2 1 _ hb) (by decide) cal_X11_rowEnd calv_X11_rowEnd lk_RX11_124 rfl rfl (Nat.le_of_ble_eq_true rfl) dX11_byRule_86 (fun r_5 μ_6 hb => ?_)
        refine r_goto (pc := 89) (tgt := 98) F dX11_byRule_89 (by decide) ?_
        exact r_iret (pc := 98) F hR hr dX11_byRule_98 hb
    · have hb := hb.2 c_2
      refine r_iconst (pc := 25) F dX11_byRule_25 (inR_lit rfl) ?_
      refine r_istore_n (pc := 26) (lv' := [(3, Iv 0), (0, Rv 11), (1, Iv x1), (2, Iv x2)]) F dX11_byRule_26 rfl (by decide) rfl ?_
      exact V.sub [1, 2, 3, 0] rfl (g27 μ x1 x2 0 hb)
  have K27 : ∀ (μ : Mem) (x1 : Int) (x2 : Int) (x3 : Int), b_X11_byRule_27 G17 G27 Post μ x1 x2 x3 → V g X 4 μ [(0, Rv 11), (1, Iv x1), (2, Iv x2), (3, Iv x3)] 27 [] := by
    intro μ x1 x2 x3 hb
    unfold b_X11_byRule_27 at hb
    refine r_iload_n (pc := 27) 3 F dX11_byRule_27 rfl rfl ?_
    refine r_iconst (pc := 28) F dX11_byRule_28 (inR_lit rfl) ?_
    refine r_iadd (pc := 29) F dX11_byRule_29 ?_
    refine r_aload_n (pc := 30) 0 F dX11_byRule_30 rfl rfl ?_
    refine gf_RX11_83 (pc := 31) F dX11_byRule_31 ?_
    refine r_icmp_ge (pc := 34) (tgt := 72) F dX11_byRule_34 (by decide) (fun c_7 => ?_) (fun c_7 => ?_)
    · have hb := hb.1 c_7
      refine r_iincN (pc := 72) 2 (lf := fun x_8 => [(2, Iv x_8), (0, Rv 11), (1, Iv x1), (3, Iv x3)]) F dX11_byRule_72 rfl (by decide) rfl (fun x_8 ex_8 => ?_)
      have hb := hb x_8 ex_8
      refine r_goto (pc := 75) (tgt := 17) F dX11_byRule_75 (by decide) ?_
      exact V.sub [1, 2, 0] rfl (g17 μ x1 x_8 hb)
    · have hb := hb.2 c_7
      refine r_aload_n (pc := 37) 0 F dX11_byRule_37 rfl rfl ?_
      refine r_aload_n (pc := 38) 0 F dX11_byRule_38 rfl rfl ?_
      refine gf_RX11_56 (pc := 39) F dX11_byRule_39 ?_
      refine r_iload_n (pc := 42) 3 F dX11_byRule_42 rfl rfl ?_
      refine r_iconst (pc := 43) F dX11_byRule_43 (inR_lit rfl) ?_
      refine r_iadd (pc := 44) F dX11_byRule_44 ?_
      have hg_9 := hb.1
      have hb := hb.2
      refine r_iald (pc := 45) F lc103.1 lc103.2.1 lc103.2.2 hg_9 dX11_byRule_45 ?_
      refine r_aload_n (pc := 46) 0 F dX11_byRule_46 rfl rfl ?_
      refine gf_RX11_56 (pc := 47) F dX11_byRule_47 ?_
      refine r_iload_n (pc := 50) 3 F dX11_byRule_50 rfl rfl ?_
      have hg_10 := hb.1
      have hb := hb.2
      refine r_iald (pc := 51) F lc103.1 lc103.2.1 lc103.2.2 hg_10 dX11_byRule_51 ?_
      refine r_callI (pc := 52) (avs := [Iv (μ 103 (wrap (x3 + 1)).toNat), Iv (μ 103 x3.toNat)]) (st := []) F (c_X11_isSooner μ (μ 103 (wrap (x3 + 1)).toNat) (μ 103 x3.toNat) _ hb) (by decide) cal_X11_isSooner calv_X11_isSooner lk_RX11_164 rfl rfl (Nat.le_of_ble_eq_true rfl) dX11_byRule_52 (fun r_11 μ_12 hb => ?_)
      refine r_if_eq (pc := 55) (tgt := 66) F dX11_byRule_55 (by decide) (fun c_13 => ?_) (fun c_13 => ?_)
      · have hb := hb.1 c_13
        exact V.sub [0, 1, 2, 3] rfl (K66 μ_12 x1 x2 x3 hb)
      · have hb := hb.2 c_13
        refine r_aload_n (pc := 58) 0 F dX11_byRule_58 rfl rfl ?_
        refine r_iload_n (pc := 59) 3 F dX11_byRule_59 rfl rfl ?_
        refine r_iload_n (pc := 60) 3 F dX11_byRule_60 rfl rfl ?_
        refine r_iconst (pc := 61) F dX11_byRule_61 (inR_lit rfl) ?_
        refine r_iadd (pc := 62) F dX11_byRule_62 ?_
        refine r_callV (pc := 63) (avs := [Iv x3, Iv (wrap (x3 + 1))]) (st := []) F (c_X11_swap μ_12 x3 (wrap (x3 + 1)) _ hb) (by decide) cal_X11_swap calv_X11_swap lk_RX11_113 rfl rfl (Nat.le_of_ble_eq_true rfl) dX11_byRule_63 (fun μ_15 hb => ?_)
        exact V.sub [0, 1, 2, 3] rfl (K66 μ_15 x1 x2 x3 hb)
  have hb := hb G17 G27 (fun μ x1 x2 hb => f17 μ x1 x2 (K17 μ x1 x2 hb)) (fun μ x1 x2 x3 hb => f27 μ x1 x2 x3 (K27 μ x1 x2 x3 hb))
  unfold b_X11_byRule_e at hb
  refine r_aload_n (pc := 0) 0 F dX11_byRule_0 rfl rfl ?_
  refine r_iload_n (pc := 1) 1 F dX11_byRule_1 rfl rfl ?_
  refine r_callI (pc := 2) (avs := [Iv p0]) (st := []) F (c_X11_isPlace μ p0 _ hb) (by decide) cal_X11_isPlace calv_X11_isPlace lk_RX11_136 rfl rfl (Nat.le_of_ble_eq_true rfl) dX11_byRule_2 (fun r_16 μ_17 hb => ?_)
  refine r_if_ne (pc := 5) (tgt := 11) F dX11_byRule_5 (by decide) (fun c_18 => ?_) (fun c_18 => ?_)
  · have hb := hb.1 c_18
    refine r_aload_n (pc := 11) 0 F dX11_byRule_11 rfl rfl ?_
    refine r_callV (pc := 12) (avs := []) (st := []) F (c_X11_firstOrder μ_17 _ hb) (by decide) cal_X11_firstOrder calv_X11_firstOrder lk_RX11_117 rfl rfl (Nat.le_of_ble_eq_true rfl) dX11_byRule_12 (fun μ_20 hb => ?_)
    refine r_iconst (pc := 15) F dX11_byRule_15 (inR_lit rfl) ?_
    refine r_istore_n (pc := 16) (lv' := [(2, Iv 0), (0, Rv 11), (1, Iv p0)]) F dX11_byRule_16 rfl (by decide) rfl ?_
    exact V.sub [1, 2, 0] rfl (g17 μ_20 p0 0 hb)
  · have hb := hb.2 c_18
    refine r_bipush (pc := 8) F dX11_byRule_8 (inR_lit rfl) (by decide) ?_
    exact r_iret (pc := 10) F hR hr dX11_byRule_10 hb
set_option maxHeartbeats 4000000 in
set_option maxRecDepth 100000 in
theorem c_X11_isTool {g : Wc} {l : Launch} (μ : Mem) (p0 : Int) (Post : Pst) (hb : wp_X11_isTool μ p0 Post) : MtC g l yX11_isTool cX11_isTool 1 (some .boolean) 1 [Iv p0] μ (QI g Post) := by
  intro hok
  refine enter (own := RX11) (by decide) rfl (Nat.le_of_ble_eq_true rfl) hok (fun X hl F hr hR => ?_)
  subst hl
  show V g X 1 μ [(0, Iv p0)] 0 []
  unfold wp_X11_isTool at hb
  have hb := hb
  unfold b_X11_isTool_e at hb
  refine r_iload_n (pc := 0) 0 F dX11_isTool_0 rfl rfl ?_
  refine r_i2l (pc := 1) F dX11_isTool_1 ?_
  refine r_lconst (pc := 2) (x := 0) F dX11_isTool_2 (inRL_lit rfl) (by decide) ?_
  refine r_ldc2 (pc := 3) F kl_RX11_104 (x := 2) (by decide) (inRL_lit rfl) dX11_isTool_3 ?_
  refine r_callSI (pc := 6) (avs := [Lv p0, Lv 0, Lv 2]) (st := []) F (c_X11_in μ p0 0 2 _ hb) (by decide) cal_X11_in st_X11_in lk_RX11_86 rfl rfl (Nat.le_of_ble_eq_true rfl) dX11_isTool_6 (fun r_1 μ_2 hb => ?_)
  exact r_zret (pc := 9) F hR hr dX11_isTool_9 hb.1 hb.2
set_option maxHeartbeats 4000000 in
set_option maxRecDepth 100000 in
theorem c_X11_change {g : Wc} {l : Launch} (μ : Mem) (p0 : Int) (p1 : Int) (p2 : Int) (Post : Pst) (hb : wp_X11_change μ p0 p1 p2 Post) : MtC g l yX11_change cX11_change 5 (some .int) 2 [Rv 11, Iv p0, Iv p1, Iv p2] μ (QI g Post) := by
  intro hok
  refine enter (own := RX11) (by decide) rfl (Nat.le_of_ble_eq_true rfl) hok (fun X hl F hr hR => ?_)
  subst hl
  show V g X 5 μ [(0, Rv 11), (1, Iv p0), (2, Iv p1), (3, Iv p2)] 0 []
  unfold wp_X11_change at hb
  have hb := hb
  unfold b_X11_change_e at hb
  refine r_iload_n (pc := 0) 1 F dX11_change_0 rfl rfl ?_
  refine r_callSI (pc := 1) (avs := [Iv p0]) (st := []) F (c_X11_isTool μ p0 _ hb) (by decide) cal_X11_isTool st_X11_isTool lk_RX11_110 rfl rfl (Nat.le_of_ble_eq_true rfl) dX11_change_1 (fun r_1 μ_2 hb => ?_)
  refine r_if_eq (pc := 4) (tgt := 31) F dX11_change_4 (by decide) (fun c_3 => ?_) (fun c_3 => ?_)
  · have hb := hb.1 c_3
    refine r_bipush (pc := 31) F dX11_change_31 (inR_lit rfl) (by decide) ?_
    exact r_iret (pc := 33) F hR hr dX11_change_33 hb
  · have hb := hb.2 c_3
    refine r_iload_n (pc := 7) 2 F dX11_change_7 rfl rfl ?_
    refine r_callSI (pc := 8) (avs := [Iv p1]) (st := []) F (c_X11_isTool μ_2 p1 _ hb) (by decide) cal_X11_isTool st_X11_isTool lk_RX11_110 rfl rfl (Nat.le_of_ble_eq_true rfl) dX11_change_8 (fun r_4 μ_5 hb => ?_)
    refine r_if_eq (pc := 11) (tgt := 31) F dX11_change_11 (by decide) (fun c_6 => ?_) (fun c_6 => ?_)
    · have hb := hb.1 c_6
      refine r_bipush (pc := 31) F dX11_change_31 (inR_lit rfl) (by decide) ?_
      exact r_iret (pc := 33) F hR hr dX11_change_33 hb
    · have hb := hb.2 c_6
      refine r_iload_n (pc := 14) 1 F dX11_change_14 rfl rfl ?_
      refine r_iload_n (pc := 15) 2 F dX11_change_15 rfl rfl ?_
      refine r_icmp_eq (pc := 16) (tgt := 31) F dX11_change_16 (by decide) (fun c_7 => ?_) (fun c_7 => ?_)
      · have hb := hb.1 c_7
        refine r_bipush (pc := 31) F dX11_change_31 (inR_lit rfl) (by decide) ?_
        exact r_iret (pc := 33) F hR hr dX11_change_33 hb
      · have hb := hb.2 c_7
        refine r_iload_n (pc := 19) 3 F dX11_change_19 rfl rfl ?_
        refine r_i2l (pc := 20) F dX11_change_20 ?_
        refine r_lconst (pc := 21) (x := 0) F dX11_change_21 (inRL_lit rfl) (by decide) ?_
        refine r_ldc2 (pc := 22) F kl_RX11_102 (x := 20) (by decide) (inRL_lit rfl) dX11_change_22 ?_
        refine r_callSI (pc := 25) (avs := [Lv p2, Lv 0, Lv 20]) (st := []) F (c_X11_in μ_5 p2 0 20 _ hb) (by decide) cal_X11_in st_X11_in lk_RX11_86 rfl rfl (Nat.le_of_ble_eq_true rfl) dX11_change_25 (fun r_8 μ_9 hb => ?_)
        refine r_if_ne (pc := 28) (tgt := 34) F dX11_change_28 (by decide) (fun c_10 => ?_) (fun c_10 => ?_)
        · have hb := hb.1 c_10
          refine r_aload_n (pc := 34) 0 F dX11_change_34 rfl rfl ?_
          refine gf_RX11_28 (pc := 35) F dX11_change_35 ?_
          refine r_iconst (pc := 38) F dX11_change_38 (inR_lit rfl) ?_
          refine r_iload_n (pc := 39) 1 F dX11_change_39 rfl rfl ?_
          refine r_imul (pc := 40) F dX11_change_40 ?_
          refine r_iload_n (pc := 41) 2 F dX11_change_41 rfl rfl ?_
          refine r_iadd (pc := 42) F dX11_change_42 ?_
          have hg_11 := hb.1
          have hb := hb.2
          refine r_iald (pc := 43) F lc96.1 lc96.2.1 lc96.2.2 hg_11 dX11_change_43 ?_
          refine V.nmI (fun x_12 ex_12 => ?_)
          have hb := hb x_12 ex_12
          refine r_istore (pc := 44) (lv' := [(4, Iv x_12), (0, Rv 11), (1, Iv p0), (2, Iv p1), (3, Iv p2)]) F dX11_change_44 (by decide) rfl ?_
          refine r_aload_n (pc := 46) 1 F dX11_change_46 rfl rfl ?_
          refine gf_RX11_28 (pc := 47) F dX11_change_47 ?_
          refine r_iconst (pc := 50) F dX11_change_50 (inR_lit rfl) ?_
          refine r_iload_n (pc := 51) 2 F dX11_change_51 rfl rfl ?_
          refine r_imul (pc := 52) F dX11_change_52 ?_
          refine r_iload_n (pc := 53) 3 F dX11_change_53 rfl rfl ?_
          refine r_iadd (pc := 54) F dX11_change_54 ?_
          refine r_iload_n (pc := 55) 4 F dX11_change_55 rfl rfl ?_
          have hg_13 := hb.1
          have hb := hb.2
          refine r_iast (pc := 56) F lc96.1 lc96.2.1 lc96.2.2 hg_13 dX11_change_56 ?_
          refine V.nmM (fun μ_14 eμ_14 => ?_)
          have hb := hb μ_14 eμ_14
          refine r_iload (pc := 57) 0 F dX11_change_57 rfl ?_
          exact r_iret (pc := 59) F hR hr dX11_change_59 hb
        · have hb := hb.2 c_10
          refine r_bipush (pc := 31) F dX11_change_31 (inR_lit rfl) (by decide) ?_
          exact r_iret (pc := 33) F hR hr dX11_change_33 hb
set_option maxHeartbeats 4000000 in
set_option maxRecDepth 100000 in
theorem c_X11_clear {g : Wc} {l : Launch} (μ : Mem) (Post : Pst) (hb : wp_X11_clear μ Post) : MtC g l yX11_clear cX11_clear 2 (some .int) 0 [Rv 11] μ (QI g Post) := by
  intro hok
  refine enter (own := RX11) (by decide) rfl (Nat.le_of_ble_eq_true rfl) hok (fun X hl F hr hR => ?_)
  subst hl
  show V g X 2 μ [(0, Rv 11)] 0 []
  unfold wp_X11_clear at hb
  have hb := hb
  unfold b_X11_clear_e at hb
  refine r_aload_n (pc := 0) 0 F dX11_clear_0 rfl rfl ?_
  refine gf_RX11_47 (pc := 1) F dX11_clear_1 ?_
  refine r_iconst (pc := 4) F dX11_clear_4 (inR_lit rfl) ?_
  refine r_ialdk (pc := 5) (k := 0) F lc101.1 lc101.2.1 lc101.2.2 rfl ⟨by decide, by decide⟩ dX11_clear_5 ?_
  refine r_aload_n (pc := 6) 0 F dX11_clear_6 rfl rfl ?_
  refine gf_RX11_47 (pc := 7) F dX11_clear_7 ?_
  refine r_iconst (pc := 10) F dX11_clear_10 (inR_lit rfl) ?_
  refine r_ialdk (pc := 11) (k := 1) F lc101.1 lc101.2.1 lc101.2.2 rfl ⟨by decide, by decide⟩ dX11_clear_11 ?_
  refine r_iadd (pc := 12) F dX11_clear_12 ?_
  refine V.nmI (fun x_1 ex_1 => ?_)
  have hb := hb x_1 ex_1
  refine r_istore_n (pc := 13) (lv' := [(1, Iv x_1), (0, Rv 11)]) F dX11_clear_13 rfl (by decide) rfl ?_
  refine r_aload_n (pc := 14) 1 F dX11_clear_14 rfl rfl ?_
  refine gf_RX11_47 (pc := 15) F dX11_clear_15 ?_
  refine r_iconst (pc := 18) F dX11_clear_18 (inR_lit rfl) ?_
  refine r_iconst (pc := 19) F dX11_clear_19 (inR_lit rfl) ?_
  refine r_iastk (pc := 20) (k := 0) F lc101.1 lc101.2.1 lc101.2.2 rfl ⟨by decide, by decide⟩ dX11_clear_20 ?_
  refine V.nmM (fun μ_2 eμ_2 => ?_)
  have hb := hb μ_2 eμ_2
  refine r_aload_n (pc := 21) 1 F dX11_clear_21 rfl rfl ?_
  refine gf_RX11_47 (pc := 22) F dX11_clear_22 ?_
  refine r_iconst (pc := 25) F dX11_clear_25 (inR_lit rfl) ?_
  refine r_iconst (pc := 26) F dX11_clear_26 (inR_lit rfl) ?_
  refine r_iastk (pc := 27) (k := 1) F lc101.1 lc101.2.1 lc101.2.2 rfl ⟨by decide, by decide⟩ dX11_clear_27 ?_
  refine V.nmM (fun μ_3 eμ_3 => ?_)
  have hb := hb μ_3 eμ_3
  refine r_iload_n (pc := 28) 0 F dX11_clear_28 rfl rfl ?_
  exact r_iret (pc := 29) F hR hr dX11_clear_29 hb
