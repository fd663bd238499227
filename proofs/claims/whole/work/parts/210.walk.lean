/-! Walks: X11_count, X11_sums, X11_digest, X11_fell, X11_freeBehind, X11_heldAt, X11_judge, X11_lastFirst. By program. -/
set_option maxHeartbeats 4000000 in
set_option maxRecDepth 100000 in
theorem c_X11_count {g : Wc} {l : Launch} (μ : Mem) (p0 : Int) (Post : Pst) (hb : wp_X11_count μ p0 Post) : MtC g l yX11_count cX11_count 2 (some .int) 0 [Rv 11, Iv p0] μ (QI g Post) := by
  intro hok
  refine enter (own := RX11) (by decide) rfl (Nat.le_of_ble_eq_true rfl) hok (fun X hl F hr hR => ?_)
  subst hl
  show V g X 2 μ [(0, Rv 11), (1, Iv p0)] 0 []
  unfold wp_X11_count at hb
  have K46 : ∀ (μ : Mem) (x1 : Int), b_X11_count_46 Post μ x1 → V g X 2 μ [(0, Rv 11), (1, Iv x1)] 46 [] := by
    intro μ x1 hb
    unfold b_X11_count_46 at hb
    refine r_aload_n (pc := 46) 0 F dX11_count_46 rfl rfl ?_
    refine gf_RX11_47 (pc := 47) F dX11_count_47 ?_
    refine r_iload_n (pc := 50) 1 F dX11_count_50 rfl rfl ?_
    refine r_iconst (pc := 51) F dX11_count_51 (inR_lit rfl) ?_
    refine r_isub (pc := 52) F dX11_count_52 ?_
    have hg_1 := hb.1
    have hb := hb.2
    refine r_iald (pc := 53) F lc101.1 lc101.2.1 lc101.2.2 hg_1 dX11_count_53 ?_
    exact r_iret (pc := 54) F hR hr dX11_count_54 hb
  have hb := hb
  unfold b_X11_count_e at hb
  refine r_iload_n (pc := 0) 1 F dX11_count_0 rfl rfl ?_
  rcases (show (p0 < 0 ∨ 4 < p0) ∨ p0 = 0 ∨ p0 = 1 ∨ p0 = 2 ∨ p0 = 3 ∨ p0 = 4 by omega) with c_2 | c_2 | c_2 | c_2 | c_2 | c_2
  · have hb := hb.1 c_2
    refine r_tableOut (pc := 1) (tgt := 60) F dX11_count_1 c_2 (by decide) ?_
    refine r_bipush (pc := 60) F dX11_count_60 (inR_lit rfl) (by decide) ?_
    exact r_iret (pc := 62) F hR hr dX11_count_62 hb
  · have hb := hb.2.1 c_2
    refine r_tableIn (pc := 1) (tgt := 36) (off := 35) F dX11_count_1 (by omega) (by omega) (by rw [c_2]; rfl) (by decide) ?_
    refine r_aload_n (pc := 36) 0 F dX11_count_36 rfl rfl ?_
    refine gf_RX11_83 (pc := 37) F dX11_count_37 ?_
    exact r_iret (pc := 40) F hR hr dX11_count_40 hb
  · have hb := hb.2.2.1 c_2
    refine r_tableIn (pc := 1) (tgt := 41) (off := 40) F dX11_count_1 (by omega) (by omega) (by rw [c_2]; rfl) (by decide) ?_
    refine r_aload_n (pc := 41) 0 F dX11_count_41 rfl rfl ?_
    refine gf_RX11_151 (pc := 42) F dX11_count_42 ?_
    exact r_iret (pc := 45) F hR hr dX11_count_45 hb
  · have hb := hb.2.2.2.1 c_2
    refine r_tableIn (pc := 1) (tgt := 46) (off := 45) F dX11_count_1 (by omega) (by omega) (by rw [c_2]; rfl) (by decide) ?_
    exact V.sub [0, 1] rfl (K46 μ p0 hb)
  · have hb := hb.2.2.2.2.1 c_2
    refine r_tableIn (pc := 1) (tgt := 46) (off := 45) F dX11_count_1 (by omega) (by omega) (by rw [c_2]; rfl) (by decide) ?_
    exact V.sub [0, 1] rfl (K46 μ p0 hb)
  · have hb := hb.2.2.2.2.2 c_2
    refine r_tableIn (pc := 1) (tgt := 55) (off := 54) F dX11_count_1 (by omega) (by omega) (by rw [c_2]; rfl) (by decide) ?_
    refine r_aload_n (pc := 55) 0 F dX11_count_55 rfl rfl ?_
    refine gf_RX11_179 (pc := 56) F dX11_count_56 ?_
    exact r_iret (pc := 59) F hR hr dX11_count_59 hb
set_option maxHeartbeats 4000000 in
set_option maxRecDepth 100000 in
theorem c_X11_sums {g : Wc} {l : Launch} (μ : Mem) (p0 : Int) (p1 : Nat) (p2 : Int) (p3 : Int) (Post : Pst) (hb : wp_X11_sums μ p0 p1 p2 p3 Post) : MtC g l yX11_sums cX11_sums 8 (some .long) 0 [Lv p0, Rv p1, Iv p2, Iv p3] μ (QL g Post) := by
  intro hok
  refine enter (own := RX11) (by decide) rfl (Nat.le_of_ble_eq_true rfl) hok (fun X hl F hr hR => ?_)
  subst hl
  show V g X 8 μ [(0, Lv p0), (2, Rv p1), (3, Iv p2), (4, Iv p3)] 0 []
  unfold wp_X11_sums at hb
  obtain ⟨G6, g6, f6⟩ : ∃ G : Mem → Nat → Int → Int → Int → Int → Prop, (∀ μ x2 x3 x4 x5 x7, G μ x2 x3 x4 x5 x7 → V g X 8 μ [(2, Rv x2), (3, Iv x3), (4, Iv x4), (5, Lv x5), (7, Iv x7)] 6 []) ∧ (∀ μ x2 x3 x4 x5 x7, V g X 8 μ [(2, Rv x2), (3, Iv x3), (4, Iv x4), (5, Lv x5), (7, Iv x7)] 6 [] → G μ x2 x3 x4 x5 x7) := ⟨fun μ x2 x3 x4 x5 x7 => V g X 8 μ [(2, Rv x2), (3, Iv x3), (4, Iv x4), (5, Lv x5), (7, Iv x7)] 6 [], fun _ _ _ _ _ _ h => h, fun _ _ _ _ _ _ h => h⟩
  have K6 : ∀ (μ : Mem) (x2 : Nat) (x3 : Int) (x4 : Int) (x5 : Int) (x7 : Int), b_X11_sums_6 G6 Post μ x2 x3 x4 x5 x7 → V g X 8 μ [(2, Rv x2), (3, Iv x3), (4, Iv x4), (5, Lv x5), (7, Iv x7)] 6 [] := by
    intro μ x2 x3 x4 x5 x7 hb
    unfold b_X11_sums_6 at hb
    refine r_iload (pc := 6) 4 F dX11_sums_6 rfl ?_
    refine r_iload (pc := 8) 2 F dX11_sums_8 rfl ?_
    refine r_icmp_ge (pc := 10) (tgt := 35) F dX11_sums_10 (by decide) (fun c_1 => ?_) (fun c_1 => ?_)
    · have hb := hb.1 c_1
      refine r_lload (pc := 35) 3 F dX11_sums_35 rfl ?_
      exact r_lret (pc := 37) F hR hr dX11_sums_37 hb
    · have hb := hb.2 c_1
      refine r_ldc2 (pc := 13) F kl_RX11_193 (x := 31) (by decide) (inRL_lit rfl) dX11_sums_13 ?_
      refine r_lload (pc := 16) 3 F dX11_sums_16 rfl ?_
      refine r_lmul (pc := 18) F dX11_sums_18 ?_
      refine r_aload_n (pc := 19) 0 F dX11_sums_19 rfl rfl ?_
      refine r_iload_n (pc := 20) 1 F dX11_sums_20 rfl rfl ?_
      refine r_iload (pc := 21) 4 F dX11_sums_21 rfl ?_
      refine r_iadd (pc := 23) F dX11_sums_23 ?_
      have hg_2 := hb.1
      have hb := hb.2
      refine r_iald (pc := 24) F hg_2.1 hg_2.2.1 rfl hg_2.2.2 dX11_sums_24 ?_
      refine r_i2l (pc := 25) F dX11_sums_25 ?_
      refine r_ladd (pc := 26) F dX11_sums_26 ?_
      refine V.nmL (fun x_3 ex_3 => ?_)
      have hb := hb x_3 ex_3
      refine r_lstore (pc := 27) (lv' := [(5, Lv x_3), (2, Rv x2), (3, Iv x3), (4, Iv x4), (7, Iv x7)]) F dX11_sums_27 (by decide) rfl ?_
      refine r_iincN (pc := 29) 4 (lf := fun x_4 => [(7, Iv x_4), (5, Lv x_3), (2, Rv x2), (3, Iv x3), (4, Iv x4)]) F dX11_sums_29 rfl (by decide) rfl (fun x_4 ex_4 => ?_)
      have hb := hb x_4 ex_4
      refine r_goto (pc := 32) (tgt := 6) F dX11_sums_32 (by decide) ?_
      exact V.sub [2, 3, 4, 1, 0] rfl (g6 μ x2 x3 x4 x_3 x_4 hb)
  have hb := hb G6 (fun μ x2 x3 x4 x5 x7 hb => f6 μ x2 x3 x4 x5 x7 (K6 μ x2 x3 x4 x5 x7 hb))
  unfold b_X11_sums_e at hb
  refine r_lload_n (pc := 0) 0 F dX11_sums_0 rfl rfl ?_
  refine r_lstore (pc := 1) (lv' := [(5, Lv p0), (0, Lv p0), (2, Rv p1), (3, Iv p2), (4, Iv p3)]) F dX11_sums_1 (by decide) rfl ?_
  refine r_iconst (pc := 3) F dX11_sums_3 (inR_lit rfl) ?_
  refine r_istore (pc := 4) (lv' := [(7, Iv 0), (5, Lv p0), (0, Lv p0), (2, Rv p1), (3, Iv p2), (4, Iv p3)]) F dX11_sums_4 (by decide) rfl ?_
  exact V.sub [3, 4, 5, 1, 0] rfl (g6 μ p1 p2 p3 p0 0 hb)
set_option maxHeartbeats 4000000 in
set_option maxRecDepth 100000 in
theorem c_X11_digest {g : Wc} {l : Launch} (μ : Mem) (Post : Pst) (hb : wp_X11_digest μ Post) : MtC g l yX11_digest cX11_digest 4 (some .long) 1 [Rv 11] μ (QL g Post) := by
  intro hok
  refine enter (own := RX11) (by decide) rfl (Nat.le_of_ble_eq_true rfl) hok (fun X hl F hr hR => ?_)
  subst hl
  show V g X 4 μ [(0, Rv 11)] 0 []
  unfold wp_X11_digest at hb
  obtain ⟨G6, g6, f6⟩ : ∃ G : Mem → Int → Int → Prop, (∀ μ x1 x3, G μ x1 x3 → V g X 4 μ [(0, Rv 11), (1, Lv x1), (3, Iv x3)] 6 []) ∧ (∀ μ x1 x3, V g X 4 μ [(0, Rv 11), (1, Lv x1), (3, Iv x3)] 6 [] → G μ x1 x3) := ⟨fun μ x1 x3 => V g X 4 μ [(0, Rv 11), (1, Lv x1), (3, Iv x3)] 6 [], fun _ _ _ h => h, fun _ _ _ h => h⟩
  obtain ⟨G32, g32, f32⟩ : ∃ G : Mem → Int → Int → Prop, (∀ μ x1 x3, G μ x1 x3 → V g X 4 μ [(0, Rv 11), (1, Lv x1), (3, Iv x3)] 32 []) ∧ (∀ μ x1 x3, V g X 4 μ [(0, Rv 11), (1, Lv x1), (3, Iv x3)] 32 [] → G μ x1 x3) := ⟨fun μ x1 x3 => V g X 4 μ [(0, Rv 11), (1, Lv x1), (3, Iv x3)] 32 [], fun _ _ _ h => h, fun _ _ _ h => h⟩
  have K6 : ∀ (μ : Mem) (x1 : Int) (x3 : Int), b_X11_digest_6 G6 G32 Post μ x1 x3 → V g X 4 μ [(0, Rv 11), (1, Lv x1), (3, Iv x3)] 6 [] := by
    intro μ x1 x3 hb
    unfold b_X11_digest_6 at hb
    refine r_iload_n (pc := 6) 2 F dX11_digest_6 rfl rfl ?_
    refine r_iconst (pc := 7) F dX11_digest_7 (inR_lit rfl) ?_
    refine r_icmp_ge (pc := 8) (tgt := 30) F dX11_digest_8 (by decide) (fun c_1 => ?_) (fun c_1 => ?_)
    · have hb := hb.1 c_1
      refine r_iconst (pc := 30) F dX11_digest_30 (inR_lit rfl) ?_
      refine r_istore_n (pc := 31) (lv' := [(3, Iv 0), (0, Rv 11), (1, Lv x1)]) F dX11_digest_31 rfl (by decide) rfl ?_
      exact V.sub [1, 2, 0] rfl (g32 μ x1 0 hb)
    · have hb := hb.2 c_1
      refine r_ldc2 (pc := 11) F kl_RX11_193 (x := 31) (by decide) (inRL_lit rfl) dX11_digest_11 ?_
      refine r_lload_n (pc := 14) 1 F dX11_digest_14 rfl rfl ?_
      refine r_lmul (pc := 15) F dX11_digest_15 ?_
      refine r_aload_n (pc := 16) 0 F dX11_digest_16 rfl rfl ?_
      refine r_iload_n (pc := 17) 2 F dX11_digest_17 rfl rfl ?_
      refine r_callI (pc := 18) (avs := [Iv x3]) (st := [Lv (wrapL (31 * x1))]) F (c_X11_count μ x3 _ hb) (by decide) cal_X11_count calv_X11_count lk_RX11_197 rfl rfl (Nat.le_of_ble_eq_true rfl) dX11_digest_18 (fun r_2 μ_3 hb => ?_)
      refine r_i2l (pc := 21) F dX11_digest_21 ?_
      refine r_ladd (pc := 22) F dX11_digest_22 ?_
      refine V.nmL (fun x_4 ex_4 => ?_)
      have hb := hb x_4 ex_4
      refine r_lstore_n (pc := 23) (lv' := [(1, Lv x_4), (0, Rv 11), (3, Iv x3)]) F dX11_digest_23 rfl (by decide) rfl ?_
      refine r_iincN (pc := 24) 2 (lf := fun x_5 => [(3, Iv x_5), (1, Lv x_4), (0, Rv 11)]) F dX11_digest_24 rfl (by decide) rfl (fun x_5 ex_5 => ?_)
      have hb := hb x_5 ex_5
      refine r_goto (pc := 27) (tgt := 6) F dX11_digest_27 (by decide) ?_
      exact V.sub [2, 1, 0] rfl (g6 μ_3 x_4 x_5 hb)
  have K32 : ∀ (μ : Mem) (x1 : Int) (x3 : Int), b_X11_digest_32 G6 G32 Post μ x1 x3 → V g X 4 μ [(0, Rv 11), (1, Lv x1), (3, Iv x3)] 32 [] := by
    intro μ x1 x3 hb
    unfold b_X11_digest_32 at hb
    refine r_iload_n (pc := 32) 2 F dX11_digest_32 rfl rfl ?_
    refine r_aload_n (pc := 33) 0 F dX11_digest_33 rfl rfl ?_
    refine gf_RX11_83 (pc := 34) F dX11_digest_34 ?_
    refine r_icmp_ge (pc := 37) (tgt := 135) F dX11_digest_37 (by decide) (fun c_6 => ?_) (fun c_6 => ?_)
    · have hb := hb.1 c_6
      refine r_lload_n (pc := 135) 1 F dX11_digest_135 rfl rfl ?_
      refine r_aload_n (pc := 136) 0 F dX11_digest_136 rfl rfl ?_
      refine gf_RX11_28 (pc := 137) F dX11_digest_137 ?_
      refine r_iconst (pc := 140) F dX11_digest_140 (inR_lit rfl) ?_
      refine r_bipush (pc := 141) F dX11_digest_141 (inR_lit rfl) (by decide) ?_
      refine r_callSL (pc := 143) (avs := [Lv x1, Rv 96, Iv 0, Iv 9]) (st := []) F (c_X11_sums μ x1 96 0 9 _ hb) (by decide) cal_X11_sums st_X11_sums lk_RX11_200 rfl rfl (Nat.le_of_ble_eq_true rfl) dX11_digest_143 (fun r_7 μ_8 hb => ?_)
      refine r_lstore_n (pc := 146) (lv' := [(1, Lv r_7), (0, Rv 11), (3, Iv x3)]) F dX11_digest_146 rfl (by decide) rfl ?_
      refine r_lload_n (pc := 147) 0 F dX11_digest_147 rfl rfl ?_
      refine r_aload_n (pc := 148) 1 F dX11_digest_148 rfl rfl ?_
      refine gf_RX11_41 (pc := 149) F dX11_digest_149 ?_
      refine r_iconst (pc := 152) F dX11_digest_152 (inR_lit rfl) ?_
      refine r_aload_n (pc := 153) 1 F dX11_digest_153 rfl rfl ?_
      refine gf_RX11_151 (pc := 154) F dX11_digest_154 ?_
      refine r_callSL (pc := 157) (avs := [Lv r_7, Rv 99, Iv 0, Iv (μ_8 11 12)]) (st := []) F (c_X11_sums μ_8 r_7 99 0 (μ_8 11 12) _ hb) (by decide) cal_X11_sums st_X11_sums lk_RX11_200 rfl rfl (Nat.le_of_ble_eq_true rfl) dX11_digest_157 (fun r_9 μ_10 hb => ?_)
      refine r_lstore_n (pc := 160) (lv' := [(1, Lv r_9), (0, Rv 11), (3, Iv x3)]) F dX11_digest_160 rfl (by decide) rfl ?_
      refine r_ldc2 (pc := 161) F kl_RX11_193 (x := 31) (by decide) (inRL_lit rfl) dX11_digest_161 ?_
      refine r_lload_n (pc := 164) 0 F dX11_digest_164 rfl rfl ?_
      refine r_lmul (pc := 165) F dX11_digest_165 ?_
      refine r_aload_n (pc := 166) 1 F dX11_digest_166 rfl rfl ?_
      refine gf_RX11_34 (pc := 167) F dX11_digest_167 ?_
      refine r_i2l (pc := 170) F dX11_digest_170 ?_
      refine r_ladd (pc := 171) F dX11_digest_171 ?_
      refine r_aload_n (pc := 172) 1 F dX11_digest_172 rfl rfl ?_
      refine gf_RX11_38 (pc := 173) F dX11_digest_173 ?_
      refine r_iconst (pc := 176) F dX11_digest_176 (inR_lit rfl) ?_
      refine r_iconst (pc := 177) F dX11_digest_177 (inR_lit rfl) ?_
      refine r_callSL (pc := 178) (avs := [Lv (wrapL ((wrapL (31 * r_9)) + (μ_10 11 9))), Rv 98, Iv 1, Iv 3]) (st := []) F (c_X11_sums μ_10 (wrapL ((wrapL (31 * r_9)) + (μ_10 11 9))) 98 1 3 _ hb) (by decide) cal_X11_sums st_X11_sums lk_RX11_200 rfl rfl (Nat.le_of_ble_eq_true rfl) dX11_digest_178 (fun r_11 μ_12 hb => ?_)
      refine r_lstore_n (pc := 181) (lv' := [(1, Lv r_11), (0, Rv 11), (3, Iv x3)]) F dX11_digest_181 rfl (by decide) rfl ?_
      refine r_lload_n (pc := 182) 0 F dX11_digest_182 rfl rfl ?_
      refine r_aload_n (pc := 183) 1 F dX11_digest_183 rfl rfl ?_
      refine gf_RX11_44 (pc := 184) F dX11_digest_184 ?_
      refine r_iconst (pc := 187) F dX11_digest_187 (inR_lit rfl) ?_
      refine r_iconst (pc := 188) F dX11_digest_188 (inR_lit rfl) ?_
      refine r_aload_n (pc := 189) 1 F dX11_digest_189 rfl rfl ?_
      refine gf_RX11_47 (pc := 190) F dX11_digest_190 ?_
      refine r_iconst (pc := 193) F dX11_digest_193 (inR_lit rfl) ?_
      refine r_ialdk (pc := 194) (k := 0) F lc101.1 lc101.2.1 lc101.2.2 rfl ⟨by decide, by decide⟩ dX11_digest_194 ?_
      refine r_imul (pc := 195) F dX11_digest_195 ?_
      refine r_callSL (pc := 196) (avs := [Lv r_11, Rv 100, Iv 0, Iv (wrap (2 * (μ_12 101 0)))]) (st := []) F (c_X11_sums μ_12 r_11 100 0 (wrap (2 * (μ_12 101 0))) _ hb) (by decide) cal_X11_sums st_X11_sums lk_RX11_200 rfl rfl (Nat.le_of_ble_eq_true rfl) dX11_digest_196 (fun r_13 μ_14 hb => ?_)
      refine r_lstore_n (pc := 199) (lv' := [(1, Lv r_13), (0, Rv 11), (3, Iv x3)]) F dX11_digest_199 rfl (by decide) rfl ?_
      refine r_lload_n (pc := 200) 0 F dX11_digest_200 rfl rfl ?_
      refine r_aload_n (pc := 201) 1 F dX11_digest_201 rfl rfl ?_
      refine gf_RX11_44 (pc := 202) F dX11_digest_202 ?_
      refine r_bipush (pc := 205) F dX11_digest_205 (inR_lit rfl) (by decide) ?_
      refine r_iconst (pc := 207) F dX11_digest_207 (inR_lit rfl) ?_
      refine r_aload_n (pc := 208) 1 F dX11_digest_208 rfl rfl ?_
      refine gf_RX11_47 (pc := 209) F dX11_digest_209 ?_
      refine r_iconst (pc := 212) F dX11_digest_212 (inR_lit rfl) ?_
      refine r_ialdk (pc := 213) (k := 1) F lc101.1 lc101.2.1 lc101.2.2 rfl ⟨by decide, by decide⟩ dX11_digest_213 ?_
      refine r_imul (pc := 214) F dX11_digest_214 ?_
      refine r_callSL (pc := 215) (avs := [Lv r_13, Rv 100, Iv 12, Iv (wrap (2 * (μ_14 101 1)))]) (st := []) F (c_X11_sums μ_14 r_13 100 12 (wrap (2 * (μ_14 101 1))) _ hb) (by decide) cal_X11_sums st_X11_sums lk_RX11_200 rfl rfl (Nat.le_of_ble_eq_true rfl) dX11_digest_215 (fun r_15 μ_16 hb => ?_)
      refine r_lstore_n (pc := 218) (lv' := [(1, Lv r_15), (0, Rv 11), (3, Iv x3)]) F dX11_digest_218 rfl (by decide) rfl ?_
      refine r_ldc2 (pc := 219) F kl_RX11_193 (x := 31) (by decide) (inRL_lit rfl) dX11_digest_219 ?_
      refine r_lload_n (pc := 222) 0 F dX11_digest_222 rfl rfl ?_
      refine r_aload_n (pc := 223) 1 F dX11_digest_223 rfl rfl ?_
      refine gf_RX11_50 (pc := 224) F dX11_digest_224 ?_
      refine r_iconst (pc := 227) F dX11_digest_227 (inR_lit rfl) ?_
      refine r_aload_n (pc := 228) 1 F dX11_digest_228 rfl rfl ?_
      refine gf_RX11_179 (pc := 229) F dX11_digest_229 ?_
      refine r_callSL (pc := 232) (avs := [Lv r_15, Rv 102, Iv 0, Iv (μ_16 11 15)]) (st := [Lv 31]) F (c_X11_sums μ_16 r_15 102 0 (μ_16 11 15) _ hb) (by decide) cal_X11_sums st_X11_sums lk_RX11_200 rfl rfl (Nat.le_of_ble_eq_true rfl) dX11_digest_232 (fun r_17 μ_18 hb => ?_)
      refine r_lmul (pc := 235) F dX11_digest_235 ?_
      refine r_aload_n (pc := 236) 1 F dX11_digest_236 rfl rfl ?_
      refine gf_RX11_53 (pc := 237) F dX11_digest_237 ?_
      refine r_i2l (pc := 240) F dX11_digest_240 ?_
      refine r_ladd (pc := 241) F dX11_digest_241 ?_
      exact r_lret (pc := 242) F hR hr dX11_digest_242 hb
    · have hb := hb.2 c_6
      refine r_ldc2 (pc := 40) F kl_RX11_193 (x := 31) (by decide) (inRL_lit rfl) dX11_digest_40 ?_
      refine r_ldc2 (pc := 43) F kl_RX11_193 (x := 31) (by decide) (inRL_lit rfl) dX11_digest_43 ?_
      refine r_ldc2 (pc := 46) F kl_RX11_193 (x := 31) (by decide) (inRL_lit rfl) dX11_digest_46 ?_
      refine r_lload_n (pc := 49) 1 F dX11_digest_49 rfl rfl ?_
      refine r_lmul (pc := 50) F dX11_digest_50 ?_
      refine r_aload_n (pc := 51) 0 F dX11_digest_51 rfl rfl ?_
      refine gf_RX11_7 (pc := 52) F dX11_digest_52 ?_
      refine r_iload_n (pc := 55) 2 F dX11_digest_55 rfl rfl ?_
      have hg_19 := hb.1
      have hb := hb.2
      refine r_iald (pc := 56) F lc90.1 lc90.2.1 lc90.2.2 hg_19 dX11_digest_56 ?_
      refine r_i2l (pc := 57) F dX11_digest_57 ?_
      refine r_ladd (pc := 58) F dX11_digest_58 ?_
      refine r_lmul (pc := 59) F dX11_digest_59 ?_
      refine r_aload_n (pc := 60) 0 F dX11_digest_60 rfl rfl ?_
      refine gf_RX11_13 (pc := 61) F dX11_digest_61 ?_
      refine r_iload_n (pc := 64) 2 F dX11_digest_64 rfl rfl ?_
      have hg_20 := hb.1
      have hb := hb.2
      refine r_iald (pc := 65) F lc91.1 lc91.2.1 lc91.2.2 hg_20 dX11_digest_65 ?_
      refine r_i2l (pc := 66) F dX11_digest_66 ?_
      refine r_ladd (pc := 67) F dX11_digest_67 ?_
      refine r_lmul (pc := 68) F dX11_digest_68 ?_
      refine r_aload_n (pc := 69) 0 F dX11_digest_69 rfl rfl ?_
      refine gf_RX11_16 (pc := 70) F dX11_digest_70 ?_
      refine r_iload_n (pc := 73) 2 F dX11_digest_73 rfl rfl ?_
      have hg_21 := hb.1
      have hb := hb.2
      refine r_iald (pc := 74) F lc92.1 lc92.2.1 lc92.2.2 hg_21 dX11_digest_74 ?_
      refine r_i2l (pc := 75) F dX11_digest_75 ?_
      refine r_ladd (pc := 76) F dX11_digest_76 ?_
      refine V.nmL (fun x_22 ex_22 => ?_)
      have hb := hb x_22 ex_22
      refine r_lstore_n (pc := 77) (lv' := [(1, Lv x_22), (0, Rv 11), (3, Iv x3)]) F dX11_digest_77 rfl (by decide) rfl ?_
      refine r_ldc2 (pc := 78) F kl_RX11_193 (x := 31) (by decide) (inRL_lit rfl) dX11_digest_78 ?_
      refine r_ldc2 (pc := 81) F kl_RX11_193 (x := 31) (by decide) (inRL_lit rfl) dX11_digest_81 ?_
      refine r_ldc2 (pc := 84) F kl_RX11_193 (x := 31) (by decide) (inRL_lit rfl) dX11_digest_84 ?_
      refine r_lload_n (pc := 87) 0 F dX11_digest_87 rfl rfl ?_
      refine r_lmul (pc := 88) F dX11_digest_88 ?_
      refine r_aload_n (pc := 89) 1 F dX11_digest_89 rfl rfl ?_
      refine gf_RX11_19 (pc := 90) F dX11_digest_90 ?_
      refine r_iload_n (pc := 93) 2 F dX11_digest_93 rfl rfl ?_
      have hg_23 := hb.1
      have hb := hb.2
      refine r_iald (pc := 94) F lc93.1 lc93.2.1 lc93.2.2 hg_23 dX11_digest_94 ?_
      refine r_i2l (pc := 95) F dX11_digest_95 ?_
      refine r_ladd (pc := 96) F dX11_digest_96 ?_
      refine r_lmul (pc := 97) F dX11_digest_97 ?_
      refine r_aload_n (pc := 98) 1 F dX11_digest_98 rfl rfl ?_
      refine gf_RX11_22 (pc := 99) F dX11_digest_99 ?_
      refine r_iload_n (pc := 102) 2 F dX11_digest_102 rfl rfl ?_
      have hg_24 := hb.1
      have hb := hb.2
      refine r_iald (pc := 103) F lc94.1 lc94.2.1 lc94.2.2 hg_24 dX11_digest_103 ?_
      refine r_i2l (pc := 104) F dX11_digest_104 ?_
      refine r_ladd (pc := 105) F dX11_digest_105 ?_
      refine r_lmul (pc := 106) F dX11_digest_106 ?_
      refine r_aload_n (pc := 107) 1 F dX11_digest_107 rfl rfl ?_
      refine gf_RX11_25 (pc := 108) F dX11_digest_108 ?_
      refine r_iload_n (pc := 111) 2 F dX11_digest_111 rfl rfl ?_
      have hg_25 := hb.1
      have hb := hb.2
      refine r_iald (pc := 112) F lc95.1 lc95.2.1 lc95.2.2 hg_25 dX11_digest_112 ?_
      refine r_i2l (pc := 113) F dX11_digest_113 ?_
      refine r_ladd (pc := 114) F dX11_digest_114 ?_
      refine V.nmL (fun x_26 ex_26 => ?_)
      have hb := hb x_26 ex_26
      refine r_lstore_n (pc := 115) (lv' := [(1, Lv x_26), (0, Rv 11), (3, Iv x3)]) F dX11_digest_115 rfl (by decide) rfl ?_
      refine r_lload_n (pc := 116) 0 F dX11_digest_116 rfl rfl ?_
      refine r_aload_n (pc := 117) 1 F dX11_digest_117 rfl rfl ?_
      refine gf_RX11_31 (pc := 118) F dX11_digest_118 ?_
      refine r_iconst (pc := 121) F dX11_digest_121 (inR_lit rfl) ?_
      refine r_iload_n (pc := 122) 2 F dX11_digest_122 rfl rfl ?_
      refine r_imul (pc := 123) F dX11_digest_123 ?_
      refine r_iconst (pc := 124) F dX11_digest_124 (inR_lit rfl) ?_
      refine r_callSL (pc := 125) (avs := [Lv x_26, Rv 97, Iv (wrap (4 * x3)), Iv 4]) (st := []) F (c_X11_sums μ x_26 97 (wrap (4 * x3)) 4 _ hb) (by decide) cal_X11_sums st_X11_sums lk_RX11_200 rfl rfl (Nat.le_of_ble_eq_true rfl) dX11_digest_125 (fun r_27 μ_28 hb => ?_)
      refine r_lstore_n (pc := 128) (lv' := [(1, Lv r_27), (0, Rv 11), (3, Iv x3)]) F dX11_digest_128 rfl (by decide) rfl ?_
      refine r_iincN (pc := 129) 2 (lf := fun x_29 => [(3, Iv x_29), (1, Lv r_27), (0, Rv 11)]) F dX11_digest_129 rfl (by decide) rfl (fun x_29 ex_29 => ?_)
      have hb := hb x_29 ex_29
      refine r_goto (pc := 132) (tgt := 32) F dX11_digest_132 (by decide) ?_
      exact V.sub [2, 1, 0] rfl (g32 μ_28 r_27 x_29 hb)
  have hb := hb G6 G32 (fun μ x1 x3 hb => f6 μ x1 x3 (K6 μ x1 x3 hb)) (fun μ x1 x3 hb => f32 μ x1 x3 (K32 μ x1 x3 hb))
  unfold b_X11_digest_e at hb
  refine r_ldc2 (pc := 0) F kl_RX11_195 (x := 401) (by decide) (inRL_lit rfl) dX11_digest_0 ?_
  refine r_lstore_n (pc := 3) (lv' := [(1, Lv 401), (0, Rv 11)]) F dX11_digest_3 rfl (by decide) rfl ?_
  refine r_iconst (pc := 4) F dX11_digest_4 (inR_lit rfl) ?_
  refine r_istore_n (pc := 5) (lv' := [(3, Iv 0), (1, Lv 401), (0, Rv 11)]) F dX11_digest_5 rfl (by decide) rfl ?_
  exact V.sub [2, 1, 0] rfl (g6 μ 401 0 hb)
set_option maxHeartbeats 4000000 in
set_option maxRecDepth 100000 in
theorem c_X11_fell {g : Wc} {l : Launch} (μ : Mem) (Post : Pst) (hb : wp_X11_fell μ Post) : MtC g l yX11_fell cX11_fell 2 (some .int) 0 [Rv 11] μ (QI g Post) := by
  intro hok
  refine enter (own := RX11) (by decide) rfl (Nat.le_of_ble_eq_true rfl) hok (fun X hl F hr hR => ?_)
  subst hl
  show V g X 2 μ [(0, Rv 11)] 0 []
  unfold wp_X11_fell at hb
  have hb := hb
  unfold b_X11_fell_e at hb
  refine r_aload_n (pc := 0) 0 F dX11_fell_0 rfl rfl ?_
  refine gf_RX11_179 (pc := 1) F dX11_fell_1 ?_
  refine V.nmI (fun x_1 ex_1 => ?_)
  have hb := hb x_1 ex_1
  refine r_istore_n (pc := 4) (lv' := [(1, Iv x_1), (0, Rv 11)]) F dX11_fell_4 rfl (by decide) rfl ?_
  refine r_aload_n (pc := 5) 1 F dX11_fell_5 rfl rfl ?_
  refine r_iconst (pc := 6) F dX11_fell_6 (inR_lit rfl) ?_
  refine pf_RX11_179 (pc := 7) F dX11_fell_7 ?_
  refine V.nmM (fun μ_2 eμ_2 => ?_)
  have hb := hb μ_2 eμ_2
  refine r_iload_n (pc := 10) 0 F dX11_fell_10 rfl rfl ?_
  exact r_iret (pc := 11) F hR hr dX11_fell_11 hb
set_option maxHeartbeats 4000000 in
set_option maxRecDepth 100000 in
theorem c_X11_freeBehind {g : Wc} {l : Launch} (μ : Mem) (p0 : Int) (Post : Pst) (hb : wp_X11_freeBehind μ p0 Post) : MtC g l yX11_freeBehind cX11_freeBehind 6 (some .int) 0 [Rv 11, Iv p0] μ (QI g Post) := by
  intro hok
  refine enter (own := RX11) (by decide) rfl (Nat.le_of_ble_eq_true rfl) hok (fun X hl F hr hR => ?_)
  subst hl
  show V g X 6 μ [(0, Rv 11), (1, Iv p0)] 0 []
  unfold wp_X11_freeBehind at hb
  obtain ⟨G4, g4, f4⟩ : ∃ G : Mem → Int → Int → Int → Prop, (∀ μ x1 x2 x3, G μ x1 x2 x3 → V g X 6 μ [(0, Rv 11), (1, Iv x1), (2, Iv x2), (3, Iv x3)] 4 []) ∧ (∀ μ x1 x2 x3, V g X 6 μ [(0, Rv 11), (1, Iv x1), (2, Iv x2), (3, Iv x3)] 4 [] → G μ x1 x2 x3) := ⟨fun μ x1 x2 x3 => V g X 6 μ [(0, Rv 11), (1, Iv x1), (2, Iv x2), (3, Iv x3)] 4 [], fun _ _ _ _ h => h, fun _ _ _ _ h => h⟩
  obtain ⟨G30, g30, f30⟩ : ∃ G : Mem → Int → Int → Int → Int → Int → Prop, (∀ μ x1 x2 x3 x4 x5, G μ x1 x2 x3 x4 x5 → V g X 6 μ [(0, Rv 11), (1, Iv x1), (2, Iv x2), (3, Iv x3), (4, Iv x4), (5, Iv x5)] 30 []) ∧ (∀ μ x1 x2 x3 x4 x5, V g X 6 μ [(0, Rv 11), (1, Iv x1), (2, Iv x2), (3, Iv x3), (4, Iv x4), (5, Iv x5)] 30 [] → G μ x1 x2 x3 x4 x5) := ⟨fun μ x1 x2 x3 x4 x5 => V g X 6 μ [(0, Rv 11), (1, Iv x1), (2, Iv x2), (3, Iv x3), (4, Iv x4), (5, Iv x5)] 30 [], fun _ _ _ _ _ _ h => h, fun _ _ _ _ _ _ h => h⟩
  have K25 : ∀ (μ : Mem) (x1 : Int) (x2 : Int) (x3 : Int) (s0 : Int), b_X11_freeBehind_25 G4 G30 Post μ x1 x2 x3 s0 → V g X 6 μ [(0, Rv 11), (1, Iv x1), (2, Iv x2), (3, Iv x3)] 25 [Iv s0] := by
    intro μ x1 x2 x3 s0 hb
    unfold b_X11_freeBehind_25 at hb
    refine r_istore (pc := 25) (lv' := [(4, Iv s0), (0, Rv 11), (1, Iv x1), (2, Iv x2), (3, Iv x3)]) F dX11_freeBehind_25 (by decide) rfl ?_
    refine r_iconst (pc := 27) F dX11_freeBehind_27 (inR_lit rfl) ?_
    refine r_istore (pc := 28) (lv' := [(5, Iv 0), (4, Iv s0), (0, Rv 11), (1, Iv x1), (2, Iv x2), (3, Iv x3)]) F dX11_freeBehind_28 (by decide) rfl ?_
    exact V.sub [2, 3, 4, 5, 1, 0] rfl (g30 μ x1 x2 x3 s0 0 hb)
  have K70 : ∀ (μ : Mem) (x1 : Int) (x2 : Int) (x3 : Int) (x5 : Int) (s0 : Int), b_X11_freeBehind_70 G4 G30 Post μ x1 x2 x3 x5 s0 → V g X 6 μ [(0, Rv 11), (1, Iv x1), (2, Iv x2), (3, Iv x3), (5, Iv x5)] 70 [Iv s0] := by
    intro μ x1 x2 x3 x5 s0 hb
    unfold b_X11_freeBehind_70 at hb
    refine r_istore (pc := 70) (lv' := [(4, Iv s0), (0, Rv 11), (1, Iv x1), (2, Iv x2), (3, Iv x3), (5, Iv x5)]) F dX11_freeBehind_70 (by decide) rfl ?_
    refine r_iincN (pc := 72) 5 (lf := fun x_1 => [(5, Iv x_1), (4, Iv s0), (0, Rv 11), (1, Iv x1), (2, Iv x2), (3, Iv x3)]) F dX11_freeBehind_72 rfl (by decide) rfl (fun x_1 ex_1 => ?_)
    have hb := hb x_1 ex_1
    refine r_goto (pc := 75) (tgt := 30) F dX11_freeBehind_75 (by decide) ?_
    exact V.sub [2, 3, 4, 5, 1, 0] rfl (g30 μ x1 x2 x3 s0 x_1 hb)
  have K65 : ∀ (μ : Mem) (x1 : Int) (x2 : Int) (x3 : Int) (x5 : Int), b_X11_freeBehind_65 G4 G30 Post μ x1 x2 x3 x5 → V g X 6 μ [(0, Rv 11), (1, Iv x1), (2, Iv x2), (3, Iv x3), (5, Iv x5)] 65 [] := by
    intro μ x1 x2 x3 x5 hb
    unfold b_X11_freeBehind_65 at hb
    refine r_iconst (pc := 65) F dX11_freeBehind_65 (inR_lit rfl) ?_
    refine r_goto (pc := 66) (tgt := 70) F dX11_freeBehind_66 (by decide) ?_
    exact V.sub [0, 1, 2, 3, 4] rfl (K70 μ x1 x2 x3 x5 1 hb)
  have K69 : ∀ (μ : Mem) (x1 : Int) (x2 : Int) (x3 : Int) (x5 : Int), b_X11_freeBehind_69 G4 G30 Post μ x1 x2 x3 x5 → V g X 6 μ [(0, Rv 11), (1, Iv x1), (2, Iv x2), (3, Iv x3), (5, Iv x5)] 69 [] := by
    intro μ x1 x2 x3 x5 hb
    unfold b_X11_freeBehind_69 at hb
    refine r_iconst (pc := 69) F dX11_freeBehind_69 (inR_lit rfl) ?_
    exact V.sub [0, 1, 2, 3, 4] rfl (K70 μ x1 x2 x3 x5 0 hb)
  have K91 : ∀ (μ : Mem) (x1 : Int) (x3 : Int) (s0 : Int) (s1 : Int), b_X11_freeBehind_91 G4 G30 Post μ x1 x3 s0 s1 → V g X 6 μ [(0, Rv 11), (1, Iv x1), (3, Iv x3)] 91 [Iv s1, Iv s0] := by
    intro μ x1 x3 s0 s1 hb
    unfold b_X11_freeBehind_91 at hb
    refine r_ior (pc := 91) F dX11_freeBehind_91 ?_
    refine V.nmI (fun x_2 ex_2 => ?_)
    have hb := hb x_2 ex_2
    refine r_istore_n (pc := 92) (lv' := [(2, Iv x_2), (0, Rv 11), (1, Iv x1), (3, Iv x3)]) F dX11_freeBehind_92 rfl (by decide) rfl ?_
    refine r_iincN (pc := 93) 3 (lf := fun x_3 => [(3, Iv x_3), (2, Iv x_2), (0, Rv 11), (1, Iv x1)]) F dX11_freeBehind_93 rfl (by decide) rfl (fun x_3 ex_3 => ?_)
    have hb := hb x_3 ex_3
    refine r_goto (pc := 96) (tgt := 4) F dX11_freeBehind_96 (by decide) ?_
    exact V.sub [2, 3, 1, 0] rfl (g4 μ x1 x_2 x_3 hb)
  have K4 : ∀ (μ : Mem) (x1 : Int) (x2 : Int) (x3 : Int), b_X11_freeBehind_4 G4 G30 Post μ x1 x2 x3 → V g X 6 μ [(0, Rv 11), (1, Iv x1), (2, Iv x2), (3, Iv x3)] 4 [] := by
    intro μ x1 x2 x3 hb
    unfold b_X11_freeBehind_4 at hb
    refine r_iload_n (pc := 4) 3 F dX11_freeBehind_4 rfl rfl ?_
    refine r_aload_n (pc := 5) 0 F dX11_freeBehind_5 rfl rfl ?_
    refine gf_RX11_179 (pc := 6) F dX11_freeBehind_6 ?_
    refine r_icmp_ge (pc := 9) (tgt := 99) F dX11_freeBehind_9 (by decide) (fun c_4 => ?_) (fun c_4 => ?_)
    · have hb := hb.1 c_4
      refine r_iload_n (pc := 99) 2 F dX11_freeBehind_99 rfl rfl ?_
      exact r_iret (pc := 100) F hR hr dX11_freeBehind_100 hb
    · have hb := hb.2 c_4
      refine r_iload_n (pc := 12) 1 F dX11_freeBehind_12 rfl rfl ?_
      refine r_iload_n (pc := 13) 3 F dX11_freeBehind_13 rfl rfl ?_
      refine r_ishr (pc := 14) F dX11_freeBehind_14 ?_
      refine r_iconst (pc := 15) F dX11_freeBehind_15 (inR_lit rfl) ?_
      refine r_iand (pc := 16) F dX11_freeBehind_16 ?_
      refine r_if_ne (pc := 17) (tgt := 24) F dX11_freeBehind_17 (by decide) (fun c_5 => ?_) (fun c_5 => ?_)
      · have hb := hb.1 c_5
        refine r_iconst (pc := 24) F dX11_freeBehind_24 (inR_lit rfl) ?_
        exact V.sub [0, 1, 2, 3] rfl (K25 μ x1 x2 x3 0 hb)
      · have hb := hb.2 c_5
        refine r_iconst (pc := 20) F dX11_freeBehind_20 (inR_lit rfl) ?_
        refine r_goto (pc := 21) (tgt := 25) F dX11_freeBehind_21 (by decide) ?_
        exact V.sub [0, 1, 2, 3] rfl (K25 μ x1 x2 x3 1 hb)
  have K30 : ∀ (μ : Mem) (x1 : Int) (x2 : Int) (x3 : Int) (x4 : Int) (x5 : Int), b_X11_freeBehind_30 G4 G30 Post μ x1 x2 x3 x4 x5 → V g X 6 μ [(0, Rv 11), (1, Iv x1), (2, Iv x2), (3, Iv x3), (4, Iv x4), (5, Iv x5)] 30 [] := by
    intro μ x1 x2 x3 x4 x5 hb
    unfold b_X11_freeBehind_30 at hb
    refine r_iload (pc := 30) 5 F dX11_freeBehind_30 rfl ?_
    refine r_aload_n (pc := 32) 0 F dX11_freeBehind_32 rfl rfl ?_
    refine gf_RX11_179 (pc := 33) F dX11_freeBehind_33 ?_
    refine r_icmp_ge (pc := 36) (tgt := 78) F dX11_freeBehind_36 (by decide) (fun c_6 => ?_) (fun c_6 => ?_)
    · have hb := hb.1 c_6
      refine r_iload_n (pc := 78) 2 F dX11_freeBehind_78 rfl rfl ?_
      refine r_iload (pc := 79) 4 F dX11_freeBehind_79 rfl ?_
      refine r_if_eq (pc := 81) (tgt := 90) F dX11_freeBehind_81 (by decide) (fun c_7 => ?_) (fun c_7 => ?_)
      · have hb := hb.1 c_7
        refine r_iconst (pc := 90) F dX11_freeBehind_90 (inR_lit rfl) ?_
        exact V.sub [0, 1, 3] rfl (K91 μ x1 x3 x2 0 hb)
      · have hb := hb.2 c_7
        refine r_iconst (pc := 84) F dX11_freeBehind_84 (inR_lit rfl) ?_
        refine r_iload_n (pc := 85) 3 F dX11_freeBehind_85 rfl rfl ?_
        refine r_ishl (pc := 86) F dX11_freeBehind_86 ?_
        refine r_goto (pc := 87) (tgt := 91) F dX11_freeBehind_87 (by decide) ?_
        exact V.sub [0, 1, 3] rfl (K91 μ x1 x3 x2 (ishl 1 x3) hb)
    · have hb := hb.2 c_6
      refine r_iload (pc := 39) 4 F dX11_freeBehind_39 rfl ?_
      refine r_if_eq (pc := 41) (tgt := 69) F dX11_freeBehind_41 (by decide) (fun c_8 => ?_) (fun c_8 => ?_)
      · have hb := hb.1 c_8
        exact V.sub [0, 1, 2, 3, 5] rfl (K69 μ x1 x2 x3 x5 hb)
      · have hb := hb.2 c_8
        refine r_aload_n (pc := 44) 0 F dX11_freeBehind_44 rfl rfl ?_
        refine gf_RX11_50 (pc := 45) F dX11_freeBehind_45 ?_
        refine r_iload (pc := 48) 5 F dX11_freeBehind_48 rfl ?_
        have hg_9 := hb.1
        have hb := hb.2
        refine r_iald (pc := 50) F lc102.1 lc102.2.1 lc102.2.2 hg_9 dX11_freeBehind_50 ?_
        refine r_iload_n (pc := 51) 3 F dX11_freeBehind_51 rfl rfl ?_
        refine r_icmp_ne (pc := 52) (tgt := 65) F dX11_freeBehind_52 (by decide) (fun c_10 => ?_) (fun c_10 => ?_)
        · have hb := hb.1 c_10
          exact V.sub [0, 1, 2, 3, 5] rfl (K65 μ x1 x2 x3 x5 hb)
        · have hb := hb.2 c_10
          refine r_iload_n (pc := 55) 1 F dX11_freeBehind_55 rfl rfl ?_
          refine r_iload (pc := 56) 5 F dX11_freeBehind_56 rfl ?_
          refine r_ishr (pc := 58) F dX11_freeBehind_58 ?_
          refine r_iconst (pc := 59) F dX11_freeBehind_59 (inR_lit rfl) ?_
          refine r_iand (pc := 60) F dX11_freeBehind_60 ?_
          refine r_iconst (pc := 61) F dX11_freeBehind_61 (inR_lit rfl) ?_
          refine r_icmp_ne (pc := 62) (tgt := 69) F dX11_freeBehind_62 (by decide) (fun c_11 => ?_) (fun c_11 => ?_)
          · have hb := hb.1 c_11
            exact V.sub [0, 1, 2, 3, 5] rfl (K69 μ x1 x2 x3 x5 hb)
          · have hb := hb.2 c_11
            exact V.sub [0, 1, 2, 3, 5] rfl (K65 μ x1 x2 x3 x5 hb)
  have hb := hb G4 G30 (fun μ x1 x2 x3 hb => f4 μ x1 x2 x3 (K4 μ x1 x2 x3 hb)) (fun μ x1 x2 x3 x4 x5 hb => f30 μ x1 x2 x3 x4 x5 (K30 μ x1 x2 x3 x4 x5 hb))
  unfold b_X11_freeBehind_e at hb
  refine r_iconst (pc := 0) F dX11_freeBehind_0 (inR_lit rfl) ?_
  refine r_istore_n (pc := 1) (lv' := [(2, Iv 0), (0, Rv 11), (1, Iv p0)]) F dX11_freeBehind_1 rfl (by decide) rfl ?_
  refine r_iconst (pc := 2) F dX11_freeBehind_2 (inR_lit rfl) ?_
  refine r_istore_n (pc := 3) (lv' := [(3, Iv 0), (2, Iv 0), (0, Rv 11), (1, Iv p0)]) F dX11_freeBehind_3 rfl (by decide) rfl ?_
  exact V.sub [2, 3, 1, 0] rfl (g4 μ p0 0 0 hb)
set_option maxHeartbeats 4000000 in
set_option maxRecDepth 100000 in
theorem c_X11_heldAt {g : Wc} {l : Launch} (μ : Mem) (p0 : Int) (p1 : Int) (Post : Pst) (hb : wp_X11_heldAt μ p0 p1 Post) : MtC g l yX11_heldAt cX11_heldAt 6 (some .int) 0 [Rv 11, Iv p0, Iv p1] μ (QI g Post) := by
  intro hok
  refine enter (own := RX11) (by decide) rfl (Nat.le_of_ble_eq_true rfl) hok (fun X hl F hr hR => ?_)
  subst hl
  show V g X 6 μ [(0, Rv 11), (1, Iv p0), (2, Iv p1)] 0 []
  unfold wp_X11_heldAt at hb
  obtain ⟨G5, g5, f5⟩ : ∃ G : Mem → Int → Int → Int → Int → Prop, (∀ μ x1 x2 x3 x4, G μ x1 x2 x3 x4 → V g X 6 μ [(0, Rv 11), (1, Iv x1), (2, Iv x2), (3, Iv x3), (4, Iv x4)] 5 []) ∧ (∀ μ x1 x2 x3 x4, V g X 6 μ [(0, Rv 11), (1, Iv x1), (2, Iv x2), (3, Iv x3), (4, Iv x4)] 5 [] → G μ x1 x2 x3 x4) := ⟨fun μ x1 x2 x3 x4 => V g X 6 μ [(0, Rv 11), (1, Iv x1), (2, Iv x2), (3, Iv x3), (4, Iv x4)] 5 [], fun _ _ _ _ _ h => h, fun _ _ _ _ _ h => h⟩
  have K62 : ∀ (μ : Mem) (x1 : Int) (x2 : Int) (x4 : Int) (x5 : Int), b_X11_heldAt_62 G5 Post μ x1 x2 x4 x5 → V g X 6 μ [(0, Rv 11), (1, Iv x1), (2, Iv x2), (4, Iv x4), (5, Iv x5)] 62 [] := by
    intro μ x1 x2 x4 x5 hb
    unfold b_X11_heldAt_62 at hb
    refine r_iload (pc := 62) 4 F dX11_heldAt_62 rfl ?_
    refine r_istore_n (pc := 64) (lv' := [(3, Iv x5), (0, Rv 11), (1, Iv x1), (2, Iv x2), (4, Iv x4), (5, Iv x5)]) F dX11_heldAt_64 rfl (by decide) rfl ?_
    refine r_iincN (pc := 65) 4 (lf := fun x_1 => [(4, Iv x_1), (3, Iv x5), (0, Rv 11), (1, Iv x1), (2, Iv x2), (5, Iv x5)]) F dX11_heldAt_65 rfl (by decide) rfl (fun x_1 ex_1 => ?_)
    have hb := hb x_1 ex_1
    refine r_goto (pc := 68) (tgt := 5) F dX11_heldAt_68 (by decide) ?_
    exact V.sub [2, 3, 4, 1, 0] rfl (g5 μ x1 x2 x5 x_1 hb)
  have K5 : ∀ (μ : Mem) (x1 : Int) (x2 : Int) (x3 : Int) (x4 : Int), b_X11_heldAt_5 G5 Post μ x1 x2 x3 x4 → V g X 6 μ [(0, Rv 11), (1, Iv x1), (2, Iv x2), (3, Iv x3), (4, Iv x4)] 5 [] := by
    intro μ x1 x2 x3 x4 hb
    unfold b_X11_heldAt_5 at hb
    refine r_iload (pc := 5) 4 F dX11_heldAt_5 rfl ?_
    refine r_aload_n (pc := 7) 0 F dX11_heldAt_7 rfl rfl ?_
    refine gf_RX11_47 (pc := 8) F dX11_heldAt_8 ?_
    refine r_iload_n (pc := 11) 1 F dX11_heldAt_11 rfl rfl ?_
    have hg_2 := hb.1
    have hb := hb.2
    refine r_iald (pc := 12) F lc101.1 lc101.2.1 lc101.2.2 hg_2 dX11_heldAt_12 ?_
    refine r_icmp_ge (pc := 13) (tgt := 71) F dX11_heldAt_13 (by decide) (fun c_3 => ?_) (fun c_3 => ?_)
    · have hb := hb.1 c_3
      refine r_iconst (pc := 71) F dX11_heldAt_71 (inR_lit rfl) ?_
      exact r_iret (pc := 72) F hR hr dX11_heldAt_72 hb
    · have hb := hb.2 c_3
      refine r_iload_n (pc := 16) 3 F dX11_heldAt_16 rfl rfl ?_
      refine r_aload_n (pc := 17) 0 F dX11_heldAt_17 rfl rfl ?_
      refine gf_RX11_44 (pc := 18) F dX11_heldAt_18 ?_
      refine r_bipush (pc := 21) F dX11_heldAt_21 (inR_lit rfl) (by decide) ?_
      refine r_iload_n (pc := 23) 1 F dX11_heldAt_23 rfl rfl ?_
      refine r_imul (pc := 24) F dX11_heldAt_24 ?_
      refine r_iconst (pc := 25) F dX11_heldAt_25 (inR_lit rfl) ?_
      refine r_iload (pc := 26) 4 F dX11_heldAt_26 rfl ?_
      refine r_imul (pc := 28) F dX11_heldAt_28 ?_
      refine r_iadd (pc := 29) F dX11_heldAt_29 ?_
      refine r_iconst (pc := 30) F dX11_heldAt_30 (inR_lit rfl) ?_
      refine r_iadd (pc := 31) F dX11_heldAt_31 ?_
      have hg_4 := hb.1
      have hb := hb.2
      refine r_iald (pc := 32) F lc100.1 lc100.2.1 lc100.2.2 hg_4 dX11_heldAt_32 ?_
      refine r_iadd (pc := 33) F dX11_heldAt_33 ?_
      refine V.nmI (fun x_5 ex_5 => ?_)
      have hb := hb x_5 ex_5
      refine r_istore (pc := 34) (lv' := [(5, Iv x_5), (0, Rv 11), (1, Iv x1), (2, Iv x2), (3, Iv x3), (4, Iv x4)]) F dX11_heldAt_34 (by decide) rfl ?_
      refine r_iload_n (pc := 36) 3 F dX11_heldAt_36 rfl rfl ?_
      refine r_iload_n (pc := 37) 4 F dX11_heldAt_37 rfl rfl ?_
      refine r_icmp_le (pc := 38) (tgt := 62) F dX11_heldAt_38 (by decide) (fun c_6 => ?_) (fun c_6 => ?_)
      · have hb := hb.1 c_6
        exact V.sub [1, 2, 3, 5, 0] rfl (K62 μ x1 x2 x4 x_5 hb)
      · have hb := hb.2 c_6
        refine r_iload_n (pc := 41) 3 F dX11_heldAt_41 rfl rfl ?_
        refine r_iload (pc := 42) 0 F dX11_heldAt_42 rfl ?_
        refine r_icmp_ge (pc := 44) (tgt := 62) F dX11_heldAt_44 (by decide) (fun c_7 => ?_) (fun c_7 => ?_)
        · have hb := hb.1 c_7
          exact V.sub [1, 2, 3, 5, 0] rfl (K62 μ x1 x2 x4 x_5 hb)
        · have hb := hb.2 c_7
          refine r_aload_n (pc := 47) 1 F dX11_heldAt_47 rfl rfl ?_
          refine gf_RX11_44 (pc := 48) F dX11_heldAt_48 ?_
          refine r_bipush (pc := 51) F dX11_heldAt_51 (inR_lit rfl) (by decide) ?_
          refine r_iload_n (pc := 53) 2 F dX11_heldAt_53 rfl rfl ?_
          refine r_imul (pc := 54) F dX11_heldAt_54 ?_
          refine r_iconst (pc := 55) F dX11_heldAt_55 (inR_lit rfl) ?_
          refine r_iload (pc := 56) 5 F dX11_heldAt_56 rfl ?_
          refine r_imul (pc := 58) F dX11_heldAt_58 ?_
          refine r_iadd (pc := 59) F dX11_heldAt_59 ?_
          have hg_8 := hb.1
          have hb := hb.2
          refine r_iald (pc := 60) F lc100.1 lc100.2.1 lc100.2.2 hg_8 dX11_heldAt_60 ?_
          exact r_iret (pc := 61) F hR hr dX11_heldAt_61 hb
  have hb := hb G5 (fun μ x1 x2 x3 x4 hb => f5 μ x1 x2 x3 x4 (K5 μ x1 x2 x3 x4 hb))
  unfold b_X11_heldAt_e at hb
  refine r_iconst (pc := 0) F dX11_heldAt_0 (inR_lit rfl) ?_
  refine r_istore_n (pc := 1) (lv' := [(3, Iv 0), (0, Rv 11), (1, Iv p0), (2, Iv p1)]) F dX11_heldAt_1 rfl (by decide) rfl ?_
  refine r_iconst (pc := 2) F dX11_heldAt_2 (inR_lit rfl) ?_
  refine r_istore (pc := 3) (lv' := [(4, Iv 0), (3, Iv 0), (0, Rv 11), (1, Iv p0), (2, Iv p1)]) F dX11_heldAt_3 (by decide) rfl ?_
  exact V.sub [2, 3, 4, 1, 0] rfl (g5 μ p0 p1 0 0 hb)
set_option maxHeartbeats 4000000 in
set_option maxRecDepth 100000 in
theorem c_X11_judge {g : Wc} {l : Launch} (μ : Mem) (p0 : Int) (Post : Pst) (hb : wp_X11_judge μ p0 Post) : MtC g l yX11_judge cX11_judge 3 (some .int) 2 [Rv 11, Iv p0] μ (QI g Post) := by
  intro hok
  refine enter (own := RX11) (by decide) rfl (Nat.le_of_ble_eq_true rfl) hok (fun X hl F hr hR => ?_)
  subst hl
  show V g X 3 μ [(0, Rv 11), (1, Iv p0)] 0 []
  unfold wp_X11_judge at hb
  obtain ⟨G31, g31, f31⟩ : ∃ G : Mem → Int → Int → Prop, (∀ μ x1 x2, G μ x1 x2 → V g X 3 μ [(0, Rv 11), (1, Iv x1), (2, Iv x2)] 31 []) ∧ (∀ μ x1 x2, V g X 3 μ [(0, Rv 11), (1, Iv x1), (2, Iv x2)] 31 [] → G μ x1 x2) := ⟨fun μ x1 x2 => V g X 3 μ [(0, Rv 11), (1, Iv x1), (2, Iv x2)] 31 [], fun _ _ _ h => h, fun _ _ _ h => h⟩
  have K31 : ∀ (μ : Mem) (x1 : Int) (x2 : Int), b_X11_judge_31 G31 Post μ x1 x2 → V g X 3 μ [(0, Rv 11), (1, Iv x1), (2, Iv x2)] 31 [] := by
    intro μ x1 x2 hb
    unfold b_X11_judge_31 at hb
    refine r_iload_n (pc := 31) 2 F dX11_judge_31 rfl rfl ?_
    refine r_aload_n (pc := 32) 0 F dX11_judge_32 rfl rfl ?_
    refine gf_RX11_83 (pc := 33) F dX11_judge_33 ?_
    refine r_icmp_ge (pc := 36) (tgt := 57) F dX11_judge_36 (by decide) (fun c_1 => ?_) (fun c_1 => ?_)
    · have hb := hb.1 c_1
      refine r_iload_n (pc := 57) 1 F dX11_judge_57 rfl rfl ?_
      refine r_iconst (pc := 58) F dX11_judge_58 (inR_lit rfl) ?_
      refine r_icmp_ne (pc := 59) (tgt := 72) F dX11_judge_59 (by decide) (fun c_2 => ?_) (fun c_2 => ?_)
      · have hb := hb.1 c_2
        refine r_aload_n (pc := 72) 0 F dX11_judge_72 rfl rfl ?_
        refine r_callI (pc := 73) (avs := []) (st := []) F (c_X11_isLawful μ _ hb) (by decide) cal_X11_isLawful calv_X11_isLawful lk_RX11_120 rfl rfl (Nat.le_of_ble_eq_true rfl) dX11_judge_73 (fun r_3 μ_4 hb => ?_)
        refine r_if_eq (pc := 76) (tgt := 87) F dX11_judge_76 (by decide) (fun c_5 => ?_) (fun c_5 => ?_)
        · have hb := hb.1 c_5
          refine r_bipush (pc := 87) F dX11_judge_87 (inR_lit rfl) (by decide) ?_
          exact r_iret (pc := 89) F hR hr dX11_judge_89 hb
        · have hb := hb.2 c_5
          refine r_aload_n (pc := 79) 0 F dX11_judge_79 rfl rfl ?_
          refine r_iload_n (pc := 80) 1 F dX11_judge_80 rfl rfl ?_
          refine r_callI (pc := 81) (avs := [Iv x1]) (st := []) F (c_X11_makes μ_4 x1 _ hb) (by decide) cal_X11_makes calv_X11_makes lk_RX11_128 rfl rfl (Nat.le_of_ble_eq_true rfl) dX11_judge_81 (fun r_6 μ_7 hb => ?_)
          refine r_goto (pc := 84) (tgt := 89) F dX11_judge_84 (by decide) ?_
          exact r_iret (pc := 89) F hR hr dX11_judge_89 hb
      · have hb := hb.2 c_2
        refine r_aload_n (pc := 62) 0 F dX11_judge_62 rfl rfl ?_
        refine r_aload_n (pc := 63) 0 F dX11_judge_63 rfl rfl ?_
        refine gf_RX11_34 (pc := 64) F dX11_judge_64 ?_
        refine r_iconst (pc := 67) F dX11_judge_67 (inR_lit rfl) ?_
        refine r_callI (pc := 68) (avs := [Iv (μ 11 9), Iv 0]) (st := []) F (c_X11_rowEnd μ (μ 11 9) 0 _ hb) (by decide) cal_X11_rowEnd calv_X11_rowEnd lk_RX11_124 rfl rfl (Nat.le_of_ble_eq_true rfl) dX11_judge_68 (fun r_8 μ_9 hb => ?_)
        exact r_iret (pc := 71) F hR hr dX11_judge_71 hb
    · have hb := hb.2 c_1
      refine r_aload_n (pc := 39) 0 F dX11_judge_39 rfl rfl ?_
      refine gf_RX11_56 (pc := 40) F dX11_judge_40 ?_
      refine r_iload_n (pc := 43) 2 F dX11_judge_43 rfl rfl ?_
      refine r_aload_n (pc := 44) 0 F dX11_judge_44 rfl rfl ?_
      refine gf_RX11_41 (pc := 45) F dX11_judge_45 ?_
      refine r_iload_n (pc := 48) 2 F dX11_judge_48 rfl rfl ?_
      have hg_10 := hb.1
      have hb := hb.2
      refine r_iald (pc := 49) F lc99.1 lc99.2.1 lc99.2.2 hg_10 dX11_judge_49 ?_
      have hg_11 := hb.1
      have hb := hb.2
      refine r_iast (pc := 50) F lc103.1 lc103.2.1 lc103.2.2 hg_11 dX11_judge_50 ?_
      refine V.nmM (fun μ_12 eμ_12 => ?_)
      have hb := hb μ_12 eμ_12
      refine r_iincN (pc := 51) 2 (lf := fun x_13 => [(2, Iv x_13), (0, Rv 11), (1, Iv x1)]) F dX11_judge_51 rfl (by decide) rfl (fun x_13 ex_13 => ?_)
      have hb := hb x_13 ex_13
      refine r_goto (pc := 54) (tgt := 31) F dX11_judge_54 (by decide) ?_
      exact V.sub [1, 2, 0] rfl (g31 μ_12 x1 x_13 hb)
  have hb := hb G31 (fun μ x1 x2 hb => f31 μ x1 x2 (K31 μ x1 x2 hb))
  unfold b_X11_judge_e at hb
  refine r_iload_n (pc := 0) 1 F dX11_judge_0 rfl rfl ?_
  refine r_i2l (pc := 1) F dX11_judge_1 ?_
  refine r_lconst (pc := 2) (x := 0) F dX11_judge_2 (inRL_lit rfl) (by decide) ?_
  refine r_ldc2 (pc := 3) F kl_RX11_154 (x := 5) (by decide) (inRL_lit rfl) dX11_judge_3 ?_
  refine r_callSI (pc := 6) (avs := [Lv p0, Lv 0, Lv 5]) (st := []) F (c_X11_in μ p0 0 5 _ hb) (by decide) cal_X11_in st_X11_in lk_RX11_86 rfl rfl (Nat.le_of_ble_eq_true rfl) dX11_judge_6 (fun r_14 μ_15 hb => ?_)
  refine r_if_ne (pc := 9) (tgt := 15) F dX11_judge_9 (by decide) (fun c_16 => ?_) (fun c_16 => ?_)
  · have hb := hb.1 c_16
    refine r_aload_n (pc := 15) 0 F dX11_judge_15 rfl rfl ?_
    refine gf_RX11_151 (pc := 16) F dX11_judge_16 ?_
    refine r_aload_n (pc := 19) 0 F dX11_judge_19 rfl rfl ?_
    refine gf_RX11_83 (pc := 20) F dX11_judge_20 ?_
    refine r_icmp_ge (pc := 23) (tgt := 29) F dX11_judge_23 (by decide) (fun c_17 => ?_) (fun c_17 => ?_)
    · have hb := hb.1 c_17
      refine r_iconst (pc := 29) F dX11_judge_29 (inR_lit rfl) ?_
      refine r_istore_n (pc := 30) (lv' := [(2, Iv 0), (0, Rv 11), (1, Iv p0)]) F dX11_judge_30 rfl (by decide) rfl ?_
      exact V.sub [1, 2, 0] rfl (g31 μ_15 p0 0 hb)
    · have hb := hb.2 c_17
      refine r_bipush (pc := 26) F dX11_judge_26 (inR_lit rfl) (by decide) ?_
      exact r_iret (pc := 28) F hR hr dX11_judge_28 hb
  · have hb := hb.2 c_16
    refine r_bipush (pc := 12) F dX11_judge_12 (inR_lit rfl) (by decide) ?_
    exact r_iret (pc := 14) F hR hr dX11_judge_14 hb
set_option maxHeartbeats 4000000 in
set_option maxRecDepth 100000 in
theorem c_X11_lastFirst {g : Wc} {l : Launch} (μ : Mem) (p0 : Int) (Post : Pst) (hb : wp_X11_lastFirst μ p0 Post) : MtC g l yX11_lastFirst cX11_lastFirst 11 (some .int) 2 [Rv 11, Iv p0] μ (QI g Post) := by
  intro hok
  refine enter (own := RX11) (by decide) rfl (Nat.le_of_ble_eq_true rfl) hok (fun X hl F hr hR => ?_)
  subst hl
  show V g X 11 μ [(0, Rv 11), (1, Iv p0)] 0 []
  unfold wp_X11_lastFirst at hb
  obtain ⟨G25, g25, f25⟩ : ∃ G : Mem → Int → Int → Int → Int → Prop, (∀ μ x1 x2 x3 x4, G μ x1 x2 x3 x4 → V g X 11 μ [(0, Rv 11), (1, Iv x1), (2, Iv x2), (3, Iv x3), (4, Iv x4)] 25 []) ∧ (∀ μ x1 x2 x3 x4, V g X 11 μ [(0, Rv 11), (1, Iv x1), (2, Iv x2), (3, Iv x3), (4, Iv x4)] 25 [] → G μ x1 x2 x3 x4) := ⟨fun μ x1 x2 x3 x4 => V g X 11 μ [(0, Rv 11), (1, Iv x1), (2, Iv x2), (3, Iv x3), (4, Iv x4)] 25 [], fun _ _ _ _ _ h => h, fun _ _ _ _ _ h => h⟩
  obtain ⟨G61, g61, f61⟩ : ∃ G : Mem → Int → Int → Int → Int → Int → Prop, (∀ μ x1 x2 x3 x4 x5, G μ x1 x2 x3 x4 x5 → V g X 11 μ [(0, Rv 11), (1, Iv x1), (2, Iv x2), (3, Iv x3), (4, Iv x4), (5, Iv x5)] 61 []) ∧ (∀ μ x1 x2 x3 x4 x5, V g X 11 μ [(0, Rv 11), (1, Iv x1), (2, Iv x2), (3, Iv x3), (4, Iv x4), (5, Iv x5)] 61 [] → G μ x1 x2 x3 x4 x5) := ⟨fun μ x1 x2 x3 x4 x5 => V g X 11 μ [(0, Rv 11), (1, Iv x1), (2, Iv x2), (3, Iv x3), (4, Iv x4), (5, Iv x5)] 61 [], fun _ _ _ _ _ _ h => h, fun _ _ _ _ _ _ h => h⟩
  obtain ⟨G75, g75, f75⟩ : ∃ G : Mem → Int → Int → Int → Int → Int → Int → Int → Int → Prop, (∀ μ x1 x2 x3 x4 x5 x6 x7 x8, G μ x1 x2 x3 x4 x5 x6 x7 x8 → V g X 11 μ [(0, Rv 11), (1, Iv x1), (2, Iv x2), (3, Iv x3), (4, Iv x4), (5, Iv x5), (6, Iv x6), (7, Iv x7), (8, Iv x8)] 75 []) ∧ (∀ μ x1 x2 x3 x4 x5 x6 x7 x8, V g X 11 μ [(0, Rv 11), (1, Iv x1), (2, Iv x2), (3, Iv x3), (4, Iv x4), (5, Iv x5), (6, Iv x6), (7, Iv x7), (8, Iv x8)] 75 [] → G μ x1 x2 x3 x4 x5 x6 x7 x8) := ⟨fun μ x1 x2 x3 x4 x5 x6 x7 x8 => V g X 11 μ [(0, Rv 11), (1, Iv x1), (2, Iv x2), (3, Iv x3), (4, Iv x4), (5, Iv x5), (6, Iv x6), (7, Iv x7), (8, Iv x8)] 75 [], fun _ _ _ _ _ _ _ _ _ h => h, fun _ _ _ _ _ _ _ _ _ h => h⟩
  obtain ⟨G104, g104, f104⟩ : ∃ G : Mem → Int → Int → Int → Int → Int → Int → Int → Int → Int → Int → Prop, (∀ μ x1 x2 x3 x4 x5 x6 x7 x8 x9 x10, G μ x1 x2 x3 x4 x5 x6 x7 x8 x9 x10 → V g X 11 μ [(0, Rv 11), (1, Iv x1), (2, Iv x2), (3, Iv x3), (4, Iv x4), (5, Iv x5), (6, Iv x6), (7, Iv x7), (8, Iv x8), (9, Iv x9), (10, Iv x10)] 104 []) ∧ (∀ μ x1 x2 x3 x4 x5 x6 x7 x8 x9 x10, V g X 11 μ [(0, Rv 11), (1, Iv x1), (2, Iv x2), (3, Iv x3), (4, Iv x4), (5, Iv x5), (6, Iv x6), (7, Iv x7), (8, Iv x8), (9, Iv x9), (10, Iv x10)] 104 [] → G μ x1 x2 x3 x4 x5 x6 x7 x8 x9 x10) := ⟨fun μ x1 x2 x3 x4 x5 x6 x7 x8 x9 x10 => V g X 11 μ [(0, Rv 11), (1, Iv x1), (2, Iv x2), (3, Iv x3), (4, Iv x4), (5, Iv x5), (6, Iv x6), (7, Iv x7), (8, Iv x8), (9, Iv x9), (10, Iv x10)] 104 [], fun _ _ _ _ _ _ _ _ _ _ _ h => h, fun _ _ _ _ _ _ _ _ _ _ _ h => h⟩
  have K99 : ∀ (μ : Mem) (x1 : Int) (x2 : Int) (x3 : Int) (x4 : Int) (x5 : Int) (x6 : Int) (x7 : Int) (x8 : Int) (s0 : Int), b_X11_lastFirst_99 G25 G61 G75 G104 Post μ x1 x2 x3 x4 x5 x6 x7 x8 s0 → V g X 11 μ [(0, Rv 11), (1, Iv x1), (2, Iv x2), (3, Iv x3), (4, Iv x4), (5, Iv x5), (6, Iv x6), (7, Iv x7), (8, Iv x8)] 99 [Iv s0] := by
    intro μ x1 x2 x3 x4 x5 x6 x7 x8 s0 hb
    unfold b_X11_lastFirst_99 at hb
    refine r_istore (pc := 99) (lv' := [(9, Iv s0), (0, Rv 11), (1, Iv x1), (2, Iv x2), (3, Iv x3), (4, Iv x4), (5, Iv x5), (6, Iv x6), (7, Iv x7), (8, Iv x8)]) F dX11_lastFirst_99 (by decide) rfl ?_
    refine r_iconst (pc := 101) F dX11_lastFirst_101 (inR_lit rfl) ?_
    refine r_istore (pc := 102) (lv' := [(10, Iv 0), (9, Iv s0), (0, Rv 11), (1, Iv x1), (2, Iv x2), (3, Iv x3), (4, Iv x4), (5, Iv x5), (6, Iv x6), (7, Iv x7), (8, Iv x8)]) F dX11_lastFirst_102 (by decide) rfl ?_
    exact V.sub [2, 3, 4, 5, 6, 7, 8, 9, 10, 1, 0] rfl (g104 μ x1 x2 x3 x4 x5 x6 x7 x8 s0 0 hb)
  have K147 : ∀ (μ : Mem) (x1 : Int) (x2 : Int) (x3 : Int) (x4 : Int) (x5 : Int) (x6 : Int) (x7 : Int) (x8 : Int) (x10 : Int) (s0 : Int), b_X11_lastFirst_147 G25 G61 G75 G104 Post μ x1 x2 x3 x4 x5 x6 x7 x8 x10 s0 → V g X 11 μ [(0, Rv 11), (1, Iv x1), (2, Iv x2), (3, Iv x3), (4, Iv x4), (5, Iv x5), (6, Iv x6), (7, Iv x7), (8, Iv x8), (10, Iv x10)] 147 [Iv s0] := by
    intro μ x1 x2 x3 x4 x5 x6 x7 x8 x10 s0 hb
    unfold b_X11_lastFirst_147 at hb
    refine r_istore (pc := 147) (lv' := [(9, Iv s0), (0, Rv 11), (1, Iv x1), (2, Iv x2), (3, Iv x3), (4, Iv x4), (5, Iv x5), (6, Iv x6), (7, Iv x7), (8, Iv x8), (10, Iv x10)]) F dX11_lastFirst_147 (by decide) rfl ?_
    refine r_iincN (pc := 149) 10 (lf := fun x_1 => [(10, Iv x_1), (9, Iv s0), (0, Rv 11), (1, Iv x1), (2, Iv x2), (3, Iv x3), (4, Iv x4), (5, Iv x5), (6, Iv x6), (7, Iv x7), (8, Iv x8)]) F dX11_lastFirst_149 rfl (by decide) rfl (fun x_1 ex_1 => ?_)
    have hb := hb x_1 ex_1
    refine r_goto (pc := 152) (tgt := 104) F dX11_lastFirst_152 (by decide) ?_
    exact V.sub [2, 3, 4, 5, 6, 7, 8, 9, 10, 1, 0] rfl (g104 μ x1 x2 x3 x4 x5 x6 x7 x8 s0 x_1 hb)
  have K142 : ∀ (μ : Mem) (x1 : Int) (x2 : Int) (x3 : Int) (x4 : Int) (x5 : Int) (x6 : Int) (x7 : Int) (x8 : Int) (x10 : Int), b_X11_lastFirst_142 G25 G61 G75 G104 Post μ x1 x2 x3 x4 x5 x6 x7 x8 x10 → V g X 11 μ [(0, Rv 11), (1, Iv x1), (2, Iv x2), (3, Iv x3), (4, Iv x4), (5, Iv x5), (6, Iv x6), (7, Iv x7), (8, Iv x8), (10, Iv x10)] 142 [] := by
    intro μ x1 x2 x3 x4 x5 x6 x7 x8 x10 hb
    unfold b_X11_lastFirst_142 at hb
    refine r_iconst (pc := 142) F dX11_lastFirst_142 (inR_lit rfl) ?_
    refine r_goto (pc := 143) (tgt := 147) F dX11_lastFirst_143 (by decide) ?_
    exact V.sub [0, 1, 2, 3, 4, 5, 6, 7, 8, 9] rfl (K147 μ x1 x2 x3 x4 x5 x6 x7 x8 x10 1 hb)
  have K146 : ∀ (μ : Mem) (x1 : Int) (x2 : Int) (x3 : Int) (x4 : Int) (x5 : Int) (x6 : Int) (x7 : Int) (x8 : Int) (x10 : Int), b_X11_lastFirst_146 G25 G61 G75 G104 Post μ x1 x2 x3 x4 x5 x6 x7 x8 x10 → V g X 11 μ [(0, Rv 11), (1, Iv x1), (2, Iv x2), (3, Iv x3), (4, Iv x4), (5, Iv x5), (6, Iv x6), (7, Iv x7), (8, Iv x8), (10, Iv x10)] 146 [] := by
    intro μ x1 x2 x3 x4 x5 x6 x7 x8 x10 hb
    unfold b_X11_lastFirst_146 at hb
    refine r_iconst (pc := 146) F dX11_lastFirst_146 (inR_lit rfl) ?_
    exact V.sub [0, 1, 2, 3, 4, 5, 6, 7, 8, 9] rfl (K147 μ x1 x2 x3 x4 x5 x6 x7 x8 x10 0 hb)
  have K207 : ∀ (μ : Mem) (x1 : Int) (x2 : Int) (x3 : Int) (x4 : Int) (x5 : Int) (x6 : Int) (x7 : Int) (x8 : Int), b_X11_lastFirst_207 G25 G61 G75 G104 Post μ x1 x2 x3 x4 x5 x6 x7 x8 → V g X 11 μ [(0, Rv 11), (1, Iv x1), (2, Iv x2), (3, Iv x3), (4, Iv x4), (5, Iv x5), (6, Iv x6), (7, Iv x7), (8, Iv x8)] 207 [] := by
    intro μ x1 x2 x3 x4 x5 x6 x7 x8 hb
    unfold b_X11_lastFirst_207 at hb
    refine r_iincN (pc := 207) 8 (lf := fun x_2 => [(8, Iv x_2), (0, Rv 11), (1, Iv x1), (2, Iv x2), (3, Iv x3), (4, Iv x4), (5, Iv x5), (6, Iv x6), (7, Iv x7)]) F dX11_lastFirst_207 rfl (by decide) rfl (fun x_2 ex_2 => ?_)
    have hb := hb x_2 ex_2
    refine r_goto (pc := 210) (tgt := 75) F dX11_lastFirst_210 (by decide) ?_
    exact V.sub [1, 2, 3, 4, 5, 6, 7, 8, 0] rfl (g75 μ x1 x2 x3 x4 x5 x6 x7 x_2 hb)
  have K199 : ∀ (μ : Mem) (x1 : Int) (x2 : Int) (x3 : Int) (x4 : Int) (x5 : Int) (x8 : Int) (x10 : Int), b_X11_lastFirst_199 G25 G61 G75 G104 Post μ x1 x2 x3 x4 x5 x8 x10 → V g X 11 μ [(0, Rv 11), (1, Iv x1), (2, Iv x2), (3, Iv x3), (4, Iv x4), (5, Iv x5), (8, Iv x8), (10, Iv x10)] 199 [] := by
    intro μ x1 x2 x3 x4 x5 x8 x10 hb
    unfold b_X11_lastFirst_199 at hb
    refine r_iload (pc := 199) 6 F dX11_lastFirst_199 rfl ?_
    refine r_istore (pc := 201) (lv' := [(6, Iv x8), (0, Rv 11), (1, Iv x1), (2, Iv x2), (3, Iv x3), (4, Iv x4), (5, Iv x5), (8, Iv x8), (10, Iv x10)]) F dX11_lastFirst_201 (by decide) rfl ?_
    refine r_iload (pc := 203) 8 F dX11_lastFirst_203 rfl ?_
    refine r_istore (pc := 205) (lv' := [(7, Iv x10), (6, Iv x8), (0, Rv 11), (1, Iv x1), (2, Iv x2), (3, Iv x3), (4, Iv x4), (5, Iv x5), (8, Iv x8), (10, Iv x10)]) F dX11_lastFirst_205 (by decide) rfl ?_
    exact V.sub [2, 3, 4, 5, 6, 7, 1, 0, 8] rfl (K207 μ x1 x2 x3 x4 x5 x8 x10 x8 hb)
  have K179 : ∀ (μ : Mem) (x1 : Int) (x2 : Int) (x3 : Int) (x4 : Int) (x5 : Int) (x6 : Int) (x7 : Int) (x8 : Int) (x9 : Int) (s0 : Int), b_X11_lastFirst_179 G25 G61 G75 G104 Post μ x1 x2 x3 x4 x5 x6 x7 x8 x9 s0 → V g X 11 μ [(0, Rv 11), (1, Iv x1), (2, Iv x2), (3, Iv x3), (4, Iv x4), (5, Iv x5), (6, Iv x6), (7, Iv x7), (8, Iv x8), (9, Iv x9)] 179 [Iv s0] := by
    intro μ x1 x2 x3 x4 x5 x6 x7 x8 x9 s0 hb
    unfold b_X11_lastFirst_179 at hb
    refine r_istore (pc := 179) (lv' := [(10, Iv s0), (0, Rv 11), (1, Iv x1), (2, Iv x2), (3, Iv x3), (4, Iv x4), (5, Iv x5), (6, Iv x6), (7, Iv x7), (8, Iv x8), (9, Iv x9)]) F dX11_lastFirst_179 (by decide) rfl ?_
    refine r_iload (pc := 181) 10 F dX11_lastFirst_181 rfl ?_
    refine r_if_eq (pc := 183) (tgt := 207) F dX11_lastFirst_183 (by decide) (fun c_3 => ?_) (fun c_3 => ?_)
    · have hb := hb.1 c_3
      exact V.sub [1, 2, 3, 4, 5, 6, 7, 8, 9] rfl (K207 μ x1 x2 x3 x4 x5 x6 x7 x8 hb)
    · have hb := hb.2 c_3
      refine r_iload (pc := 186) 7 F dX11_lastFirst_186 rfl ?_
      refine r_iconst (pc := 188) F dX11_lastFirst_188 (inR_lit rfl) ?_
      refine r_icmp_eq (pc := 189) (tgt := 199) F dX11_lastFirst_189 (by decide) (fun c_4 => ?_) (fun c_4 => ?_)
      · have hb := hb.1 c_4
        exact V.sub [1, 2, 3, 4, 5, 6, 9, 0] rfl (K199 μ x1 x2 x3 x4 x5 x8 s0 hb)
      · have hb := hb.2 c_4
        refine r_iload (pc := 192) 0 F dX11_lastFirst_192 rfl ?_
        refine r_iload (pc := 194) 8 F dX11_lastFirst_194 rfl ?_
        refine r_icmp_gt (pc := 196) (tgt := 207) F dX11_lastFirst_196 (by decide) (fun c_5 => ?_) (fun c_5 => ?_)
        · have hb := hb.1 c_5
          exact V.sub [1, 2, 3, 4, 5, 6, 7, 8, 9] rfl (K207 μ x1 x2 x3 x4 x5 x6 x7 x8 hb)
        · have hb := hb.2 c_5
          exact V.sub [1, 2, 3, 4, 5, 6, 9, 0] rfl (K199 μ x1 x2 x3 x4 x5 x8 s0 hb)
  have K236 : ∀ (μ : Mem) (x1 : Int) (x2 : Int) (x3 : Int) (x5 : Int) (x6 : Int) (s0 : Int), b_X11_lastFirst_236 G25 G61 G75 G104 Post μ x1 x2 x3 x5 x6 s0 → V g X 11 μ [(0, Rv 11), (1, Iv x1), (2, Iv x2), (3, Iv x3), (5, Iv x5), (6, Iv x6)] 236 [Iv s0] := by
    intro μ x1 x2 x3 x5 x6 s0 hb
    unfold b_X11_lastFirst_236 at hb
    refine r_istore (pc := 236) (lv' := [(4, Iv s0), (0, Rv 11), (1, Iv x1), (2, Iv x2), (3, Iv x3), (5, Iv x5), (6, Iv x6)]) F dX11_lastFirst_236 (by decide) rfl ?_
    refine r_iload_n (pc := 238) 3 F dX11_lastFirst_238 rfl rfl ?_
    refine r_iconst (pc := 239) F dX11_lastFirst_239 (inR_lit rfl) ?_
    refine r_iload (pc := 240) 6 F dX11_lastFirst_240 rfl ?_
    refine r_ishl (pc := 242) F dX11_lastFirst_242 ?_
    refine r_iconst (pc := 243) F dX11_lastFirst_243 (inR_lit rfl) ?_
    refine r_ixor (pc := 244) F dX11_lastFirst_244 ?_
    refine r_iand (pc := 245) F dX11_lastFirst_245 ?_
    refine V.nmI (fun x_6 ex_6 => ?_)
    have hb := hb x_6 ex_6
    refine r_istore_n (pc := 246) (lv' := [(2, Iv x_6), (4, Iv s0), (0, Rv 11), (1, Iv x1), (3, Iv x3), (5, Iv x5), (6, Iv x6)]) F dX11_lastFirst_246 rfl (by decide) rfl ?_
    refine r_iload_n (pc := 247) 4 F dX11_lastFirst_247 rfl rfl ?_
    refine r_aload_n (pc := 248) 2 F dX11_lastFirst_248 rfl rfl ?_
    refine gf_RX11_7 (pc := 249) F dX11_lastFirst_249 ?_
    refine r_iload (pc := 252) 6 F dX11_lastFirst_252 rfl ?_
    have hg_7 := hb.1
    have hb := hb.2
    refine r_iald (pc := 254) F lc90.1 lc90.2.1 lc90.2.2 hg_7 dX11_lastFirst_254 ?_
    refine r_isub (pc := 255) F dX11_lastFirst_255 ?_
    refine V.nmI (fun x_8 ex_8 => ?_)
    have hb := hb x_8 ex_8
    refine r_istore_n (pc := 256) (lv' := [(3, Iv x_8), (2, Iv x_6), (4, Iv s0), (0, Rv 11), (1, Iv x1), (5, Iv x5), (6, Iv x6)]) F dX11_lastFirst_256 rfl (by decide) rfl ?_
    refine r_iincN (pc := 257) 5 (lf := fun x_9 => [(5, Iv x_9), (3, Iv x_8), (2, Iv x_6), (4, Iv s0), (0, Rv 11), (1, Iv x1), (6, Iv x6)]) F dX11_lastFirst_257 rfl (by decide) rfl (fun x_9 ex_9 => ?_)
    have hb := hb x_9 ex_9
    refine r_goto (pc := 260) (tgt := 61) F dX11_lastFirst_260 (by decide) ?_
    exact V.sub [4, 5, 2, 1, 3, 0] rfl (g61 μ x1 x_6 x_8 s0 x_9 hb)
  have K25 : ∀ (μ : Mem) (x1 : Int) (x2 : Int) (x3 : Int) (x4 : Int), b_X11_lastFirst_25 G25 G61 G75 G104 Post μ x1 x2 x3 x4 → V g X 11 μ [(0, Rv 11), (1, Iv x1), (2, Iv x2), (3, Iv x3), (4, Iv x4)] 25 [] := by
    intro μ x1 x2 x3 x4 hb
    unfold b_X11_lastFirst_25 at hb
    refine r_iload (pc := 25) 4 F dX11_lastFirst_25 rfl ?_
    refine r_aload_n (pc := 27) 0 F dX11_lastFirst_27 rfl rfl ?_
    refine gf_RX11_83 (pc := 28) F dX11_lastFirst_28 ?_
    refine r_icmp_ge (pc := 31) (tgt := 50) F dX11_lastFirst_31 (by decide) (fun c_10 => ?_) (fun c_10 => ?_)
    · have hb := hb.1 c_10
      refine r_iconst (pc := 50) F dX11_lastFirst_50 (inR_lit rfl) ?_
      refine r_istore (pc := 51) (lv' := [(4, Iv 0), (0, Rv 11), (1, Iv x1), (2, Iv x2), (3, Iv x3)]) F dX11_lastFirst_51 (by decide) rfl ?_
      refine r_aload_n (pc := 53) 1 F dX11_lastFirst_53 rfl rfl ?_
      refine gf_RX11_83 (pc := 54) F dX11_lastFirst_54 ?_
      refine r_iconst (pc := 57) F dX11_lastFirst_57 (inR_lit rfl) ?_
      refine r_isub (pc := 58) F dX11_lastFirst_58 ?_
      refine V.nmI (fun x_11 ex_11 => ?_)
      have hb := hb x_11 ex_11
      refine r_istore (pc := 59) (lv' := [(5, Iv x_11), (4, Iv 0), (0, Rv 11), (1, Iv x1), (2, Iv x2), (3, Iv x3)]) F dX11_lastFirst_59 (by decide) rfl ?_
      exact V.sub [2, 3, 4, 5, 1, 0] rfl (g61 μ x1 x2 x3 0 x_11 hb)
    · have hb := hb.2 c_10
      refine r_iload_n (pc := 34) 3 F dX11_lastFirst_34 rfl rfl ?_
      refine r_aload_n (pc := 35) 0 F dX11_lastFirst_35 rfl rfl ?_
      refine gf_RX11_7 (pc := 36) F dX11_lastFirst_36 ?_
      refine r_iload (pc := 39) 4 F dX11_lastFirst_39 rfl ?_
      have hg_12 := hb.1
      have hb := hb.2
      refine r_iald (pc := 41) F lc90.1 lc90.2.1 lc90.2.2 hg_12 dX11_lastFirst_41 ?_
      refine r_iadd (pc := 42) F dX11_lastFirst_42 ?_
      refine V.nmI (fun x_13 ex_13 => ?_)
      have hb := hb x_13 ex_13
      refine r_istore_n (pc := 43) (lv' := [(3, Iv x_13), (0, Rv 11), (1, Iv x1), (2, Iv x2), (4, Iv x4)]) F dX11_lastFirst_43 rfl (by decide) rfl ?_
      refine r_iincN (pc := 44) 4 (lf := fun x_14 => [(4, Iv x_14), (3, Iv x_13), (0, Rv 11), (1, Iv x1), (2, Iv x2)]) F dX11_lastFirst_44 rfl (by decide) rfl (fun x_14 ex_14 => ?_)
      have hb := hb x_14 ex_14
      refine r_goto (pc := 47) (tgt := 25) F dX11_lastFirst_47 (by decide) ?_
      exact V.sub [2, 3, 4, 1, 0] rfl (g25 μ x1 x2 x_13 x_14 hb)
  have K61 : ∀ (μ : Mem) (x1 : Int) (x2 : Int) (x3 : Int) (x4 : Int) (x5 : Int), b_X11_lastFirst_61 G25 G61 G75 G104 Post μ x1 x2 x3 x4 x5 → V g X 11 μ [(0, Rv 11), (1, Iv x1), (2, Iv x2), (3, Iv x3), (4, Iv x4), (5, Iv x5)] 61 [] := by
    intro μ x1 x2 x3 x4 x5 hb
    unfold b_X11_lastFirst_61 at hb
    refine r_iload (pc := 61) 5 F dX11_lastFirst_61 rfl ?_
    refine r_if_lt (pc := 63) (tgt := 263) F dX11_lastFirst_63 (by decide) (fun c_15 => ?_) (fun c_15 => ?_)
    · have hb := hb.1 c_15
      refine r_iload_n (pc := 263) 1 F dX11_lastFirst_263 rfl rfl ?_
      refine r_iconst (pc := 264) F dX11_lastFirst_264 (inR_lit rfl) ?_
      refine r_icmp_ne (pc := 265) (tgt := 273) F dX11_lastFirst_265 (by decide) (fun c_16 => ?_) (fun c_16 => ?_)
      · have hb := hb.1 c_16
        refine r_aload_n (pc := 273) 0 F dX11_lastFirst_273 rfl rfl ?_
        refine gf_RX11_59 (pc := 274) F dX11_lastFirst_274 ?_
        refine r_iload_n (pc := 277) 1 F dX11_lastFirst_277 rfl rfl ?_
        have hg_17 := hb.1
        have hb := hb.2
        refine r_iald (pc := 278) F lc104.1 lc104.2.1 lc104.2.2 hg_17 dX11_lastFirst_278 ?_
        exact r_iret (pc := 279) F hR hr dX11_lastFirst_279 hb
      · have hb := hb.2 c_16
        refine r_iload (pc := 268) 4 F dX11_lastFirst_268 rfl ?_
        refine r_goto (pc := 270) (tgt := 279) F dX11_lastFirst_270 (by decide) ?_
        exact r_iret (pc := 279) F hR hr dX11_lastFirst_279 hb
    · have hb := hb.2 c_15
      refine r_iconst (pc := 66) F dX11_lastFirst_66 (inR_lit rfl) ?_
      refine r_istore (pc := 67) (lv' := [(6, Iv (-1)), (0, Rv 11), (1, Iv x1), (2, Iv x2), (3, Iv x3), (4, Iv x4), (5, Iv x5)]) F dX11_lastFirst_67 (by decide) rfl ?_
      refine r_iconst (pc := 69) F dX11_lastFirst_69 (inR_lit rfl) ?_
      refine r_istore (pc := 70) (lv' := [(7, Iv 0), (6, Iv (-1)), (0, Rv 11), (1, Iv x1), (2, Iv x2), (3, Iv x3), (4, Iv x4), (5, Iv x5)]) F dX11_lastFirst_70 (by decide) rfl ?_
      refine r_iconst (pc := 72) F dX11_lastFirst_72 (inR_lit rfl) ?_
      refine r_istore (pc := 73) (lv' := [(8, Iv 0), (7, Iv 0), (6, Iv (-1)), (0, Rv 11), (1, Iv x1), (2, Iv x2), (3, Iv x3), (4, Iv x4), (5, Iv x5)]) F dX11_lastFirst_73 (by decide) rfl ?_
      exact V.sub [3, 4, 5, 6, 7, 8, 2, 1, 0] rfl (g75 μ x1 x2 x3 x4 x5 (-1) 0 0 hb)
  have K75 : ∀ (μ : Mem) (x1 : Int) (x2 : Int) (x3 : Int) (x4 : Int) (x5 : Int) (x6 : Int) (x7 : Int) (x8 : Int), b_X11_lastFirst_75 G25 G61 G75 G104 Post μ x1 x2 x3 x4 x5 x6 x7 x8 → V g X 11 μ [(0, Rv 11), (1, Iv x1), (2, Iv x2), (3, Iv x3), (4, Iv x4), (5, Iv x5), (6, Iv x6), (7, Iv x7), (8, Iv x8)] 75 [] := by
    intro μ x1 x2 x3 x4 x5 x6 x7 x8 hb
    unfold b_X11_lastFirst_75 at hb
    refine r_iload (pc := 75) 8 F dX11_lastFirst_75 rfl ?_
    refine r_aload_n (pc := 77) 0 F dX11_lastFirst_77 rfl rfl ?_
    refine gf_RX11_83 (pc := 78) F dX11_lastFirst_78 ?_
    refine r_icmp_ge (pc := 81) (tgt := 213) F dX11_lastFirst_81 (by decide) (fun c_18 => ?_) (fun c_18 => ?_)
    · have hb := hb.1 c_18
      refine r_aload_n (pc := 213) 0 F dX11_lastFirst_213 rfl rfl ?_
      refine gf_RX11_59 (pc := 214) F dX11_lastFirst_214 ?_
      refine r_iload (pc := 217) 5 F dX11_lastFirst_217 rfl ?_
      refine r_iload (pc := 219) 6 F dX11_lastFirst_219 rfl ?_
      have hg_19 := hb.1
      have hb := hb.2
      refine r_iast (pc := 221) F lc104.1 lc104.2.1 lc104.2.2 hg_19 dX11_lastFirst_221 ?_
      refine V.nmM (fun μ_20 eμ_20 => ?_)
      have hb := hb μ_20 eμ_20
      refine r_iload (pc := 222) 7 F dX11_lastFirst_222 rfl ?_
      refine r_iload (pc := 224) 4 F dX11_lastFirst_224 rfl ?_
      refine r_icmp_le (pc := 226) (tgt := 234) F dX11_lastFirst_226 (by decide) (fun c_21 => ?_) (fun c_21 => ?_)
      · have hb := hb.1 c_21
        refine r_iload (pc := 234) 4 F dX11_lastFirst_234 rfl ?_
        exact V.sub [0, 1, 2, 3, 5, 6] rfl (K236 μ_20 x1 x2 x3 x5 x6 x4 hb)
      · have hb := hb.2 c_21
        refine r_iload (pc := 229) 7 F dX11_lastFirst_229 rfl ?_
        refine r_goto (pc := 231) (tgt := 236) F dX11_lastFirst_231 (by decide) ?_
        exact V.sub [0, 1, 2, 3, 5, 6] rfl (K236 μ_20 x1 x2 x3 x5 x6 x7 hb)
    · have hb := hb.2 c_18
      refine r_iload_n (pc := 84) 2 F dX11_lastFirst_84 rfl rfl ?_
      refine r_iload (pc := 85) 8 F dX11_lastFirst_85 rfl ?_
      refine r_ishr (pc := 87) F dX11_lastFirst_87 ?_
      refine r_iconst (pc := 88) F dX11_lastFirst_88 (inR_lit rfl) ?_
      refine r_iand (pc := 89) F dX11_lastFirst_89 ?_
      refine r_iconst (pc := 90) F dX11_lastFirst_90 (inR_lit rfl) ?_
      refine r_icmp_ne (pc := 91) (tgt := 98) F dX11_lastFirst_91 (by decide) (fun c_22 => ?_) (fun c_22 => ?_)
      · have hb := hb.1 c_22
        refine r_iconst (pc := 98) F dX11_lastFirst_98 (inR_lit rfl) ?_
        exact V.sub [0, 1, 2, 3, 4, 5, 6, 7, 8] rfl (K99 μ x1 x2 x3 x4 x5 x6 x7 x8 0 hb)
      · have hb := hb.2 c_22
        refine r_iconst (pc := 94) F dX11_lastFirst_94 (inR_lit rfl) ?_
        refine r_goto (pc := 95) (tgt := 99) F dX11_lastFirst_95 (by decide) ?_
        exact V.sub [0, 1, 2, 3, 4, 5, 6, 7, 8] rfl (K99 μ x1 x2 x3 x4 x5 x6 x7 x8 1 hb)
  have K104 : ∀ (μ : Mem) (x1 : Int) (x2 : Int) (x3 : Int) (x4 : Int) (x5 : Int) (x6 : Int) (x7 : Int) (x8 : Int) (x9 : Int) (x10 : Int), b_X11_lastFirst_104 G25 G61 G75 G104 Post μ x1 x2 x3 x4 x5 x6 x7 x8 x9 x10 → V g X 11 μ [(0, Rv 11), (1, Iv x1), (2, Iv x2), (3, Iv x3), (4, Iv x4), (5, Iv x5), (6, Iv x6), (7, Iv x7), (8, Iv x8), (9, Iv x9), (10, Iv x10)] 104 [] := by
    intro μ x1 x2 x3 x4 x5 x6 x7 x8 x9 x10 hb
    unfold b_X11_lastFirst_104 at hb
    refine r_iload (pc := 104) 10 F dX11_lastFirst_104 rfl ?_
    refine r_aload_n (pc := 106) 0 F dX11_lastFirst_106 rfl rfl ?_
    refine gf_RX11_83 (pc := 107) F dX11_lastFirst_107 ?_
    refine r_icmp_ge (pc := 110) (tgt := 155) F dX11_lastFirst_110 (by decide) (fun c_23 => ?_) (fun c_23 => ?_)
    · have hb := hb.1 c_23
      refine r_iload_n (pc := 155) 3 F dX11_lastFirst_155 rfl rfl ?_
      refine r_aload_n (pc := 156) 0 F dX11_lastFirst_156 rfl rfl ?_
      refine gf_RX11_16 (pc := 157) F dX11_lastFirst_157 ?_
      refine r_iload (pc := 160) 8 F dX11_lastFirst_160 rfl ?_
      have hg_24 := hb.1
      have hb := hb.2
      refine r_iald (pc := 162) F lc92.1 lc92.2.1 lc92.2.2 hg_24 dX11_lastFirst_162 ?_
      refine r_icmp_le (pc := 163) (tgt := 178) F dX11_lastFirst_163 (by decide) (fun c_25 => ?_) (fun c_25 => ?_)
      · have hb := hb.1 c_25
        refine r_iconst (pc := 178) F dX11_lastFirst_178 (inR_lit rfl) ?_
        exact V.sub [0, 1, 2, 3, 4, 5, 6, 7, 8, 9] rfl (K179 μ x1 x2 x3 x4 x5 x6 x7 x8 x9 0 hb)
      · have hb := hb.2 c_25
        refine r_iload_n (pc := 166) 3 F dX11_lastFirst_166 rfl rfl ?_
        refine r_aload_n (pc := 167) 0 F dX11_lastFirst_167 rfl rfl ?_
        refine gf_RX11_16 (pc := 168) F dX11_lastFirst_168 ?_
        refine r_iload (pc := 171) 8 F dX11_lastFirst_171 rfl ?_
        have hg_26 := hb.1
        have hb := hb.2
        refine r_iald (pc := 173) F lc92.1 lc92.2.1 lc92.2.2 hg_26 dX11_lastFirst_173 ?_
        refine r_isub (pc := 174) F dX11_lastFirst_174 ?_
        refine r_goto (pc := 175) (tgt := 179) F dX11_lastFirst_175 (by decide) ?_
        exact V.sub [0, 1, 2, 3, 4, 5, 6, 7, 8, 9] rfl (K179 μ x1 x2 x3 x4 x5 x6 x7 x8 x9 (wrap (x3 - (μ 92 x8.toNat))) hb)
    · have hb := hb.2 c_23
      refine r_iload (pc := 113) 9 F dX11_lastFirst_113 rfl ?_
      refine r_if_eq (pc := 115) (tgt := 146) F dX11_lastFirst_115 (by decide) (fun c_27 => ?_) (fun c_27 => ?_)
      · have hb := hb.1 c_27
        exact V.sub [0, 1, 2, 3, 4, 5, 6, 7, 8, 10] rfl (K146 μ x1 x2 x3 x4 x5 x6 x7 x8 x10 hb)
      · have hb := hb.2 c_27
        refine r_iload_n (pc := 118) 2 F dX11_lastFirst_118 rfl rfl ?_
        refine r_iload (pc := 119) 10 F dX11_lastFirst_119 rfl ?_
        refine r_ishr (pc := 121) F dX11_lastFirst_121 ?_
        refine r_iconst (pc := 122) F dX11_lastFirst_122 (inR_lit rfl) ?_
        refine r_iand (pc := 123) F dX11_lastFirst_123 ?_
        refine r_if_eq (pc := 124) (tgt := 142) F dX11_lastFirst_124 (by decide) (fun c_28 => ?_) (fun c_28 => ?_)
        · have hb := hb.1 c_28
          exact V.sub [0, 1, 2, 3, 4, 5, 6, 7, 8, 10] rfl (K142 μ x1 x2 x3 x4 x5 x6 x7 x8 x10 hb)
        · have hb := hb.2 c_28
          refine r_aload_n (pc := 127) 0 F dX11_lastFirst_127 rfl rfl ?_
          refine gf_RX11_25 (pc := 128) F dX11_lastFirst_128 ?_
          refine r_iload (pc := 131) 10 F dX11_lastFirst_131 rfl ?_
          have hg_29 := hb.1
          have hb := hb.2
          refine r_iald (pc := 133) F lc95.1 lc95.2.1 lc95.2.2 hg_29 dX11_lastFirst_133 ?_
          refine r_iload (pc := 134) 8 F dX11_lastFirst_134 rfl ?_
          refine r_ishr (pc := 136) F dX11_lastFirst_136 ?_
          refine r_iconst (pc := 137) F dX11_lastFirst_137 (inR_lit rfl) ?_
          refine r_iand (pc := 138) F dX11_lastFirst_138 ?_
          refine r_if_ne (pc := 139) (tgt := 146) F dX11_lastFirst_139 (by decide) (fun c_30 => ?_) (fun c_30 => ?_)
          · have hb := hb.1 c_30
            exact V.sub [0, 1, 2, 3, 4, 5, 6, 7, 8, 10] rfl (K146 μ x1 x2 x3 x4 x5 x6 x7 x8 x10 hb)
          · have hb := hb.2 c_30
            exact V.sub [0, 1, 2, 3, 4, 5, 6, 7, 8, 10] rfl (K142 μ x1 x2 x3 x4 x5 x6 x7 x8 x10 hb)
  have hb := hb G25 G61 G75 G104 (fun μ x1 x2 x3 x4 hb => f25 μ x1 x2 x3 x4 (K25 μ x1 x2 x3 x4 hb)) (fun μ x1 x2 x3 x4 x5 hb => f61 μ x1 x2 x3 x4 x5 (K61 μ x1 x2 x3 x4 x5 hb)) (fun μ x1 x2 x3 x4 x5 x6 x7 x8 hb => f75 μ x1 x2 x3 x4 x5 x6 x7 x8 (K75 μ x1 x2 x3 x4 x5 x6 x7 x8 hb)) (fun μ x1 x2 x3 x4 x5 x6 x7 x8 x9 x10 hb => f104 μ x1 x2 x3 x4 x5 x6 x7 x8 x9 x10 (K104 μ x1 x2 x3 x4 x5 x6 x7 x8 x9 x10 hb))
  unfold b_X11_lastFirst_e at hb
  refine r_aload_n (pc := 0) 0 F dX11_lastFirst_0 rfl rfl ?_
  refine r_iload_n (pc := 1) 1 F dX11_lastFirst_1 rfl rfl ?_
  refine r_callI (pc := 2) (avs := [Iv p0]) (st := []) F (c_X11_isPlace μ p0 _ hb) (by decide) cal_X11_isPlace calv_X11_isPlace lk_RX11_136 rfl rfl (Nat.le_of_ble_eq_true rfl) dX11_lastFirst_2 (fun r_31 μ_32 hb => ?_)
  refine r_if_ne (pc := 5) (tgt := 11) F dX11_lastFirst_5 (by decide) (fun c_33 => ?_) (fun c_33 => ?_)
  · have hb := hb.1 c_33
    refine r_iconst (pc := 11) F dX11_lastFirst_11 (inR_lit rfl) ?_
    refine r_aload_n (pc := 12) 0 F dX11_lastFirst_12 rfl rfl ?_
    refine gf_RX11_83 (pc := 13) F dX11_lastFirst_13 ?_
    refine r_ishl (pc := 16) F dX11_lastFirst_16 ?_
    refine r_iconst (pc := 17) F dX11_lastFirst_17 (inR_lit rfl) ?_
    refine r_isub (pc := 18) F dX11_lastFirst_18 ?_
    refine V.nmI (fun x_34 ex_34 => ?_)
    have hb := hb x_34 ex_34
    refine r_istore_n (pc := 19) (lv' := [(2, Iv x_34), (0, Rv 11), (1, Iv p0)]) F dX11_lastFirst_19 rfl (by decide) rfl ?_
    refine r_iconst (pc := 20) F dX11_lastFirst_20 (inR_lit rfl) ?_
    refine r_istore_n (pc := 21) (lv' := [(3, Iv 0), (2, Iv x_34), (0, Rv 11), (1, Iv p0)]) F dX11_lastFirst_21 rfl (by decide) rfl ?_
    refine r_iconst (pc := 22) F dX11_lastFirst_22 (inR_lit rfl) ?_
    refine r_istore (pc := 23) (lv' := [(4, Iv 0), (3, Iv 0), (2, Iv x_34), (0, Rv 11), (1, Iv p0)]) F dX11_lastFirst_23 (by decide) rfl ?_
    exact V.sub [3, 4, 2, 1, 0] rfl (g25 μ_32 p0 x_34 0 0 hb)
  · have hb := hb.2 c_33
    refine r_bipush (pc := 8) F dX11_lastFirst_8 (inR_lit rfl) (by decide) ?_
    exact r_iret (pc := 10) F hR hr dX11_lastFirst_10 hb
