/-! The law's loop: words, its own definition, the walk. By program. -/
theorem lk_RL_13 : Cond.methodLink RL 13 yX10_work ∈ tb := (tbm (List.mem_of_getElem? (i := 360) (by decide +kernel)) rfl)
theorem lk_RL_17 : Cond.methodLink RL 17 yX11_work ∈ tb := (tbm (List.mem_of_getElem? (i := 932) (by decide +kernel)) rfl)
theorem lk_RL_18 : Cond.methodLink RL 18 yX10_put ∈ tb := (tbm (List.mem_of_getElem? (i := 380) (by decide +kernel)) rfl)
theorem lk_RL_22 : Cond.methodLink RL 22 yX11_put ∈ tb := (tbm (List.mem_of_getElem? (i := 940) (by decide +kernel)) rfl)
theorem lk_RL_23 : Cond.methodLink RL 23 yX10_ahead ∈ tb := (tbm (List.mem_of_getElem? (i := 389) (by decide +kernel)) rfl)
theorem lk_RL_27 : Cond.methodLink RL 27 yX11_ahead ∈ tb := (tbm (List.mem_of_getElem? (i := 953) (by decide +kernel)) rfl)
theorem lk_RL_28 : Cond.methodLink RL 28 yX10_change ∈ tb := (tbm (List.mem_of_getElem? (i := 408) (by decide +kernel)) rfl)
theorem lk_RL_31 : Cond.methodLink RL 31 yX11_change ∈ tb := (tbm (List.mem_of_getElem? (i := 961) (by decide +kernel)) rfl)
theorem lk_RL_32 : Cond.methodLink RL 32 yX10_best ∈ tb := (tbm (List.mem_of_getElem? (i := 412) (by decide +kernel)) rfl)
theorem lk_RL_36 : Cond.methodLink RL 36 yX11_best ∈ tb := (tbm (List.mem_of_getElem? (i := 968) (by decide +kernel)) rfl)
theorem lk_RL_37 : Cond.methodLink RL 37 yX10_lastFirst ∈ tb := (tbm (List.mem_of_getElem? (i := 465) (by decide +kernel)) rfl)
theorem lk_RL_40 : Cond.methodLink RL 40 yX11_lastFirst ∈ tb := (tbm (List.mem_of_getElem? (i := 1009) (by decide +kernel)) rfl)
theorem lk_RL_41 : Cond.methodLink RL 41 yX10_onTime ∈ tb := (tbm (List.mem_of_getElem? (i := 492) (by decide +kernel)) rfl)
theorem lk_RL_45 : Cond.methodLink RL 45 yX11_onTime ∈ tb := (tbm (List.mem_of_getElem? (i := 1013) (by decide +kernel)) rfl)
theorem lk_RL_46 : Cond.methodLink RL 46 yX10_broken ∈ tb := (tbm (List.mem_of_getElem? (i := 508) (by decide +kernel)) rfl)
theorem lk_RL_49 : Cond.methodLink RL 49 yX11_broken ∈ tb := (tbm (List.mem_of_getElem? (i := 1021) (by decide +kernel)) rfl)
theorem lk_RL_50 : Cond.methodLink RL 50 yX10_minute ∈ tb := (tbm (List.mem_of_getElem? (i := 540) (by decide +kernel)) rfl)
theorem lk_RL_53 : Cond.methodLink RL 53 yX11_minute ∈ tb := (tbm (List.mem_of_getElem? (i := 1029) (by decide +kernel)) rfl)
theorem lk_RL_54 : Cond.methodLink RL 54 yX10_next ∈ tb := (tbm (List.mem_of_getElem? (i := 548) (by decide +kernel)) rfl)
theorem lk_RL_57 : Cond.methodLink RL 57 yX11_next ∈ tb := (tbm (List.mem_of_getElem? (i := 1034) (by decide +kernel)) rfl)
theorem lk_RL_58 : Cond.methodLink RL 58 yX10_anew ∈ tb := (tbm (List.mem_of_getElem? (i := 561) (by decide +kernel)) rfl)
theorem lk_RL_61 : Cond.methodLink RL 61 yX11_anew ∈ tb := (tbm (List.mem_of_getElem? (i := 1038) (by decide +kernel)) rfl)
theorem lk_RL_62 : Cond.methodLink RL 62 yX10_judge ∈ tb := (tbm (List.mem_of_getElem? (i := 569) (by decide +kernel)) rfl)
theorem lk_RL_65 : Cond.methodLink RL 65 yX11_judge ∈ tb := (tbm (List.mem_of_getElem? (i := 1042) (by decide +kernel)) rfl)
theorem lk_RL_66 : Cond.methodLink RL 66 yX10_benches ∈ tb := (tbm (List.mem_of_getElem? (i := 598) (by decide +kernel)) rfl)
theorem lk_RL_69 : Cond.methodLink RL 69 yX11_benches ∈ tb := (tbm (List.mem_of_getElem? (i := 1047) (by decide +kernel)) rfl)
theorem lk_RL_70 : Cond.methodLink RL 70 yX10_needs ∈ tb := (tbm (List.mem_of_getElem? (i := 602) (by decide +kernel)) rfl)
theorem lk_RL_73 : Cond.methodLink RL 73 yX11_needs ∈ tb := (tbm (List.mem_of_getElem? (i := 1051) (by decide +kernel)) rfl)
theorem lk_RL_74 : Cond.methodLink RL 74 yX10_way ∈ tb := (tbm (List.mem_of_getElem? (i := 606) (by decide +kernel)) rfl)
theorem lk_RL_77 : Cond.methodLink RL 77 yX11_way ∈ tb := (tbm (List.mem_of_getElem? (i := 1056) (by decide +kernel)) rfl)
theorem lk_RL_78 : Cond.methodLink RL 78 yX10_byRule ∈ tb := (tbm (List.mem_of_getElem? (i := 610) (by decide +kernel)) rfl)
theorem lk_RL_81 : Cond.methodLink RL 81 yX11_byRule ∈ tb := (tbm (List.mem_of_getElem? (i := 1061) (by decide +kernel)) rfl)
theorem lk_RL_82 : Cond.methodLink RL 82 yX10_bestRow ∈ tb := (tbm (List.mem_of_getElem? (i := 631) (by decide +kernel)) rfl)
theorem lk_RL_85 : Cond.methodLink RL 85 yX11_bestRow ∈ tb := (tbm (List.mem_of_getElem? (i := 1069) (by decide +kernel)) rfl)
theorem lk_RL_86 : Cond.methodLink RL 86 yX10_bound ∈ tb := (tbm (List.mem_of_getElem? (i := 675) (by decide +kernel)) rfl)
theorem lk_RL_89 : Cond.methodLink RL 89 yX11_bound ∈ tb := (tbm (List.mem_of_getElem? (i := 1073) (by decide +kernel)) rfl)
theorem lk_RL_90 : Cond.methodLink RL 90 yX10_any ∈ tb := (tbm (List.mem_of_getElem? (i := 680) (by decide +kernel)) rfl)
theorem lk_RL_93 : Cond.methodLink RL 93 yX11_any ∈ tb := (tbm (List.mem_of_getElem? (i := 1077) (by decide +kernel)) rfl)
theorem lk_RL_94 : Cond.methodLink RL 94 yX10_step ∈ tb := (tbm (List.mem_of_getElem? (i := 688) (by decide +kernel)) rfl)
theorem lk_RL_97 : Cond.methodLink RL 97 yX11_step ∈ tb := (tbm (List.mem_of_getElem? (i := 1081) (by decide +kernel)) rfl)
theorem lk_RL_98 : Cond.methodLink RL 98 yX10_clear ∈ tb := (tbm (List.mem_of_getElem? (i := 696) (by decide +kernel)) rfl)
theorem lk_RL_101 : Cond.methodLink RL 101 yX11_clear ∈ tb := (tbm (List.mem_of_getElem? (i := 1085) (by decide +kernel)) rfl)
theorem lk_RL_102 : Cond.methodLink RL 102 yX10_walk ∈ tb := (tbm (List.mem_of_getElem? (i := 704) (by decide +kernel)) rfl)
theorem lk_RL_105 : Cond.methodLink RL 105 yX11_walk ∈ tb := (tbm (List.mem_of_getElem? (i := 1089) (by decide +kernel)) rfl)
theorem lk_RL_106 : Cond.methodLink RL 106 yX10_leaf ∈ tb := (tbm (List.mem_of_getElem? (i := 722) (by decide +kernel)) rfl)
theorem lk_RL_109 : Cond.methodLink RL 109 yX11_leaf ∈ tb := (tbm (List.mem_of_getElem? (i := 1106) (by decide +kernel)) rfl)
theorem lk_RL_110 : Cond.methodLink RL 110 yX10_fell ∈ tb := (tbm (List.mem_of_getElem? (i := 730) (by decide +kernel)) rfl)
theorem lk_RL_113 : Cond.methodLink RL 113 yX11_fell ∈ tb := (tbm (List.mem_of_getElem? (i := 1110) (by decide +kernel)) rfl)
theorem lk_RL_114 : Cond.methodLink RL 114 yX10_likes ∈ tb := (tbm (List.mem_of_getElem? (i := 738) (by decide +kernel)) rfl)
theorem lk_RL_117 : Cond.methodLink RL 117 yX11_likes ∈ tb := (tbm (List.mem_of_getElem? (i := 1114) (by decide +kernel)) rfl)
theorem lk_RL_118 : Cond.methodLink RL 118 yX10_levels ∈ tb := (tbm (List.mem_of_getElem? (i := 742) (by decide +kernel)) rfl)
theorem lk_RL_121 : Cond.methodLink RL 121 yX11_levels ∈ tb := (tbm (List.mem_of_getElem? (i := 1118) (by decide +kernel)) rfl)
theorem lk_RL_122 : Cond.methodLink RL 122 yX10_least ∈ tb := (tbm (List.mem_of_getElem? (i := 767) (by decide +kernel)) rfl)
theorem lk_RL_125 : Cond.methodLink RL 125 yX11_least ∈ tb := (tbm (List.mem_of_getElem? (i := 1130) (by decide +kernel)) rfl)
theorem lk_RL_126 : Cond.methodLink RL 126 yX10_count ∈ tb := (tbm (List.mem_of_getElem? (i := 805) (by decide +kernel)) rfl)
theorem lk_RL_129 : Cond.methodLink RL 129 yX11_count ∈ tb := (tbm (List.mem_of_getElem? (i := 1141) (by decide +kernel)) rfl)
theorem lk_RL_130 : Cond.methodLink RL 130 yX10_digest ∈ tb := (tbm (List.mem_of_getElem? (i := 809) (by decide +kernel)) rfl)
theorem lk_RL_134 : Cond.methodLink RL 134 yX11_digest ∈ tb := (tbm (List.mem_of_getElem? (i := 1145) (by decide +kernel)) rfl)
/-- the script: an array that no cell of the world is -/
def Scr (g : Wc) (X : Cx) (L : Nat) (xs : Nat → Int) : Prop := va_X (g.1 115) L (fun j => Int32.ofInt (xs j)) X.2.1.1 X.2.1.1.heap ∧ g.1 115 < X.2.1.1.heap.size ∧ (∀ c, c < 112 → X.2.1.1.heap.size ≤ g.1 c) ∧ L ≤ 2048 ∧ ∀ j, inR (xs j)
def LawEnd (g : Wc) (X : Cx) (r : Int) : Prop := r = 1 ∧ X.2.2.1.2.2 = lw_Z X.2.1.2.2.2 X.2.1.2.2.1 X.2.1.1 ∧ X.1.2.2.2 = room_1 ∧ X.2.1.2.2.1 = #[Value.ref (g.1 115)] ∧ X.2.2.1.1.sig.returnType = ret
section RowsL
variable {g : Wc} {X : Cx} {cc : ByteArray} {own : String} {nL h : Nat} {μ : Mem} {lv : List (Nat × AV)} {pc : Nat} {st : List AV} {a : Int} {L : Nat} {xs : Nat → Int} {Post : Pst}
theorem Scr.nA (S : Scr g X L xs) : ¬ Aq g (g.1 115) := fun ⟨c, hc, e⟩ => by have h1 := S.2.1; have h2 := S.2.2.1 c hc; omega
theorem r_sld (F : Fx g X cc own nL h) (S : Scr g X L xs) (hi : 0 ≤ a ∧ a < L) (hd : decode cc pc = .ok (.iaload, 1)) (kk : V g X nL μ lv (pc + 1) (Iv (xs a.toNat) :: st)) : V g X nL μ lv pc (Iv a :: Rv 115 :: st) := by
  intro h1 h2 h3 H locs ls h4 h5 h6
  have ha : inR a := (List.forall_mem_cons.mp h2).1
  have h2' := (List.forall_mem_cons.mp (List.forall_mem_cons.mp h2).2).2
  have hk := kk h1 (List.forall_mem_cons.mpr ⟨S.2.2.2.2 _, h2'⟩) h3 H locs ls h4 h5 h6
  refine va_sld F.1 F.2.1 S.1 S.2.1 S.nA h5 (i32_in hi.1 hi.2 ha) hd ?_
  rw [i32_clamp hi.1 ha]
  exact hk
theorem r_slen (F : Fx g X cc own nL h) (S : Scr g X L xs) (hd : decode cc pc = .ok (.arraylength, 1)) (kk : V g X nL μ lv (pc + 1) (Iv (L : Int) :: st)) : V g X nL μ lv pc (Rv 115 :: st) := by
  intro h1 h2 h3 H locs ls h4 h5 h6
  have h2' := (List.forall_mem_cons.mp h2).2
  have hL := S.2.2.2.1
  have hk := kk h1 (List.forall_mem_cons.mpr ⟨⟨by omega, by omega⟩, h2'⟩) h3 H locs ls h4 h5 h6
  refine va_slen F.1 F.2.1 S.1 S.2.1 S.nA h5 hd ?_
  have e : Int32.ofNat L = Int32.ofInt (L : Int) := Int32.toInt_inj.mp ((nI_toInt (n := L) (by omega)).trans (ofI_toInt (x := (L : Int)) ⟨by omega, by omega⟩).symm)
  rw [e]
  exact hk
theorem r_lawret (F : Fx g X code own nL h) (S : Scr g X L xs) (hQ : ∀ (r : Int) (μ : Mem), Post r μ → LawEnd g X r) (hd : decode code pc = .ok (.ireturn, 1)) (hb : Post a μ) : V g X nL μ lv pc [Iv a] := by
  intro h1 h2 h3 H locs ls h4 h5 h6
  obtain ⟨rfl, q1, q2, q3, q4⟩ := hQ a μ hb
  obtain ⟨⟨p, l, e, R⟩, ⟨s, m, args, below⟩, ⟨meth, c, Q⟩, ⟨kc, ks⟩⟩ := X
  have e1 : Q = lw_Z below args s := q1
  have e2 : R = room_1 := q2
  have e3 : args = #[Value.ref (g.1 115)] := q3
  subst e3; subst e2; subst e1
  have hF := F.2.2.2.2.2.1
  refine va_forget (fun q hq => ?_) (W.widen (k := 600000) (n := 7302249) hF.2.2.1 hF.2.2.2 (lw_ret F.1 F.2.1 q4 F.2.2.2.2.2.2 hd))
  obtain ⟨d, hd1, hd2⟩ := h5.2.2 q hq
  rw [hd2]
  exact S.2.2.1 d hd1
end RowsL
def b_L_law_888 (L : Nat) (xs : Nat → Int) (G18 : Mem → Int → Prop) (Post : Pst) (μ : Mem) (x3 : Int) : Prop :=
  ∀ x_1 : Int, x_1 = wrap (x3 + 4) → G18 μ x_1
def b_L_law_281 (L : Nat) (xs : Nat → Int) (G18 : Mem → Int → Prop) (Post : Pst) (μ : Mem) (x3 : Int) (s0 : Int) (s2 : Int) (s3 : Int) (s4 : Int) : Prop :=
  (∃ P_2 : Pst, wp_X11_ahead μ s2 s3 s4 P_2 ∧ ∀ (r_2 : Int) (μ_3 : Mem), P_2 r_2 μ_3 → (((s0 = r_2) → b_L_law_888 L xs G18 Post μ_3 x3) ∧ ((¬ s0 = r_2) → Post 0 μ_3)))
def b_L_law_254 (L : Nat) (xs : Nat → Int) (G18 : Mem → Int → Prop) (Post : Pst) (μ : Mem) (x3 : Int) (s1 : Int) (s2 : Int) (s3 : Int) : Prop :=
  (∃ P_5 : Pst, wp_X10_ahead μ s1 s2 s3 P_5 ∧ ∀ (r_5 : Int) (μ_6 : Mem), P_5 r_5 μ_6 → ((0 ≤ (wrap (x3 + 1)) ∧ (wrap (x3 + 1)) < L) ∧ (0 ≤ (wrap (x3 + 2)) ∧ (wrap (x3 + 2)) < L) ∧ (0 ≤ (wrap (x3 + 3)) ∧ (wrap (x3 + 3)) < L) ∧ (((xs (wrap (x3 + 3)).toNat) = 0) → b_L_law_281 L xs G18 Post μ_6 x3 r_5 (xs (wrap (x3 + 1)).toNat) (xs (wrap (x3 + 2)).toNat) 0) ∧ ((¬ (xs (wrap (x3 + 3)).toNat) = 0) → b_L_law_281 L xs G18 Post μ_6 x3 r_5 (xs (wrap (x3 + 1)).toNat) (xs (wrap (x3 + 2)).toNat) 1)))
def b_L_law_18 (L : Nat) (xs : Nat → Int) (G18 : Mem → Int → Prop) (Post : Pst) (μ : Mem) (x3 : Int) : Prop :=
  (((wrap (((L : Int)) - 4)) < x3) → Post 1 μ) ∧ ((¬ ((wrap (((L : Int)) - 4)) < x3)) → (0 ≤ x3 ∧ x3 < L) ∧ (((iand (xs x3.toNat) 31) < 0 ∨ 28 < (iand (xs x3.toNat) 31)) → b_L_law_888 L xs G18 Post μ x3) ∧ (((iand (xs x3.toNat) 31) = 0) → (0 ≤ (wrap (x3 + 1)) ∧ (wrap (x3 + 1)) < L) ∧ (∃ P_15 : Pst, wp_X10_work μ (xs (wrap (x3 + 1)).toNat) P_15 ∧ ∀ (r_15 : Int) (μ_16 : Mem), P_15 r_15 μ_16 → ((0 ≤ (wrap (x3 + 1)) ∧ (wrap (x3 + 1)) < L) ∧ (∃ P_18 : Pst, wp_X11_work μ_16 (xs (wrap (x3 + 1)).toNat) P_18 ∧ ∀ (r_18 : Int) (μ_19 : Mem), P_18 r_18 μ_19 → (((r_15 = r_18) → b_L_law_888 L xs G18 Post μ_19 x3) ∧ ((¬ r_15 = r_18) → Post 0 μ_19)))))) ∧ (((iand (xs x3.toNat) 31) = 1) → (0 ≤ (wrap (x3 + 1)) ∧ (wrap (x3 + 1)) < L) ∧ (0 ≤ (wrap (x3 + 2)) ∧ (wrap (x3 + 2)) < L) ∧ (0 ≤ (wrap (x3 + 3)) ∧ (wrap (x3 + 3)) < L) ∧ (∃ P_24 : Pst, wp_X10_put μ (xs (wrap (x3 + 1)).toNat) (xs (wrap (x3 + 2)).toNat) (xs (wrap (x3 + 3)).toNat) P_24 ∧ ∀ (r_24 : Int) (μ_25 : Mem), P_24 r_24 μ_25 → ((0 ≤ (wrap (x3 + 1)) ∧ (wrap (x3 + 1)) < L) ∧ (0 ≤ (wrap (x3 + 2)) ∧ (wrap (x3 + 2)) < L) ∧ (0 ≤ (wrap (x3 + 3)) ∧ (wrap (x3 + 3)) < L) ∧ (∃ P_29 : Pst, wp_X11_put μ_25 (xs (wrap (x3 + 1)).toNat) (xs (wrap (x3 + 2)).toNat) (xs (wrap (x3 + 3)).toNat) P_29 ∧ ∀ (r_29 : Int) (μ_30 : Mem), P_29 r_29 μ_30 → (((r_24 = r_29) → b_L_law_888 L xs G18 Post μ_30 x3) ∧ ((¬ r_24 = r_29) → Post 0 μ_30)))))) ∧ (((iand (xs x3.toNat) 31) = 2) → (0 ≤ (wrap (x3 + 1)) ∧ (wrap (x3 + 1)) < L) ∧ (0 ≤ (wrap (x3 + 2)) ∧ (wrap (x3 + 2)) < L) ∧ (0 ≤ (wrap (x3 + 3)) ∧ (wrap (x3 + 3)) < L) ∧ (((xs (wrap (x3 + 3)).toNat) = 0) → b_L_law_254 L xs G18 Post μ x3 (xs (wrap (x3 + 1)).toNat) (xs (wrap (x3 + 2)).toNat) 0) ∧ ((¬ (xs (wrap (x3 + 3)).toNat) = 0) → b_L_law_254 L xs G18 Post μ x3 (xs (wrap (x3 + 1)).toNat) (xs (wrap (x3 + 2)).toNat) 1)) ∧ (((iand (xs x3.toNat) 31) = 3) → (0 ≤ (wrap (x3 + 1)) ∧ (wrap (x3 + 1)) < L) ∧ (0 ≤ (wrap (x3 + 2)) ∧ (wrap (x3 + 2)) < L) ∧ (0 ≤ (wrap (x3 + 3)) ∧ (wrap (x3 + 3)) < L) ∧ (∃ P_39 : Pst, wp_X10_change μ (xs (wrap (x3 + 1)).toNat) (xs (wrap (x3 + 2)).toNat) (xs (wrap (x3 + 3)).toNat) P_39 ∧ ∀ (r_39 : Int) (μ_40 : Mem), P_39 r_39 μ_40 → ((0 ≤ (wrap (x3 + 1)) ∧ (wrap (x3 + 1)) < L) ∧ (0 ≤ (wrap (x3 + 2)) ∧ (wrap (x3 + 2)) < L) ∧ (0 ≤ (wrap (x3 + 3)) ∧ (wrap (x3 + 3)) < L) ∧ (∃ P_44 : Pst, wp_X11_change μ_40 (xs (wrap (x3 + 1)).toNat) (xs (wrap (x3 + 2)).toNat) (xs (wrap (x3 + 3)).toNat) P_44 ∧ ∀ (r_44 : Int) (μ_45 : Mem), P_44 r_44 μ_45 → (((r_39 = r_44) → b_L_law_888 L xs G18 Post μ_45 x3) ∧ ((¬ r_39 = r_44) → Post 0 μ_45)))))) ∧ (((iand (xs x3.toNat) 31) = 4) → (0 ≤ (wrap (x3 + 1)) ∧ (wrap (x3 + 1)) < L) ∧ (0 ≤ (wrap (x3 + 2)) ∧ (wrap (x3 + 2)) < L) ∧ (∃ P_49 : Pst, wp_X10_best μ (xs (wrap (x3 + 1)).toNat) (xs (wrap (x3 + 2)).toNat) P_49 ∧ ∀ (r_49 : Int) (μ_50 : Mem), P_49 r_49 μ_50 → ((0 ≤ (wrap (x3 + 1)) ∧ (wrap (x3 + 1)) < L) ∧ (0 ≤ (wrap (x3 + 2)) ∧ (wrap (x3 + 2)) < L) ∧ (∃ P_53 : Pst, wp_X11_best μ_50 (xs (wrap (x3 + 1)).toNat) (xs (wrap (x3 + 2)).toNat) P_53 ∧ ∀ (r_53 : Int) (μ_54 : Mem), P_53 r_53 μ_54 → (((r_49 = r_53) → b_L_law_888 L xs G18 Post μ_54 x3) ∧ ((¬ r_49 = r_53) → Post 0 μ_54)))))) ∧ (((iand (xs x3.toNat) 31) = 5) → (0 ≤ (wrap (x3 + 1)) ∧ (wrap (x3 + 1)) < L) ∧ (∃ P_57 : Pst, wp_X10_lastFirst μ (xs (wrap (x3 + 1)).toNat) P_57 ∧ ∀ (r_57 : Int) (μ_58 : Mem), P_57 r_57 μ_58 → ((0 ≤ (wrap (x3 + 1)) ∧ (wrap (x3 + 1)) < L) ∧ (∃ P_60 : Pst, wp_X11_lastFirst μ_58 (xs (wrap (x3 + 1)).toNat) P_60 ∧ ∀ (r_60 : Int) (μ_61 : Mem), P_60 r_60 μ_61 → (((r_57 = r_60) → b_L_law_888 L xs G18 Post μ_61 x3) ∧ ((¬ r_57 = r_60) → Post 0 μ_61)))))) ∧ (((iand (xs x3.toNat) 31) = 6) → (∃ P_63 : Pst, wp_X10_onTime μ P_63 ∧ ∀ (r_63 : Int) (μ_64 : Mem), P_63 r_63 μ_64 → ((∃ P_65 : Pst, wp_X11_onTime μ_64 P_65 ∧ ∀ (r_65 : Int) (μ_66 : Mem), P_65 r_65 μ_66 → (((r_63 = r_65) → b_L_law_888 L xs G18 Post μ_66 x3) ∧ ((¬ r_63 = r_65) → Post 0 μ_66)))))) ∧ (((iand (xs x3.toNat) 31) = 7) → (0 ≤ (wrap (x3 + 1)) ∧ (wrap (x3 + 1)) < L) ∧ (∃ P_69 : Pst, wp_X10_broken μ (xs (wrap (x3 + 1)).toNat) P_69 ∧ ∀ (r_69 : Int) (μ_70 : Mem), P_69 r_69 μ_70 → ((0 ≤ (wrap (x3 + 1)) ∧ (wrap (x3 + 1)) < L) ∧ (∃ P_72 : Pst, wp_X11_broken μ_70 (xs (wrap (x3 + 1)).toNat) P_72 ∧ ∀ (r_72 : Int) (μ_73 : Mem), P_72 r_72 μ_73 → (((r_69 = r_72) → b_L_law_888 L xs G18 Post μ_73 x3) ∧ ((¬ r_69 = r_72) → Post 0 μ_73)))))) ∧ (((iand (xs x3.toNat) 31) = 8) → (0 ≤ (wrap (x3 + 1)) ∧ (wrap (x3 + 1)) < L) ∧ (∃ P_76 : Pst, wp_X10_minute μ (xs (wrap (x3 + 1)).toNat) P_76 ∧ ∀ (r_76 : Int) (μ_77 : Mem), P_76 r_76 μ_77 → ((0 ≤ (wrap (x3 + 1)) ∧ (wrap (x3 + 1)) < L) ∧ (∃ P_79 : Pst, wp_X11_minute μ_77 (xs (wrap (x3 + 1)).toNat) P_79 ∧ ∀ (r_79 : Int) (μ_80 : Mem), P_79 r_79 μ_80 → (((r_76 = r_79) → b_L_law_888 L xs G18 Post μ_80 x3) ∧ ((¬ r_76 = r_79) → Post 0 μ_80)))))) ∧ (((iand (xs x3.toNat) 31) = 9) → (0 ≤ (wrap (x3 + 1)) ∧ (wrap (x3 + 1)) < L) ∧ (∃ P_83 : Pst, wp_X10_next μ (xs (wrap (x3 + 1)).toNat) P_83 ∧ ∀ (r_83 : Int) (μ_84 : Mem), P_83 r_83 μ_84 → ((0 ≤ (wrap (x3 + 1)) ∧ (wrap (x3 + 1)) < L) ∧ (∃ P_86 : Pst, wp_X11_next μ_84 (xs (wrap (x3 + 1)).toNat) P_86 ∧ ∀ (r_86 : Int) (μ_87 : Mem), P_86 r_86 μ_87 → (((r_83 = r_86) → b_L_law_888 L xs G18 Post μ_87 x3) ∧ ((¬ r_83 = r_86) → Post 0 μ_87)))))) ∧ (((iand (xs x3.toNat) 31) = 10) → (∃ P_89 : Pst, wp_X10_anew μ P_89 ∧ ∀ (r_89 : Int) (μ_90 : Mem), P_89 r_89 μ_90 → ((∃ P_91 : Pst, wp_X11_anew μ_90 P_91 ∧ ∀ (r_91 : Int) (μ_92 : Mem), P_91 r_91 μ_92 → (((r_89 = r_91) → b_L_law_888 L xs G18 Post μ_92 x3) ∧ ((¬ r_89 = r_91) → Post 0 μ_92)))))) ∧ (((iand (xs x3.toNat) 31) = 11) → (0 ≤ (wrap (x3 + 1)) ∧ (wrap (x3 + 1)) < L) ∧ (∃ P_95 : Pst, wp_X10_judge μ (xs (wrap (x3 + 1)).toNat) P_95 ∧ ∀ (r_95 : Int) (μ_96 : Mem), P_95 r_95 μ_96 → ((0 ≤ (wrap (x3 + 1)) ∧ (wrap (x3 + 1)) < L) ∧ (∃ P_98 : Pst, wp_X11_judge μ_96 (xs (wrap (x3 + 1)).toNat) P_98 ∧ ∀ (r_98 : Int) (μ_99 : Mem), P_98 r_98 μ_99 → (((r_95 = r_98) → b_L_law_888 L xs G18 Post μ_99 x3) ∧ ((¬ r_95 = r_98) → Post 0 μ_99)))))) ∧ (((iand (xs x3.toNat) 31) = 12) → (0 ≤ (wrap (x3 + 1)) ∧ (wrap (x3 + 1)) < L) ∧ (∃ P_102 : Pst, wp_X10_benches μ (xs (wrap (x3 + 1)).toNat) P_102 ∧ ∀ (r_102 : Int) (μ_103 : Mem), P_102 r_102 μ_103 → ((0 ≤ (wrap (x3 + 1)) ∧ (wrap (x3 + 1)) < L) ∧ (∃ P_105 : Pst, wp_X11_benches μ_103 (xs (wrap (x3 + 1)).toNat) P_105 ∧ ∀ (r_105 : Int) (μ_106 : Mem), P_105 r_105 μ_106 → (((r_102 = r_105) → b_L_law_888 L xs G18 Post μ_106 x3) ∧ ((¬ r_102 = r_105) → Post 0 μ_106)))))) ∧ (((iand (xs x3.toNat) 31) = 13) → (0 ≤ (wrap (x3 + 1)) ∧ (wrap (x3 + 1)) < L) ∧ (0 ≤ (wrap (x3 + 2)) ∧ (wrap (x3 + 2)) < L) ∧ (0 ≤ (wrap (x3 + 3)) ∧ (wrap (x3 + 3)) < L) ∧ (∃ P_111 : Pst, wp_X10_needs μ (xs (wrap (x3 + 1)).toNat) (xs (wrap (x3 + 2)).toNat) (xs (wrap (x3 + 3)).toNat) P_111 ∧ ∀ (r_111 : Int) (μ_112 : Mem), P_111 r_111 μ_112 → ((0 ≤ (wrap (x3 + 1)) ∧ (wrap (x3 + 1)) < L) ∧ (0 ≤ (wrap (x3 + 2)) ∧ (wrap (x3 + 2)) < L) ∧ (0 ≤ (wrap (x3 + 3)) ∧ (wrap (x3 + 3)) < L) ∧ (∃ P_116 : Pst, wp_X11_needs μ_112 (xs (wrap (x3 + 1)).toNat) (xs (wrap (x3 + 2)).toNat) (xs (wrap (x3 + 3)).toNat) P_116 ∧ ∀ (r_116 : Int) (μ_117 : Mem), P_116 r_116 μ_117 → (((r_111 = r_116) → b_L_law_888 L xs G18 Post μ_117 x3) ∧ ((¬ r_111 = r_116) → Post 0 μ_117)))))) ∧ (((iand (xs x3.toNat) 31) = 14) → (0 ≤ (wrap (x3 + 1)) ∧ (wrap (x3 + 1)) < L) ∧ (0 ≤ (wrap (x3 + 2)) ∧ (wrap (x3 + 2)) < L) ∧ (∃ P_121 : Pst, wp_X10_way μ (xs (wrap (x3 + 1)).toNat) (xs (wrap (x3 + 2)).toNat) P_121 ∧ ∀ (r_121 : Int) (μ_122 : Mem), P_121 r_121 μ_122 → ((0 ≤ (wrap (x3 + 1)) ∧ (wrap (x3 + 1)) < L) ∧ (0 ≤ (wrap (x3 + 2)) ∧ (wrap (x3 + 2)) < L) ∧ (∃ P_125 : Pst, wp_X11_way μ_122 (xs (wrap (x3 + 1)).toNat) (xs (wrap (x3 + 2)).toNat) P_125 ∧ ∀ (r_125 : Int) (μ_126 : Mem), P_125 r_125 μ_126 → (((r_121 = r_125) → b_L_law_888 L xs G18 Post μ_126 x3) ∧ ((¬ r_121 = r_125) → Post 0 μ_126)))))) ∧ (((iand (xs x3.toNat) 31) = 15) → (0 ≤ (wrap (x3 + 1)) ∧ (wrap (x3 + 1)) < L) ∧ (∃ P_129 : Pst, wp_X10_byRule μ (xs (wrap (x3 + 1)).toNat) P_129 ∧ ∀ (r_129 : Int) (μ_130 : Mem), P_129 r_129 μ_130 → ((0 ≤ (wrap (x3 + 1)) ∧ (wrap (x3 + 1)) < L) ∧ (∃ P_132 : Pst, wp_X11_byRule μ_130 (xs (wrap (x3 + 1)).toNat) P_132 ∧ ∀ (r_132 : Int) (μ_133 : Mem), P_132 r_132 μ_133 → (((r_129 = r_132) → b_L_law_888 L xs G18 Post μ_133 x3) ∧ ((¬ r_129 = r_132) → Post 0 μ_133)))))) ∧ (((iand (xs x3.toNat) 31) = 16) → (0 ≤ (wrap (x3 + 1)) ∧ (wrap (x3 + 1)) < L) ∧ (∃ P_136 : Pst, wp_X10_bestRow μ (xs (wrap (x3 + 1)).toNat) P_136 ∧ ∀ (r_136 : Int) (μ_137 : Mem), P_136 r_136 μ_137 → ((0 ≤ (wrap (x3 + 1)) ∧ (wrap (x3 + 1)) < L) ∧ (∃ P_139 : Pst, wp_X11_bestRow μ_137 (xs (wrap (x3 + 1)).toNat) P_139 ∧ ∀ (r_139 : Int) (μ_140 : Mem), P_139 r_139 μ_140 → (((r_136 = r_139) → b_L_law_888 L xs G18 Post μ_140 x3) ∧ ((¬ r_136 = r_139) → Post 0 μ_140)))))) ∧ (((iand (xs x3.toNat) 31) = 17) → (∃ P_142 : Pst, wp_X10_bound μ P_142 ∧ ∀ (r_142 : Int) (μ_143 : Mem), P_142 r_142 μ_143 → ((∃ P_144 : Pst, wp_X11_bound μ_143 P_144 ∧ ∀ (r_144 : Int) (μ_145 : Mem), P_144 r_144 μ_145 → (((r_142 = r_144) → b_L_law_888 L xs G18 Post μ_145 x3) ∧ ((¬ r_142 = r_144) → Post 0 μ_145)))))) ∧ (((iand (xs x3.toNat) 31) = 18) → (∃ P_147 : Pst, wp_X10_any μ P_147 ∧ ∀ (r_147 : Int) (μ_148 : Mem), P_147 r_147 μ_148 → ((∃ P_149 : Pst, wp_X11_any μ_148 P_149 ∧ ∀ (r_149 : Int) (μ_150 : Mem), P_149 r_149 μ_150 → (((r_147 = r_149) → b_L_law_888 L xs G18 Post μ_150 x3) ∧ ((¬ r_147 = r_149) → Post 0 μ_150)))))) ∧ (((iand (xs x3.toNat) 31) = 19) → (0 ≤ (wrap (x3 + 1)) ∧ (wrap (x3 + 1)) < L) ∧ (0 ≤ (wrap (x3 + 2)) ∧ (wrap (x3 + 2)) < L) ∧ (0 ≤ (wrap (x3 + 3)) ∧ (wrap (x3 + 3)) < L) ∧ (∃ P_155 : Pst, wp_X10_step μ (xs (wrap (x3 + 1)).toNat) (xs (wrap (x3 + 2)).toNat) (xs (wrap (x3 + 3)).toNat) P_155 ∧ ∀ (r_155 : Int) (μ_156 : Mem), P_155 r_155 μ_156 → ((0 ≤ (wrap (x3 + 1)) ∧ (wrap (x3 + 1)) < L) ∧ (0 ≤ (wrap (x3 + 2)) ∧ (wrap (x3 + 2)) < L) ∧ (0 ≤ (wrap (x3 + 3)) ∧ (wrap (x3 + 3)) < L) ∧ (∃ P_160 : Pst, wp_X11_step μ_156 (xs (wrap (x3 + 1)).toNat) (xs (wrap (x3 + 2)).toNat) (xs (wrap (x3 + 3)).toNat) P_160 ∧ ∀ (r_160 : Int) (μ_161 : Mem), P_160 r_160 μ_161 → (((r_155 = r_160) → b_L_law_888 L xs G18 Post μ_161 x3) ∧ ((¬ r_155 = r_160) → Post 0 μ_161)))))) ∧ (((iand (xs x3.toNat) 31) = 20) → (∃ P_163 : Pst, wp_X10_clear μ P_163 ∧ ∀ (r_163 : Int) (μ_164 : Mem), P_163 r_163 μ_164 → ((∃ P_165 : Pst, wp_X11_clear μ_164 P_165 ∧ ∀ (r_165 : Int) (μ_166 : Mem), P_165 r_165 μ_166 → (((r_163 = r_165) → b_L_law_888 L xs G18 Post μ_166 x3) ∧ ((¬ r_163 = r_165) → Post 0 μ_166)))))) ∧ (((iand (xs x3.toNat) 31) = 21) → (∃ P_168 : Pst, wp_X10_walk μ P_168 ∧ ∀ (r_168 : Int) (μ_169 : Mem), P_168 r_168 μ_169 → ((∃ P_170 : Pst, wp_X11_walk μ_169 P_170 ∧ ∀ (r_170 : Int) (μ_171 : Mem), P_170 r_170 μ_171 → (((r_168 = r_170) → b_L_law_888 L xs G18 Post μ_171 x3) ∧ ((¬ r_168 = r_170) → Post 0 μ_171)))))) ∧ (((iand (xs x3.toNat) 31) = 22) → (0 ≤ (wrap (x3 + 1)) ∧ (wrap (x3 + 1)) < L) ∧ (∃ P_174 : Pst, wp_X10_leaf μ (xs (wrap (x3 + 1)).toNat) P_174 ∧ ∀ (r_174 : Int) (μ_175 : Mem), P_174 r_174 μ_175 → ((0 ≤ (wrap (x3 + 1)) ∧ (wrap (x3 + 1)) < L) ∧ (∃ P_177 : Pst, wp_X11_leaf μ_175 (xs (wrap (x3 + 1)).toNat) P_177 ∧ ∀ (r_177 : Int) (μ_178 : Mem), P_177 r_177 μ_178 → (((r_174 = r_177) → b_L_law_888 L xs G18 Post μ_178 x3) ∧ ((¬ r_174 = r_177) → Post 0 μ_178)))))) ∧ (((iand (xs x3.toNat) 31) = 23) → (∃ P_180 : Pst, wp_X10_fell μ P_180 ∧ ∀ (r_180 : Int) (μ_181 : Mem), P_180 r_180 μ_181 → ((∃ P_182 : Pst, wp_X11_fell μ_181 P_182 ∧ ∀ (r_182 : Int) (μ_183 : Mem), P_182 r_182 μ_183 → (((r_180 = r_182) → b_L_law_888 L xs G18 Post μ_183 x3) ∧ ((¬ r_180 = r_182) → Post 0 μ_183)))))) ∧ (((iand (xs x3.toNat) 31) = 24) → (0 ≤ (wrap (x3 + 1)) ∧ (wrap (x3 + 1)) < L) ∧ (∃ P_186 : Pst, wp_X10_likes μ (xs (wrap (x3 + 1)).toNat) P_186 ∧ ∀ (r_186 : Int) (μ_187 : Mem), P_186 r_186 μ_187 → ((0 ≤ (wrap (x3 + 1)) ∧ (wrap (x3 + 1)) < L) ∧ (∃ P_189 : Pst, wp_X11_likes μ_187 (xs (wrap (x3 + 1)).toNat) P_189 ∧ ∀ (r_189 : Int) (μ_190 : Mem), P_189 r_189 μ_190 → (((r_186 = r_189) → b_L_law_888 L xs G18 Post μ_190 x3) ∧ ((¬ r_186 = r_189) → Post 0 μ_190)))))) ∧ (((iand (xs x3.toNat) 31) = 25) → (0 ≤ (wrap (x3 + 1)) ∧ (wrap (x3 + 1)) < L) ∧ (∃ P_193 : Pst, wp_X10_levels μ (xs (wrap (x3 + 1)).toNat) P_193 ∧ ∀ (r_193 : Int) (μ_194 : Mem), P_193 r_193 μ_194 → ((0 ≤ (wrap (x3 + 1)) ∧ (wrap (x3 + 1)) < L) ∧ (∃ P_196 : Pst, wp_X11_levels μ_194 (xs (wrap (x3 + 1)).toNat) P_196 ∧ ∀ (r_196 : Int) (μ_197 : Mem), P_196 r_196 μ_197 → (((r_193 = r_196) → b_L_law_888 L xs G18 Post μ_197 x3) ∧ ((¬ r_193 = r_196) → Post 0 μ_197)))))) ∧ (((iand (xs x3.toNat) 31) = 26) → (0 ≤ (wrap (x3 + 1)) ∧ (wrap (x3 + 1)) < L) ∧ (∃ P_200 : Pst, wp_X10_least μ (xs (wrap (x3 + 1)).toNat) P_200 ∧ ∀ (r_200 : Int) (μ_201 : Mem), P_200 r_200 μ_201 → ((0 ≤ (wrap (x3 + 1)) ∧ (wrap (x3 + 1)) < L) ∧ (∃ P_203 : Pst, wp_X11_least μ_201 (xs (wrap (x3 + 1)).toNat) P_203 ∧ ∀ (r_203 : Int) (μ_204 : Mem), P_203 r_203 μ_204 → (((r_200 = r_203) → b_L_law_888 L xs G18 Post μ_204 x3) ∧ ((¬ r_200 = r_203) → Post 0 μ_204)))))) ∧ (((iand (xs x3.toNat) 31) = 27) → (0 ≤ (wrap (x3 + 1)) ∧ (wrap (x3 + 1)) < L) ∧ (∃ P_207 : Pst, wp_X10_count μ (xs (wrap (x3 + 1)).toNat) P_207 ∧ ∀ (r_207 : Int) (μ_208 : Mem), P_207 r_207 μ_208 → ((0 ≤ (wrap (x3 + 1)) ∧ (wrap (x3 + 1)) < L) ∧ (∃ P_210 : Pst, wp_X11_count μ_208 (xs (wrap (x3 + 1)).toNat) P_210 ∧ ∀ (r_210 : Int) (μ_211 : Mem), P_210 r_210 μ_211 → (((r_207 = r_210) → b_L_law_888 L xs G18 Post μ_211 x3) ∧ ((¬ r_207 = r_210) → Post 0 μ_211)))))) ∧ (((iand (xs x3.toNat) 31) = 28) → (∃ P_213 : Pst, wp_X10_digest μ P_213 ∧ ∀ (r_213 : Int) (μ_214 : Mem), P_213 r_213 μ_214 → ((∃ P_215 : Pst, wp_X11_digest μ_214 P_215 ∧ ∀ (r_215 : Int) (μ_216 : Mem), P_215 r_215 μ_216 → ((((lcp r_213 r_215) = 0) → b_L_law_888 L xs G18 Post μ_216 x3) ∧ ((¬ (lcp r_213 r_215) = 0) → Post 0 μ_216)))))))
def wp_L_law (L : Nat) (xs : Nat → Int) (μ : Mem) (Post : Pst) : Prop := ∀ (G18 : Mem → Int → Prop), (∀ μ x3, b_L_law_18 L xs G18 Post μ x3 → G18 μ x3) → G18 μ 0
set_option maxHeartbeats 4000000 in
set_option maxRecDepth 100000 in
theorem c_L_law {g : Wc} {X : Cx} {L : Nat} {xs : Nat → Int} (F : Fx g X cL_law RL 4 17) (SX : Scr g X L xs) (hQ : X.2.2.1.2.2 = lw_Z X.2.1.2.2.2 X.2.1.2.2.1 X.2.1.1 ∧ X.1.2.2.2 = room_1 ∧ X.2.1.2.2.1 = #[Value.ref (g.1 115)] ∧ X.2.2.1.1.sig.returnType = ret) (μ : Mem) (hb : wp_L_law L xs μ (fun r _ => r = 1)) : V g X 4 μ [(0, Rv 115), (1, Rv 0), (2, Rv 11), (3, Iv 0)] 18 [] := by
  obtain ⟨Post, hPost⟩ : ∃ P : Pst, P = fun r _ => r = 1 := ⟨_, rfl⟩
  rw [← hPost] at hb
  have hQ : ∀ (r : Int) (μ : Mem), Post r μ → LawEnd g X r := fun r μ h => ⟨by rw [hPost] at h; exact h, hQ⟩
  unfold wp_L_law at hb
  obtain ⟨G18, g18, f18⟩ : ∃ G : Mem → Int → Prop, (∀ μ x3, G μ x3 → V g X 4 μ [(0, Rv 115), (1, Rv 0), (2, Rv 11), (3, Iv x3)] 18 []) ∧ (∀ μ x3, V g X 4 μ [(0, Rv 115), (1, Rv 0), (2, Rv 11), (3, Iv x3)] 18 [] → G μ x3) := ⟨fun μ x3 => V g X 4 μ [(0, Rv 115), (1, Rv 0), (2, Rv 11), (3, Iv x3)] 18 [], fun _ _ h => h, fun _ _ h => h⟩
  have K888 : ∀ (μ : Mem) (x3 : Int), b_L_law_888 L xs G18 Post μ x3 → V g X 4 μ [(0, Rv 115), (1, Rv 0), (2, Rv 11), (3, Iv x3)] 888 [] := by
    intro μ x3 hb
    unfold b_L_law_888 at hb
    refine r_iincN (pc := 888) 3 (lf := fun x_1 => [(3, Iv x_1), (0, Rv 115), (1, Rv 0), (2, Rv 11)]) F dL_law_888 rfl (by decide) rfl (fun x_1 ex_1 => ?_)
    have hb := hb x_1 ex_1
    refine r_goto (pc := 891) (tgt := 18) F dL_law_891 (by decide) ?_
    exact V.sub [1, 2, 3, 0] rfl (g18 μ x_1 hb)
  have K281 : ∀ (μ : Mem) (x3 : Int) (s0 : Int) (s2 : Int) (s3 : Int) (s4 : Int), b_L_law_281 L xs G18 Post μ x3 s0 s2 s3 s4 → V g X 4 μ [(0, Rv 115), (1, Rv 0), (2, Rv 11), (3, Iv x3)] 281 [Iv s4, Iv s3, Iv s2, Rv 11, Iv s0] := by
    intro μ x3 s0 s2 s3 s4 hb
    unfold b_L_law_281 at hb
    obtain ⟨P_2, hw, hb⟩ := hb
    refine r_callI (pc := 281) (avs := [Iv s2, Iv s3, Iv s4]) (st := [Iv s0]) F (c_X11_ahead μ s2 s3 s4 P_2 hw) (by decide) cal_X11_ahead calv_X11_ahead lk_RL_27 rfl rfl (Nat.le_of_ble_eq_true rfl) dL_law_281 (fun r_2 μ_3 hz => ?_)
    have hb := hb r_2 μ_3 hz
    refine r_icmp_eq (pc := 284) (tgt := 888) F dL_law_284 (by decide) (fun c_4 => ?_) (fun c_4 => ?_)
    · have hb := hb.1 c_4
      exact V.sub [0, 1, 2, 3] rfl (K888 μ_3 x3 hb)
    · have hb := hb.2 c_4
      refine r_iconst (pc := 287) F dL_law_287 (inR_lit rfl) ?_
      exact r_lawret (pc := 288) F SX hQ dL_law_288 hb
  have K254 : ∀ (μ : Mem) (x3 : Int) (s1 : Int) (s2 : Int) (s3 : Int), b_L_law_254 L xs G18 Post μ x3 s1 s2 s3 → V g X 4 μ [(0, Rv 115), (1, Rv 0), (2, Rv 11), (3, Iv x3)] 254 [Iv s3, Iv s2, Iv s1, Rv 0] := by
    intro μ x3 s1 s2 s3 hb
    unfold b_L_law_254 at hb
    obtain ⟨P_5, hw, hb⟩ := hb
    refine r_callI (pc := 254) (avs := [Iv s1, Iv s2, Iv s3]) (st := []) F (c_X10_ahead μ s1 s2 s3 P_5 hw) (by decide) cal_X10_ahead calv_X10_ahead lk_RL_23 rfl rfl (Nat.le_of_ble_eq_true rfl) dL_law_254 (fun r_5 μ_6 hz => ?_)
    have hb := hb r_5 μ_6 hz
    refine r_aload_n (pc := 257) 2 F dL_law_257 rfl rfl ?_
    refine r_aload_n (pc := 258) 0 F dL_law_258 rfl rfl ?_
    refine r_iload_n (pc := 259) 3 F dL_law_259 rfl rfl ?_
    refine r_iconst (pc := 260) F dL_law_260 (inR_lit rfl) ?_
    refine r_iadd (pc := 261) F dL_law_261 ?_
    refine r_sld (pc := 262) F SX hb.1 dL_law_262 ?_
    have hb := hb.2
    refine r_aload_n (pc := 263) 0 F dL_law_263 rfl rfl ?_
    refine r_iload_n (pc := 264) 3 F dL_law_264 rfl rfl ?_
    refine r_iconst (pc := 265) F dL_law_265 (inR_lit rfl) ?_
    refine r_iadd (pc := 266) F dL_law_266 ?_
    refine r_sld (pc := 267) F SX hb.1 dL_law_267 ?_
    have hb := hb.2
    refine r_aload_n (pc := 268) 0 F dL_law_268 rfl rfl ?_
    refine r_iload_n (pc := 269) 3 F dL_law_269 rfl rfl ?_
    refine r_iconst (pc := 270) F dL_law_270 (inR_lit rfl) ?_
    refine r_iadd (pc := 271) F dL_law_271 ?_
    refine r_sld (pc := 272) F SX hb.1 dL_law_272 ?_
    have hb := hb.2
    refine r_if_eq (pc := 273) (tgt := 280) F dL_law_273 (by decide) (fun c_10 => ?_) (fun c_10 => ?_)
    · have hb := hb.1 c_10
      refine r_iconst (pc := 280) F dL_law_280 (inR_lit rfl) ?_
      exact V.sub [0, 1, 2, 3] rfl (K281 μ_6 x3 r_5 (xs (wrap (x3 + 1)).toNat) (xs (wrap (x3 + 2)).toNat) 0 hb)
    · have hb := hb.2 c_10
      refine r_iconst (pc := 276) F dL_law_276 (inR_lit rfl) ?_
      refine r_goto (pc := 277) (tgt := 281) F dL_law_277 (by decide) ?_
      exact V.sub [0, 1, 2, 3] rfl (K281 μ_6 x3 r_5 (xs (wrap (x3 + 1)).toNat) (xs (wrap (x3 + 2)).toNat) 1 hb)
  have K18 : ∀ (μ : Mem) (x3 : Int), b_L_law_18 L xs G18 Post μ x3 → V g X 4 μ [(0, Rv 115), (1, Rv 0), (2, Rv 11), (3, Iv x3)] 18 [] := by
    intro μ x3 hb
    unfold b_L_law_18 at hb
    refine r_iload_n (pc := 18) 3 F dL_law_18 rfl rfl ?_
    refine r_aload_n (pc := 19) 0 F dL_law_19 rfl rfl ?_
    refine r_slen (pc := 20) F SX dL_law_20 ?_
    refine r_iconst (pc := 21) F dL_law_21 (inR_lit rfl) ?_
    refine r_isub (pc := 22) F dL_law_22 ?_
    refine r_icmp_gt (pc := 23) (tgt := 894) F dL_law_23 (by decide) (fun c_11 => ?_) (fun c_11 => ?_)
    · have hb := hb.1 c_11
      refine r_iconst (pc := 894) F dL_law_894 (inR_lit rfl) ?_
      exact r_lawret (pc := 895) F SX hQ dL_law_895 hb
    · have hb := hb.2 c_11
      refine r_aload_n (pc := 26) 0 F dL_law_26 rfl rfl ?_
      refine r_iload_n (pc := 27) 3 F dL_law_27 rfl rfl ?_
      refine r_sld (pc := 28) F SX hb.1 dL_law_28 ?_
      have hb := hb.2
      refine r_bipush (pc := 29) F dL_law_29 (inR_lit rfl) (by decide) ?_
      refine r_iand (pc := 31) F dL_law_31 ?_
      rcases (show ((iand (xs x3.toNat) 31) < 0 ∨ 28 < (iand (xs x3.toNat) 31)) ∨ (iand (xs x3.toNat) 31) = 0 ∨ (iand (xs x3.toNat) 31) = 1 ∨ (iand (xs x3.toNat) 31) = 2 ∨ (iand (xs x3.toNat) 31) = 3 ∨ (iand (xs x3.toNat) 31) = 4 ∨ (iand (xs x3.toNat) 31) = 5 ∨ (iand (xs x3.toNat) 31) = 6 ∨ (iand (xs x3.toNat) 31) = 7 ∨ (iand (xs x3.toNat) 31) = 8 ∨ (iand (xs x3.toNat) 31) = 9 ∨ (iand (xs x3.toNat) 31) = 10 ∨ (iand (xs x3.toNat) 31) = 11 ∨ (iand (xs x3.toNat) 31) = 12 ∨ (iand (xs x3.toNat) 31) = 13 ∨ (iand (xs x3.toNat) 31) = 14 ∨ (iand (xs x3.toNat) 31) = 15 ∨ (iand (xs x3.toNat) 31) = 16 ∨ (iand (xs x3.toNat) 31) = 17 ∨ (iand (xs x3.toNat) 31) = 18 ∨ (iand (xs x3.toNat) 31) = 19 ∨ (iand (xs x3.toNat) 31) = 20 ∨ (iand (xs x3.toNat) 31) = 21 ∨ (iand (xs x3.toNat) 31) = 22 ∨ (iand (xs x3.toNat) 31) = 23 ∨ (iand (xs x3.toNat) 31) = 24 ∨ (iand (xs x3.toNat) 31) = 25 ∨ (iand (xs x3.toNat) 31) = 26 ∨ (iand (xs x3.toNat) 31) = 27 ∨ (iand (xs x3.toNat) 31) = 28 by omega) with c_13 | c_13 | c_13 | c_13 | c_13 | c_13 | c_13 | c_13 | c_13 | c_13 | c_13 | c_13 | c_13 | c_13 | c_13 | c_13 | c_13 | c_13 | c_13 | c_13 | c_13 | c_13 | c_13 | c_13 | c_13 | c_13 | c_13 | c_13 | c_13 | c_13
      · have hb := hb.1 c_13
        refine r_tableOut (pc := 32) (tgt := 888) F dL_law_32 c_13 (by decide) ?_
        exact V.sub [0, 1, 2, 3] rfl (K888 μ x3 hb)
      · have hb := hb.2.1 c_13
        refine r_tableIn (pc := 32) (tgt := 164) (off := 132) F dL_law_32 (by omega) (by omega) (by rw [c_13]; rfl) (by decide) ?_
        refine r_aload_n (pc := 164) 1 F dL_law_164 rfl rfl ?_
        refine r_aload_n (pc := 165) 0 F dL_law_165 rfl rfl ?_
        refine r_iload_n (pc := 166) 3 F dL_law_166 rfl rfl ?_
        refine r_iconst (pc := 167) F dL_law_167 (inR_lit rfl) ?_
        refine r_iadd (pc := 168) F dL_law_168 ?_
        refine r_sld (pc := 169) F SX hb.1 dL_law_169 ?_
        have hb := hb.2
        obtain ⟨P_15, hw, hb⟩ := hb
        refine r_callI (pc := 170) (avs := [Iv (xs (wrap (x3 + 1)).toNat)]) (st := []) F (c_X10_work μ (xs (wrap (x3 + 1)).toNat) P_15 hw) (by decide) cal_X10_work calv_X10_work lk_RL_13 rfl rfl (Nat.le_of_ble_eq_true rfl) dL_law_170 (fun r_15 μ_16 hz => ?_)
        have hb := hb r_15 μ_16 hz
        refine r_aload_n (pc := 173) 2 F dL_law_173 rfl rfl ?_
        refine r_aload_n (pc := 174) 0 F dL_law_174 rfl rfl ?_
        refine r_iload_n (pc := 175) 3 F dL_law_175 rfl rfl ?_
        refine r_iconst (pc := 176) F dL_law_176 (inR_lit rfl) ?_
        refine r_iadd (pc := 177) F dL_law_177 ?_
        refine r_sld (pc := 178) F SX hb.1 dL_law_178 ?_
        have hb := hb.2
        obtain ⟨P_18, hw, hb⟩ := hb
        refine r_callI (pc := 179) (avs := [Iv (xs (wrap (x3 + 1)).toNat)]) (st := [Iv r_15]) F (c_X11_work μ_16 (xs (wrap (x3 + 1)).toNat) P_18 hw) (by decide) cal_X11_work calv_X11_work lk_RL_17 rfl rfl (Nat.le_of_ble_eq_true rfl) dL_law_179 (fun r_18 μ_19 hz => ?_)
        have hb := hb r_18 μ_19 hz
        refine r_icmp_eq (pc := 182) (tgt := 888) F dL_law_182 (by decide) (fun c_20 => ?_) (fun c_20 => ?_)
        · have hb := hb.1 c_20
          exact V.sub [0, 1, 2, 3] rfl (K888 μ_19 x3 hb)
        · have hb := hb.2 c_20
          refine r_iconst (pc := 185) F dL_law_185 (inR_lit rfl) ?_
          exact r_lawret (pc := 186) F SX hQ dL_law_186 hb
      · have hb := hb.2.2.1 c_13
        refine r_tableIn (pc := 32) (tgt := 187) (off := 155) F dL_law_32 (by omega) (by omega) (by rw [c_13]; rfl) (by decide) ?_
        refine r_aload_n (pc := 187) 1 F dL_law_187 rfl rfl ?_
        refine r_aload_n (pc := 188) 0 F dL_law_188 rfl rfl ?_
        refine r_iload_n (pc := 189) 3 F dL_law_189 rfl rfl ?_
        refine r_iconst (pc := 190) F dL_law_190 (inR_lit rfl) ?_
        refine r_iadd (pc := 191) F dL_law_191 ?_
        refine r_sld (pc := 192) F SX hb.1 dL_law_192 ?_
        have hb := hb.2
        refine r_aload_n (pc := 193) 0 F dL_law_193 rfl rfl ?_
        refine r_iload_n (pc := 194) 3 F dL_law_194 rfl rfl ?_
        refine r_iconst (pc := 195) F dL_law_195 (inR_lit rfl) ?_
        refine r_iadd (pc := 196) F dL_law_196 ?_
        refine r_sld (pc := 197) F SX hb.1 dL_law_197 ?_
        have hb := hb.2
        refine r_aload_n (pc := 198) 0 F dL_law_198 rfl rfl ?_
        refine r_iload_n (pc := 199) 3 F dL_law_199 rfl rfl ?_
        refine r_iconst (pc := 200) F dL_law_200 (inR_lit rfl) ?_
        refine r_iadd (pc := 201) F dL_law_201 ?_
        refine r_sld (pc := 202) F SX hb.1 dL_law_202 ?_
        have hb := hb.2
        obtain ⟨P_24, hw, hb⟩ := hb
        refine r_callI (pc := 203) (avs := [Iv (xs (wrap (x3 + 1)).toNat), Iv (xs (wrap (x3 + 2)).toNat), Iv (xs (wrap (x3 + 3)).toNat)]) (st := []) F (c_X10_put μ (xs (wrap (x3 + 1)).toNat) (xs (wrap (x3 + 2)).toNat) (xs (wrap (x3 + 3)).toNat) P_24 hw) (by decide) cal_X10_put calv_X10_put lk_RL_18 rfl rfl (Nat.le_of_ble_eq_true rfl) dL_law_203 (fun r_24 μ_25 hz => ?_)
        have hb := hb r_24 μ_25 hz
        refine r_aload_n (pc := 206) 2 F dL_law_206 rfl rfl ?_
        refine r_aload_n (pc := 207) 0 F dL_law_207 rfl rfl ?_
        refine r_iload_n (pc := 208) 3 F dL_law_208 rfl rfl ?_
        refine r_iconst (pc := 209) F dL_law_209 (inR_lit rfl) ?_
        refine r_iadd (pc := 210) F dL_law_210 ?_
        refine r_sld (pc := 211) F SX hb.1 dL_law_211 ?_
        have hb := hb.2
        refine r_aload_n (pc := 212) 0 F dL_law_212 rfl rfl ?_
        refine r_iload_n (pc := 213) 3 F dL_law_213 rfl rfl ?_
        refine r_iconst (pc := 214) F dL_law_214 (inR_lit rfl) ?_
        refine r_iadd (pc := 215) F dL_law_215 ?_
        refine r_sld (pc := 216) F SX hb.1 dL_law_216 ?_
        have hb := hb.2
        refine r_aload_n (pc := 217) 0 F dL_law_217 rfl rfl ?_
        refine r_iload_n (pc := 218) 3 F dL_law_218 rfl rfl ?_
        refine r_iconst (pc := 219) F dL_law_219 (inR_lit rfl) ?_
        refine r_iadd (pc := 220) F dL_law_220 ?_
        refine r_sld (pc := 221) F SX hb.1 dL_law_221 ?_
        have hb := hb.2
        obtain ⟨P_29, hw, hb⟩ := hb
        refine r_callI (pc := 222) (avs := [Iv (xs (wrap (x3 + 1)).toNat), Iv (xs (wrap (x3 + 2)).toNat), Iv (xs (wrap (x3 + 3)).toNat)]) (st := [Iv r_24]) F (c_X11_put μ_25 (xs (wrap (x3 + 1)).toNat) (xs (wrap (x3 + 2)).toNat) (xs (wrap (x3 + 3)).toNat) P_29 hw) (by decide) cal_X11_put calv_X11_put lk_RL_22 rfl rfl (Nat.le_of_ble_eq_true rfl) dL_law_222 (fun r_29 μ_30 hz => ?_)
        have hb := hb r_29 μ_30 hz
        refine r_icmp_eq (pc := 225) (tgt := 888) F dL_law_225 (by decide) (fun c_31 => ?_) (fun c_31 => ?_)
        · have hb := hb.1 c_31
          exact V.sub [0, 1, 2, 3] rfl (K888 μ_30 x3 hb)
        · have hb := hb.2 c_31
          refine r_iconst (pc := 228) F dL_law_228 (inR_lit rfl) ?_
          exact r_lawret (pc := 229) F SX hQ dL_law_229 hb
      · have hb := hb.2.2.2.1 c_13
        refine r_tableIn (pc := 32) (tgt := 230) (off := 198) F dL_law_32 (by omega) (by omega) (by rw [c_13]; rfl) (by decide) ?_
        refine r_aload_n (pc := 230) 1 F dL_law_230 rfl rfl ?_
        refine r_aload_n (pc := 231) 0 F dL_law_231 rfl rfl ?_
        refine r_iload_n (pc := 232) 3 F dL_law_232 rfl rfl ?_
        refine r_iconst (pc := 233) F dL_law_233 (inR_lit rfl) ?_
        refine r_iadd (pc := 234) F dL_law_234 ?_
        refine r_sld (pc := 235) F SX hb.1 dL_law_235 ?_
        have hb := hb.2
        refine r_aload_n (pc := 236) 0 F dL_law_236 rfl rfl ?_
        refine r_iload_n (pc := 237) 3 F dL_law_237 rfl rfl ?_
        refine r_iconst (pc := 238) F dL_law_238 (inR_lit rfl) ?_
        refine r_iadd (pc := 239) F dL_law_239 ?_
        refine r_sld (pc := 240) F SX hb.1 dL_law_240 ?_
        have hb := hb.2
        refine r_aload_n (pc := 241) 0 F dL_law_241 rfl rfl ?_
        refine r_iload_n (pc := 242) 3 F dL_law_242 rfl rfl ?_
        refine r_iconst (pc := 243) F dL_law_243 (inR_lit rfl) ?_
        refine r_iadd (pc := 244) F dL_law_244 ?_
        refine r_sld (pc := 245) F SX hb.1 dL_law_245 ?_
        have hb := hb.2
        refine r_if_eq (pc := 246) (tgt := 253) F dL_law_246 (by decide) (fun c_35 => ?_) (fun c_35 => ?_)
        · have hb := hb.1 c_35
          refine r_iconst (pc := 253) F dL_law_253 (inR_lit rfl) ?_
          exact V.sub [0, 1, 2, 3] rfl (K254 μ x3 (xs (wrap (x3 + 1)).toNat) (xs (wrap (x3 + 2)).toNat) 0 hb)
        · have hb := hb.2 c_35
          refine r_iconst (pc := 249) F dL_law_249 (inR_lit rfl) ?_
          refine r_goto (pc := 250) (tgt := 254) F dL_law_250 (by decide) ?_
          exact V.sub [0, 1, 2, 3] rfl (K254 μ x3 (xs (wrap (x3 + 1)).toNat) (xs (wrap (x3 + 2)).toNat) 1 hb)
      · have hb := hb.2.2.2.2.1 c_13
        refine r_tableIn (pc := 32) (tgt := 289) (off := 257) F dL_law_32 (by omega) (by omega) (by rw [c_13]; rfl) (by decide) ?_
        refine r_aload_n (pc := 289) 1 F dL_law_289 rfl rfl ?_
        refine r_aload_n (pc := 290) 0 F dL_law_290 rfl rfl ?_
        refine r_iload_n (pc := 291) 3 F dL_law_291 rfl rfl ?_
        refine r_iconst (pc := 292) F dL_law_292 (inR_lit rfl) ?_
        refine r_iadd (pc := 293) F dL_law_293 ?_
        refine r_sld (pc := 294) F SX hb.1 dL_law_294 ?_
        have hb := hb.2
        refine r_aload_n (pc := 295) 0 F dL_law_295 rfl rfl ?_
        refine r_iload_n (pc := 296) 3 F dL_law_296 rfl rfl ?_
        refine r_iconst (pc := 297) F dL_law_297 (inR_lit rfl) ?_
        refine r_iadd (pc := 298) F dL_law_298 ?_
        refine r_sld (pc := 299) F SX hb.1 dL_law_299 ?_
        have hb := hb.2
        refine r_aload_n (pc := 300) 0 F dL_law_300 rfl rfl ?_
        refine r_iload_n (pc := 301) 3 F dL_law_301 rfl rfl ?_
        refine r_iconst (pc := 302) F dL_law_302 (inR_lit rfl) ?_
        refine r_iadd (pc := 303) F dL_law_303 ?_
        refine r_sld (pc := 304) F SX hb.1 dL_law_304 ?_
        have hb := hb.2
        obtain ⟨P_39, hw, hb⟩ := hb
        refine r_callI (pc := 305) (avs := [Iv (xs (wrap (x3 + 1)).toNat), Iv (xs (wrap (x3 + 2)).toNat), Iv (xs (wrap (x3 + 3)).toNat)]) (st := []) F (c_X10_change μ (xs (wrap (x3 + 1)).toNat) (xs (wrap (x3 + 2)).toNat) (xs (wrap (x3 + 3)).toNat) P_39 hw) (by decide) cal_X10_change calv_X10_change lk_RL_28 rfl rfl (Nat.le_of_ble_eq_true rfl) dL_law_305 (fun r_39 μ_40 hz => ?_)
        have hb := hb r_39 μ_40 hz
        refine r_aload_n (pc := 308) 2 F dL_law_308 rfl rfl ?_
        refine r_aload_n (pc := 309) 0 F dL_law_309 rfl rfl ?_
        refine r_iload_n (pc := 310) 3 F dL_law_310 rfl rfl ?_
        refine r_iconst (pc := 311) F dL_law_311 (inR_lit rfl) ?_
        refine r_iadd (pc := 312) F dL_law_312 ?_
        refine r_sld (pc := 313) F SX hb.1 dL_law_313 ?_
        have hb := hb.2
        refine r_aload_n (pc := 314) 0 F dL_law_314 rfl rfl ?_
        refine r_iload_n (pc := 315) 3 F dL_law_315 rfl rfl ?_
        refine r_iconst (pc := 316) F dL_law_316 (inR_lit rfl) ?_
        refine r_iadd (pc := 317) F dL_law_317 ?_
        refine r_sld (pc := 318) F SX hb.1 dL_law_318 ?_
        have hb := hb.2
        refine r_aload_n (pc := 319) 0 F dL_law_319 rfl rfl ?_
        refine r_iload_n (pc := 320) 3 F dL_law_320 rfl rfl ?_
        refine r_iconst (pc := 321) F dL_law_321 (inR_lit rfl) ?_
        refine r_iadd (pc := 322) F dL_law_322 ?_
        refine r_sld (pc := 323) F SX hb.1 dL_law_323 ?_
        have hb := hb.2
        obtain ⟨P_44, hw, hb⟩ := hb
        refine r_callI (pc := 324) (avs := [Iv (xs (wrap (x3 + 1)).toNat), Iv (xs (wrap (x3 + 2)).toNat), Iv (xs (wrap (x3 + 3)).toNat)]) (st := [Iv r_39]) F (c_X11_change μ_40 (xs (wrap (x3 + 1)).toNat) (xs (wrap (x3 + 2)).toNat) (xs (wrap (x3 + 3)).toNat) P_44 hw) (by decide) cal_X11_change calv_X11_change lk_RL_31 rfl rfl (Nat.le_of_ble_eq_true rfl) dL_law_324 (fun r_44 μ_45 hz => ?_)
        have hb := hb r_44 μ_45 hz
        refine r_icmp_eq (pc := 327) (tgt := 888) F dL_law_327 (by decide) (fun c_46 => ?_) (fun c_46 => ?_)
        · have hb := hb.1 c_46
          exact V.sub [0, 1, 2, 3] rfl (K888 μ_45 x3 hb)
        · have hb := hb.2 c_46
          refine r_iconst (pc := 330) F dL_law_330 (inR_lit rfl) ?_
          exact r_lawret (pc := 331) F SX hQ dL_law_331 hb
      · have hb := hb.2.2.2.2.2.1 c_13
        refine r_tableIn (pc := 32) (tgt := 332) (off := 300) F dL_law_32 (by omega) (by omega) (by rw [c_13]; rfl) (by decide) ?_
        refine r_aload_n (pc := 332) 1 F dL_law_332 rfl rfl ?_
        refine r_aload_n (pc := 333) 0 F dL_law_333 rfl rfl ?_
        refine r_iload_n (pc := 334) 3 F dL_law_334 rfl rfl ?_
        refine r_iconst (pc := 335) F dL_law_335 (inR_lit rfl) ?_
        refine r_iadd (pc := 336) F dL_law_336 ?_
        refine r_sld (pc := 337) F SX hb.1 dL_law_337 ?_
        have hb := hb.2
        refine r_aload_n (pc := 338) 0 F dL_law_338 rfl rfl ?_
        refine r_iload_n (pc := 339) 3 F dL_law_339 rfl rfl ?_
        refine r_iconst (pc := 340) F dL_law_340 (inR_lit rfl) ?_
        refine r_iadd (pc := 341) F dL_law_341 ?_
        refine r_sld (pc := 342) F SX hb.1 dL_law_342 ?_
        have hb := hb.2
        obtain ⟨P_49, hw, hb⟩ := hb
        refine r_callI (pc := 343) (avs := [Iv (xs (wrap (x3 + 1)).toNat), Iv (xs (wrap (x3 + 2)).toNat)]) (st := []) F (c_X10_best μ (xs (wrap (x3 + 1)).toNat) (xs (wrap (x3 + 2)).toNat) P_49 hw) (by decide) cal_X10_best calv_X10_best lk_RL_32 rfl rfl (Nat.le_of_ble_eq_true rfl) dL_law_343 (fun r_49 μ_50 hz => ?_)
        have hb := hb r_49 μ_50 hz
        refine r_aload_n (pc := 346) 2 F dL_law_346 rfl rfl ?_
        refine r_aload_n (pc := 347) 0 F dL_law_347 rfl rfl ?_
        refine r_iload_n (pc := 348) 3 F dL_law_348 rfl rfl ?_
        refine r_iconst (pc := 349) F dL_law_349 (inR_lit rfl) ?_
        refine r_iadd (pc := 350) F dL_law_350 ?_
        refine r_sld (pc := 351) F SX hb.1 dL_law_351 ?_
        have hb := hb.2
        refine r_aload_n (pc := 352) 0 F dL_law_352 rfl rfl ?_
        refine r_iload_n (pc := 353) 3 F dL_law_353 rfl rfl ?_
        refine r_iconst (pc := 354) F dL_law_354 (inR_lit rfl) ?_
        refine r_iadd (pc := 355) F dL_law_355 ?_
        refine r_sld (pc := 356) F SX hb.1 dL_law_356 ?_
        have hb := hb.2
        obtain ⟨P_53, hw, hb⟩ := hb
        refine r_callI (pc := 357) (avs := [Iv (xs (wrap (x3 + 1)).toNat), Iv (xs (wrap (x3 + 2)).toNat)]) (st := [Iv r_49]) F (c_X11_best μ_50 (xs (wrap (x3 + 1)).toNat) (xs (wrap (x3 + 2)).toNat) P_53 hw) (by decide) cal_X11_best calv_X11_best lk_RL_36 rfl rfl (Nat.le_of_ble_eq_true rfl) dL_law_357 (fun r_53 μ_54 hz => ?_)
        have hb := hb r_53 μ_54 hz
        refine r_icmp_eq (pc := 360) (tgt := 888) F dL_law_360 (by decide) (fun c_55 => ?_) (fun c_55 => ?_)
        · have hb := hb.1 c_55
          exact V.sub [0, 1, 2, 3] rfl (K888 μ_54 x3 hb)
        · have hb := hb.2 c_55
          refine r_iconst (pc := 363) F dL_law_363 (inR_lit rfl) ?_
          exact r_lawret (pc := 364) F SX hQ dL_law_364 hb
      · have hb := hb.2.2.2.2.2.2.1 c_13
        refine r_tableIn (pc := 32) (tgt := 365) (off := 333) F dL_law_32 (by omega) (by omega) (by rw [c_13]; rfl) (by decide) ?_
        refine r_aload_n (pc := 365) 1 F dL_law_365 rfl rfl ?_
        refine r_aload_n (pc := 366) 0 F dL_law_366 rfl rfl ?_
        refine r_iload_n (pc := 367) 3 F dL_law_367 rfl rfl ?_
        refine r_iconst (pc := 368) F dL_law_368 (inR_lit rfl) ?_
        refine r_iadd (pc := 369) F dL_law_369 ?_
        refine r_sld (pc := 370) F SX hb.1 dL_law_370 ?_
        have hb := hb.2
        obtain ⟨P_57, hw, hb⟩ := hb
        refine r_callI (pc := 371) (avs := [Iv (xs (wrap (x3 + 1)).toNat)]) (st := []) F (c_X10_lastFirst μ (xs (wrap (x3 + 1)).toNat) P_57 hw) (by decide) cal_X10_lastFirst calv_X10_lastFirst lk_RL_37 rfl rfl (Nat.le_of_ble_eq_true rfl) dL_law_371 (fun r_57 μ_58 hz => ?_)
        have hb := hb r_57 μ_58 hz
        refine r_aload_n (pc := 374) 2 F dL_law_374 rfl rfl ?_
        refine r_aload_n (pc := 375) 0 F dL_law_375 rfl rfl ?_
        refine r_iload_n (pc := 376) 3 F dL_law_376 rfl rfl ?_
        refine r_iconst (pc := 377) F dL_law_377 (inR_lit rfl) ?_
        refine r_iadd (pc := 378) F dL_law_378 ?_
        refine r_sld (pc := 379) F SX hb.1 dL_law_379 ?_
        have hb := hb.2
        obtain ⟨P_60, hw, hb⟩ := hb
        refine r_callI (pc := 380) (avs := [Iv (xs (wrap (x3 + 1)).toNat)]) (st := [Iv r_57]) F (c_X11_lastFirst μ_58 (xs (wrap (x3 + 1)).toNat) P_60 hw) (by decide) cal_X11_lastFirst calv_X11_lastFirst lk_RL_40 rfl rfl (Nat.le_of_ble_eq_true rfl) dL_law_380 (fun r_60 μ_61 hz => ?_)
        have hb := hb r_60 μ_61 hz
        refine r_icmp_eq (pc := 383) (tgt := 888) F dL_law_383 (by decide) (fun c_62 => ?_) (fun c_62 => ?_)
        · have hb := hb.1 c_62
          exact V.sub [0, 1, 2, 3] rfl (K888 μ_61 x3 hb)
        · have hb := hb.2 c_62
          refine r_iconst (pc := 386) F dL_law_386 (inR_lit rfl) ?_
          exact r_lawret (pc := 387) F SX hQ dL_law_387 hb
      · have hb := hb.2.2.2.2.2.2.2.1 c_13
        refine r_tableIn (pc := 32) (tgt := 388) (off := 356) F dL_law_32 (by omega) (by omega) (by rw [c_13]; rfl) (by decide) ?_
        refine r_aload_n (pc := 388) 1 F dL_law_388 rfl rfl ?_
        obtain ⟨P_63, hw, hb⟩ := hb
        refine r_callI (pc := 389) (avs := []) (st := []) F (c_X10_onTime μ P_63 hw) (by decide) cal_X10_onTime calv_X10_onTime lk_RL_41 rfl rfl (Nat.le_of_ble_eq_true rfl) dL_law_389 (fun r_63 μ_64 hz => ?_)
        have hb := hb r_63 μ_64 hz
        refine r_aload_n (pc := 392) 2 F dL_law_392 rfl rfl ?_
        obtain ⟨P_65, hw, hb⟩ := hb
        refine r_callI (pc := 393) (avs := []) (st := [Iv r_63]) F (c_X11_onTime μ_64 P_65 hw) (by decide) cal_X11_onTime calv_X11_onTime lk_RL_45 rfl rfl (Nat.le_of_ble_eq_true rfl) dL_law_393 (fun r_65 μ_66 hz => ?_)
        have hb := hb r_65 μ_66 hz
        refine r_icmp_eq (pc := 396) (tgt := 888) F dL_law_396 (by decide) (fun c_67 => ?_) (fun c_67 => ?_)
        · have hb := hb.1 c_67
          exact V.sub [0, 1, 2, 3] rfl (K888 μ_66 x3 hb)
        · have hb := hb.2 c_67
          refine r_iconst (pc := 399) F dL_law_399 (inR_lit rfl) ?_
          exact r_lawret (pc := 400) F SX hQ dL_law_400 hb
      · have hb := hb.2.2.2.2.2.2.2.2.1 c_13
        refine r_tableIn (pc := 32) (tgt := 401) (off := 369) F dL_law_32 (by omega) (by omega) (by rw [c_13]; rfl) (by decide) ?_
        refine r_aload_n (pc := 401) 1 F dL_law_401 rfl rfl ?_
        refine r_aload_n (pc := 402) 0 F dL_law_402 rfl rfl ?_
        refine r_iload_n (pc := 403) 3 F dL_law_403 rfl rfl ?_
        refine r_iconst (pc := 404) F dL_law_404 (inR_lit rfl) ?_
        refine r_iadd (pc := 405) F dL_law_405 ?_
        refine r_sld (pc := 406) F SX hb.1 dL_law_406 ?_
        have hb := hb.2
        obtain ⟨P_69, hw, hb⟩ := hb
        refine r_callI (pc := 407) (avs := [Iv (xs (wrap (x3 + 1)).toNat)]) (st := []) F (c_X10_broken μ (xs (wrap (x3 + 1)).toNat) P_69 hw) (by decide) cal_X10_broken calv_X10_broken lk_RL_46 rfl rfl (Nat.le_of_ble_eq_true rfl) dL_law_407 (fun r_69 μ_70 hz => ?_)
        have hb := hb r_69 μ_70 hz
        refine r_aload_n (pc := 410) 2 F dL_law_410 rfl rfl ?_
        refine r_aload_n (pc := 411) 0 F dL_law_411 rfl rfl ?_
        refine r_iload_n (pc := 412) 3 F dL_law_412 rfl rfl ?_
        refine r_iconst (pc := 413) F dL_law_413 (inR_lit rfl) ?_
        refine r_iadd (pc := 414) F dL_law_414 ?_
        refine r_sld (pc := 415) F SX hb.1 dL_law_415 ?_
        have hb := hb.2
        obtain ⟨P_72, hw, hb⟩ := hb
        refine r_callI (pc := 416) (avs := [Iv (xs (wrap (x3 + 1)).toNat)]) (st := [Iv r_69]) F (c_X11_broken μ_70 (xs (wrap (x3 + 1)).toNat) P_72 hw) (by decide) cal_X11_broken calv_X11_broken lk_RL_49 rfl rfl (Nat.le_of_ble_eq_true rfl) dL_law_416 (fun r_72 μ_73 hz => ?_)
        have hb := hb r_72 μ_73 hz
        refine r_icmp_eq (pc := 419) (tgt := 888) F dL_law_419 (by decide) (fun c_74 => ?_) (fun c_74 => ?_)
        · have hb := hb.1 c_74
          exact V.sub [0, 1, 2, 3] rfl (K888 μ_73 x3 hb)
        · have hb := hb.2 c_74
          refine r_iconst (pc := 422) F dL_law_422 (inR_lit rfl) ?_
          exact r_lawret (pc := 423) F SX hQ dL_law_423 hb
      · have hb := hb.2.2.2.2.2.2.2.2.2.1 c_13
        refine r_tableIn (pc := 32) (tgt := 424) (off := 392) F dL_law_32 (by omega) (by omega) (by rw [c_13]; rfl) (by decide) ?_
        refine r_aload_n (pc := 424) 1 F dL_law_424 rfl rfl ?_
        refine r_aload_n (pc := 425) 0 F dL_law_425 rfl rfl ?_
        refine r_iload_n (pc := 426) 3 F dL_law_426 rfl rfl ?_
        refine r_iconst (pc := 427) F dL_law_427 (inR_lit rfl) ?_
        refine r_iadd (pc := 428) F dL_law_428 ?_
        refine r_sld (pc := 429) F SX hb.1 dL_law_429 ?_
        have hb := hb.2
        obtain ⟨P_76, hw, hb⟩ := hb
        refine r_callI (pc := 430) (avs := [Iv (xs (wrap (x3 + 1)).toNat)]) (st := []) F (c_X10_minute μ (xs (wrap (x3 + 1)).toNat) P_76 hw) (by decide) cal_X10_minute calv_X10_minute lk_RL_50 rfl rfl (Nat.le_of_ble_eq_true rfl) dL_law_430 (fun r_76 μ_77 hz => ?_)
        have hb := hb r_76 μ_77 hz
        refine r_aload_n (pc := 433) 2 F dL_law_433 rfl rfl ?_
        refine r_aload_n (pc := 434) 0 F dL_law_434 rfl rfl ?_
        refine r_iload_n (pc := 435) 3 F dL_law_435 rfl rfl ?_
        refine r_iconst (pc := 436) F dL_law_436 (inR_lit rfl) ?_
        refine r_iadd (pc := 437) F dL_law_437 ?_
        refine r_sld (pc := 438) F SX hb.1 dL_law_438 ?_
        have hb := hb.2
        obtain ⟨P_79, hw, hb⟩ := hb
        refine r_callI (pc := 439) (avs := [Iv (xs (wrap (x3 + 1)).toNat)]) (st := [Iv r_76]) F (c_X11_minute μ_77 (xs (wrap (x3 + 1)).toNat) P_79 hw) (by decide) cal_X11_minute calv_X11_minute lk_RL_53 rfl rfl (Nat.le_of_ble_eq_true rfl) dL_law_439 (fun r_79 μ_80 hz => ?_)
        have hb := hb r_79 μ_80 hz
        refine r_icmp_eq (pc := 442) (tgt := 888) F dL_law_442 (by decide) (fun c_81 => ?_) (fun c_81 => ?_)
        · have hb := hb.1 c_81
          exact V.sub [0, 1, 2, 3] rfl (K888 μ_80 x3 hb)
        · have hb := hb.2 c_81
          refine r_iconst (pc := 445) F dL_law_445 (inR_lit rfl) ?_
          exact r_lawret (pc := 446) F SX hQ dL_law_446 hb
      · have hb := hb.2.2.2.2.2.2.2.2.2.2.1 c_13
        refine r_tableIn (pc := 32) (tgt := 447) (off := 415) F dL_law_32 (by omega) (by omega) (by rw [c_13]; rfl) (by decide) ?_
        refine r_aload_n (pc := 447) 1 F dL_law_447 rfl rfl ?_
        refine r_aload_n (pc := 448) 0 F dL_law_448 rfl rfl ?_
        refine r_iload_n (pc := 449) 3 F dL_law_449 rfl rfl ?_
        refine r_iconst (pc := 450) F dL_law_450 (inR_lit rfl) ?_
        refine r_iadd (pc := 451) F dL_law_451 ?_
        refine r_sld (pc := 452) F SX hb.1 dL_law_452 ?_
        have hb := hb.2
        obtain ⟨P_83, hw, hb⟩ := hb
        refine r_callI (pc := 453) (avs := [Iv (xs (wrap (x3 + 1)).toNat)]) (st := []) F (c_X10_next μ (xs (wrap (x3 + 1)).toNat) P_83 hw) (by decide) cal_X10_next calv_X10_next lk_RL_54 rfl rfl (Nat.le_of_ble_eq_true rfl) dL_law_453 (fun r_83 μ_84 hz => ?_)
        have hb := hb r_83 μ_84 hz
        refine r_aload_n (pc := 456) 2 F dL_law_456 rfl rfl ?_
        refine r_aload_n (pc := 457) 0 F dL_law_457 rfl rfl ?_
        refine r_iload_n (pc := 458) 3 F dL_law_458 rfl rfl ?_
        refine r_iconst (pc := 459) F dL_law_459 (inR_lit rfl) ?_
        refine r_iadd (pc := 460) F dL_law_460 ?_
        refine r_sld (pc := 461) F SX hb.1 dL_law_461 ?_
        have hb := hb.2
        obtain ⟨P_86, hw, hb⟩ := hb
        refine r_callI (pc := 462) (avs := [Iv (xs (wrap (x3 + 1)).toNat)]) (st := [Iv r_83]) F (c_X11_next μ_84 (xs (wrap (x3 + 1)).toNat) P_86 hw) (by decide) cal_X11_next calv_X11_next lk_RL_57 rfl rfl (Nat.le_of_ble_eq_true rfl) dL_law_462 (fun r_86 μ_87 hz => ?_)
        have hb := hb r_86 μ_87 hz
        refine r_icmp_eq (pc := 465) (tgt := 888) F dL_law_465 (by decide) (fun c_88 => ?_) (fun c_88 => ?_)
        · have hb := hb.1 c_88
          exact V.sub [0, 1, 2, 3] rfl (K888 μ_87 x3 hb)
        · have hb := hb.2 c_88
          refine r_iconst (pc := 468) F dL_law_468 (inR_lit rfl) ?_
          exact r_lawret (pc := 469) F SX hQ dL_law_469 hb
      · have hb := hb.2.2.2.2.2.2.2.2.2.2.2.1 c_13
        refine r_tableIn (pc := 32) (tgt := 470) (off := 438) F dL_law_32 (by omega) (by omega) (by rw [c_13]; rfl) (by decide) ?_
        refine r_aload_n (pc := 470) 1 F dL_law_470 rfl rfl ?_
        obtain ⟨P_89, hw, hb⟩ := hb
        refine r_callI (pc := 471) (avs := []) (st := []) F (c_X10_anew μ P_89 hw) (by decide) cal_X10_anew calv_X10_anew lk_RL_58 rfl rfl (Nat.le_of_ble_eq_true rfl) dL_law_471 (fun r_89 μ_90 hz => ?_)
        have hb := hb r_89 μ_90 hz
        refine r_aload_n (pc := 474) 2 F dL_law_474 rfl rfl ?_
        obtain ⟨P_91, hw, hb⟩ := hb
        refine r_callI (pc := 475) (avs := []) (st := [Iv r_89]) F (c_X11_anew μ_90 P_91 hw) (by decide) cal_X11_anew calv_X11_anew lk_RL_61 rfl rfl (Nat.le_of_ble_eq_true rfl) dL_law_475 (fun r_91 μ_92 hz => ?_)
        have hb := hb r_91 μ_92 hz
        refine r_icmp_eq (pc := 478) (tgt := 888) F dL_law_478 (by decide) (fun c_93 => ?_) (fun c_93 => ?_)
        · have hb := hb.1 c_93
          exact V.sub [0, 1, 2, 3] rfl (K888 μ_92 x3 hb)
        · have hb := hb.2 c_93
          refine r_iconst (pc := 481) F dL_law_481 (inR_lit rfl) ?_
          exact r_lawret (pc := 482) F SX hQ dL_law_482 hb
      · have hb := hb.2.2.2.2.2.2.2.2.2.2.2.2.1 c_13
        refine r_tableIn (pc := 32) (tgt := 483) (off := 451) F dL_law_32 (by omega) (by omega) (by rw [c_13]; rfl) (by decide) ?_
        refine r_aload_n (pc := 483) 1 F dL_law_483 rfl rfl ?_
        refine r_aload_n (pc := 484) 0 F dL_law_484 rfl rfl ?_
        refine r_iload_n (pc := 485) 3 F dL_law_485 rfl rfl ?_
        refine r_iconst (pc := 486) F dL_law_486 (inR_lit rfl) ?_
        refine r_iadd (pc := 487) F dL_law_487 ?_
        refine r_sld (pc := 488) F SX hb.1 dL_law_488 ?_
        have hb := hb.2
        obtain ⟨P_95, hw, hb⟩ := hb
        refine r_callI (pc := 489) (avs := [Iv (xs (wrap (x3 + 1)).toNat)]) (st := []) F (c_X10_judge μ (xs (wrap (x3 + 1)).toNat) P_95 hw) (by decide) cal_X10_judge calv_X10_judge lk_RL_62 rfl rfl (Nat.le_of_ble_eq_true rfl) dL_law_489 (fun r_95 μ_96 hz => ?_)
        have hb := hb r_95 μ_96 hz
        refine r_aload_n (pc := 492) 2 F dL_law_492 rfl rfl ?_
        refine r_aload_n (pc := 493) 0 F dL_law_493 rfl rfl ?_
        refine r_iload_n (pc := 494) 3 F dL_law_494 rfl rfl ?_
        refine r_iconst (pc := 495) F dL_law_495 (inR_lit rfl) ?_
        refine r_iadd (pc := 496) F dL_law_496 ?_
        refine r_sld (pc := 497) F SX hb.1 dL_law_497 ?_
        have hb := hb.2
        obtain ⟨P_98, hw, hb⟩ := hb
        refine r_callI (pc := 498) (avs := [Iv (xs (wrap (x3 + 1)).toNat)]) (st := [Iv r_95]) F (c_X11_judge μ_96 (xs (wrap (x3 + 1)).toNat) P_98 hw) (by decide) cal_X11_judge calv_X11_judge lk_RL_65 rfl rfl (Nat.le_of_ble_eq_true rfl) dL_law_498 (fun r_98 μ_99 hz => ?_)
        have hb := hb r_98 μ_99 hz
        refine r_icmp_eq (pc := 501) (tgt := 888) F dL_law_501 (by decide) (fun c_100 => ?_) (fun c_100 => ?_)
        · have hb := hb.1 c_100
          exact V.sub [0, 1, 2, 3] rfl (K888 μ_99 x3 hb)
        · have hb := hb.2 c_100
          refine r_iconst (pc := 504) F dL_law_504 (inR_lit rfl) ?_
          exact r_lawret (pc := 505) F SX hQ dL_law_505 hb
      · have hb := hb.2.2.2.2.2.2.2.2.2.2.2.2.2.1 c_13
        refine r_tableIn (pc := 32) (tgt := 506) (off := 474) F dL_law_32 (by omega) (by omega) (by rw [c_13]; rfl) (by decide) ?_
        refine r_aload_n (pc := 506) 1 F dL_law_506 rfl rfl ?_
        refine r_aload_n (pc := 507) 0 F dL_law_507 rfl rfl ?_
        refine r_iload_n (pc := 508) 3 F dL_law_508 rfl rfl ?_
        refine r_iconst (pc := 509) F dL_law_509 (inR_lit rfl) ?_
        refine r_iadd (pc := 510) F dL_law_510 ?_
        refine r_sld (pc := 511) F SX hb.1 dL_law_511 ?_
        have hb := hb.2
        obtain ⟨P_102, hw, hb⟩ := hb
        refine r_callI (pc := 512) (avs := [Iv (xs (wrap (x3 + 1)).toNat)]) (st := []) F (c_X10_benches μ (xs (wrap (x3 + 1)).toNat) P_102 hw) (by decide) cal_X10_benches calv_X10_benches lk_RL_66 rfl rfl (Nat.le_of_ble_eq_true rfl) dL_law_512 (fun r_102 μ_103 hz => ?_)
        have hb := hb r_102 μ_103 hz
        refine r_aload_n (pc := 515) 2 F dL_law_515 rfl rfl ?_
        refine r_aload_n (pc := 516) 0 F dL_law_516 rfl rfl ?_
        refine r_iload_n (pc := 517) 3 F dL_law_517 rfl rfl ?_
        refine r_iconst (pc := 518) F dL_law_518 (inR_lit rfl) ?_
        refine r_iadd (pc := 519) F dL_law_519 ?_
        refine r_sld (pc := 520) F SX hb.1 dL_law_520 ?_
        have hb := hb.2
        obtain ⟨P_105, hw, hb⟩ := hb
        refine r_callI (pc := 521) (avs := [Iv (xs (wrap (x3 + 1)).toNat)]) (st := [Iv r_102]) F (c_X11_benches μ_103 (xs (wrap (x3 + 1)).toNat) P_105 hw) (by decide) cal_X11_benches calv_X11_benches lk_RL_69 rfl rfl (Nat.le_of_ble_eq_true rfl) dL_law_521 (fun r_105 μ_106 hz => ?_)
        have hb := hb r_105 μ_106 hz
        refine r_icmp_eq (pc := 524) (tgt := 888) F dL_law_524 (by decide) (fun c_107 => ?_) (fun c_107 => ?_)
        · have hb := hb.1 c_107
          exact V.sub [0, 1, 2, 3] rfl (K888 μ_106 x3 hb)
        · have hb := hb.2 c_107
          refine r_iconst (pc := 527) F dL_law_527 (inR_lit rfl) ?_
          exact r_lawret (pc := 528) F SX hQ dL_law_528 hb
      · have hb := hb.2.2.2.2.2.2.2.2.2.2.2.2.2.2.1 c_13
        refine r_tableIn (pc := 32) (tgt := 529) (off := 497) F dL_law_32 (by omega) (by omega) (by rw [c_13]; rfl) (by decide) ?_
        refine r_aload_n (pc := 529) 1 F dL_law_529 rfl rfl ?_
        refine r_aload_n (pc := 530) 0 F dL_law_530 rfl rfl ?_
        refine r_iload_n (pc := 531) 3 F dL_law_531 rfl rfl ?_
        refine r_iconst (pc := 532) F dL_law_532 (inR_lit rfl) ?_
        refine r_iadd (pc := 533) F dL_law_533 ?_
        refine r_sld (pc := 534) F SX hb.1 dL_law_534 ?_
        have hb := hb.2
        refine r_aload_n (pc := 535) 0 F dL_law_535 rfl rfl ?_
        refine r_iload_n (pc := 536) 3 F dL_law_536 rfl rfl ?_
        refine r_iconst (pc := 537) F dL_law_537 (inR_lit rfl) ?_
        refine r_iadd (pc := 538) F dL_law_538 ?_
        refine r_sld (pc := 539) F SX hb.1 dL_law_539 ?_
        have hb := hb.2
        refine r_aload_n (pc := 540) 0 F dL_law_540 rfl rfl ?_
        refine r_iload_n (pc := 541) 3 F dL_law_541 rfl rfl ?_
        refine r_iconst (pc := 542) F dL_law_542 (inR_lit rfl) ?_
        refine r_iadd (pc := 543) F dL_law_543 ?_
        refine r_sld (pc := 544) F SX hb.1 dL_law_544 ?_
        have hb := hb.2
        obtain ⟨P_111, hw, hb⟩ := hb
        refine r_callI (pc := 545) (avs := [Iv (xs (wrap (x3 + 1)).toNat), Iv (xs (wrap (x3 + 2)).toNat), Iv (xs (wrap (x3 + 3)).toNat)]) (st := []) F (c_X10_needs μ (xs (wrap (x3 + 1)).toNat) (xs (wrap (x3 + 2)).toNat) (xs (wrap (x3 + 3)).toNat) P_111 hw) (by decide) cal_X10_needs calv_X10_needs lk_RL_70 rfl rfl (Nat.le_of_ble_eq_true rfl) dL_law_545 (fun r_111 μ_112 hz => ?_)
        have hb := hb r_111 μ_112 hz
        refine r_aload_n (pc := 548) 2 F dL_law_548 rfl rfl ?_
        refine r_aload_n (pc := 549) 0 F dL_law_549 rfl rfl ?_
        refine r_iload_n (pc := 550) 3 F dL_law_550 rfl rfl ?_
        refine r_iconst (pc := 551) F dL_law_551 (inR_lit rfl) ?_
        refine r_iadd (pc := 552) F dL_law_552 ?_
        refine r_sld (pc := 553) F SX hb.1 dL_law_553 ?_
        have hb := hb.2
        refine r_aload_n (pc := 554) 0 F dL_law_554 rfl rfl ?_
        refine r_iload_n (pc := 555) 3 F dL_law_555 rfl rfl ?_
        refine r_iconst (pc := 556) F dL_law_556 (inR_lit rfl) ?_
        refine r_iadd (pc := 557) F dL_law_557 ?_
        refine r_sld (pc := 558) F SX hb.1 dL_law_558 ?_
        have hb := hb.2
        refine r_aload_n (pc := 559) 0 F dL_law_559 rfl rfl ?_
        refine r_iload_n (pc := 560) 3 F dL_law_560 rfl rfl ?_
        refine r_iconst (pc := 561) F dL_law_561 (inR_lit rfl) ?_
        refine r_iadd (pc := 562) F dL_law_562 ?_
        refine r_sld (pc := 563) F SX hb.1 dL_law_563 ?_
        have hb := hb.2
        obtain ⟨P_116, hw, hb⟩ := hb
        refine r_callI (pc := 564) (avs := [Iv (xs (wrap (x3 + 1)).toNat), Iv (xs (wrap (x3 + 2)).toNat), Iv (xs (wrap (x3 + 3)).toNat)]) (st := [Iv r_111]) F (c_X11_needs μ_112 (xs (wrap (x3 + 1)).toNat) (xs (wrap (x3 + 2)).toNat) (xs (wrap (x3 + 3)).toNat) P_116 hw) (by decide) cal_X11_needs calv_X11_needs lk_RL_73 rfl rfl (Nat.le_of_ble_eq_true rfl) dL_law_564 (fun r_116 μ_117 hz => ?_)
        have hb := hb r_116 μ_117 hz
        refine r_icmp_eq (pc := 567) (tgt := 888) F dL_law_567 (by decide) (fun c_118 => ?_) (fun c_118 => ?_)
        · have hb := hb.1 c_118
          exact V.sub [0, 1, 2, 3] rfl (K888 μ_117 x3 hb)
        · have hb := hb.2 c_118
          refine r_iconst (pc := 570) F dL_law_570 (inR_lit rfl) ?_
          exact r_lawret (pc := 571) F SX hQ dL_law_571 hb
      · have hb := hb.2.2.2.2.2.2.2.2.2.2.2.2.2.2.2.1 c_13
        refine r_tableIn (pc := 32) (tgt := 572) (off := 540) F dL_law_32 (by omega) (by omega) (by rw [c_13]; rfl) (by decide) ?_
        refine r_aload_n (pc := 572) 1 F dL_law_572 rfl rfl ?_
        refine r_aload_n (pc := 573) 0 F dL_law_573 rfl rfl ?_
        refine r_iload_n (pc := 574) 3 F dL_law_574 rfl rfl ?_
        refine r_iconst (pc := 575) F dL_law_575 (inR_lit rfl) ?_
        refine r_iadd (pc := 576) F dL_law_576 ?_
        refine r_sld (pc := 577) F SX hb.1 dL_law_577 ?_
        have hb := hb.2
        refine r_aload_n (pc := 578) 0 F dL_law_578 rfl rfl ?_
        refine r_iload_n (pc := 579) 3 F dL_law_579 rfl rfl ?_
        refine r_iconst (pc := 580) F dL_law_580 (inR_lit rfl) ?_
        refine r_iadd (pc := 581) F dL_law_581 ?_
        refine r_sld (pc := 582) F SX hb.1 dL_law_582 ?_
        have hb := hb.2
        obtain ⟨P_121, hw, hb⟩ := hb
        refine r_callI (pc := 583) (avs := [Iv (xs (wrap (x3 + 1)).toNat), Iv (xs (wrap (x3 + 2)).toNat)]) (st := []) F (c_X10_way μ (xs (wrap (x3 + 1)).toNat) (xs (wrap (x3 + 2)).toNat) P_121 hw) (by decide) cal_X10_way calv_X10_way lk_RL_74 rfl rfl (Nat.le_of_ble_eq_true rfl) dL_law_583 (fun r_121 μ_122 hz => ?_)
        have hb := hb r_121 μ_122 hz
        refine r_aload_n (pc := 586) 2 F dL_law_586 rfl rfl ?_
        refine r_aload_n (pc := 587) 0 F dL_law_587 rfl rfl ?_
        refine r_iload_n (pc := 588) 3 F dL_law_588 rfl rfl ?_
        refine r_iconst (pc := 589) F dL_law_589 (inR_lit rfl) ?_
        refine r_iadd (pc := 590) F dL_law_590 ?_
        refine r_sld (pc := 591) F SX hb.1 dL_law_591 ?_
        have hb := hb.2
        refine r_aload_n (pc := 592) 0 F dL_law_592 rfl rfl ?_
        refine r_iload_n (pc := 593) 3 F dL_law_593 rfl rfl ?_
        refine r_iconst (pc := 594) F dL_law_594 (inR_lit rfl) ?_
        refine r_iadd (pc := 595) F dL_law_595 ?_
        refine r_sld (pc := 596) F SX hb.1 dL_law_596 ?_
        have hb := hb.2
        obtain ⟨P_125, hw, hb⟩ := hb
        refine r_callI (pc := 597) (avs := [Iv (xs (wrap (x3 + 1)).toNat), Iv (xs (wrap (x3 + 2)).toNat)]) (st := [Iv r_121]) F (c_X11_way μ_122 (xs (wrap (x3 + 1)).toNat) (xs (wrap (x3 + 2)).toNat) P_125 hw) (by decide) cal_X11_way calv_X11_way lk_RL_77 rfl rfl (Nat.le_of_ble_eq_true rfl) dL_law_597 (fun r_125 μ_126 hz => ?_)
        have hb := hb r_125 μ_126 hz
        refine r_icmp_eq (pc := 600) (tgt := 888) F dL_law_600 (by decide) (fun c_127 => ?_) (fun c_127 => ?_)
        · have hb := hb.1 c_127
          exact V.sub [0, 1, 2, 3] rfl (K888 μ_126 x3 hb)
        · have hb := hb.2 c_127
          refine r_iconst (pc := 603) F dL_law_603 (inR_lit rfl) ?_
          exact r_lawret (pc := 604) F SX hQ dL_law_604 hb
      · have hb := hb.2.2.2.2.2.2.2.2.2.2.2.2.2.2.2.2.1 c_13
        refine r_tableIn (pc := 32) (tgt := 605) (off := 573) F dL_law_32 (by omega) (by omega) (by rw [c_13]; rfl) (by decide) ?_
        refine r_aload_n (pc := 605) 1 F dL_law_605 rfl rfl ?_
        refine r_aload_n (pc := 606) 0 F dL_law_606 rfl rfl ?_
        refine r_iload_n (pc := 607) 3 F dL_law_607 rfl rfl ?_
        refine r_iconst (pc := 608) F dL_law_608 (inR_lit rfl) ?_
        refine r_iadd (pc := 609) F dL_law_609 ?_
        refine r_sld (pc := 610) F SX hb.1 dL_law_610 ?_
        have hb := hb.2
        obtain ⟨P_129, hw, hb⟩ := hb
        refine r_callI (pc := 611) (avs := [Iv (xs (wrap (x3 + 1)).toNat)]) (st := []) F (c_X10_byRule μ (xs (wrap (x3 + 1)).toNat) P_129 hw) (by decide) cal_X10_byRule calv_X10_byRule lk_RL_78 rfl rfl (Nat.le_of_ble_eq_true rfl) dL_law_611 (fun r_129 μ_130 hz => ?_)
        have hb := hb r_129 μ_130 hz
        refine r_aload_n (pc := 614) 2 F dL_law_614 rfl rfl ?_
        refine r_aload_n (pc := 615) 0 F dL_law_615 rfl rfl ?_
        refine r_iload_n (pc := 616) 3 F dL_law_616 rfl rfl ?_
        refine r_iconst (pc := 617) F dL_law_617 (inR_lit rfl) ?_
        refine r_iadd (pc := 618) F dL_law_618 ?_
        refine r_sld (pc := 619) F SX hb.1 dL_law_619 ?_
        have hb := hb.2
        obtain ⟨P_132, hw, hb⟩ := hb
        refine r_callI (pc := 620) (avs := [Iv (xs (wrap (x3 + 1)).toNat)]) (st := [Iv r_129]) F (c_X11_byRule μ_130 (xs (wrap (x3 + 1)).toNat) P_132 hw) (by decide) cal_X11_byRule calv_X11_byRule lk_RL_81 rfl rfl (Nat.le_of_ble_eq_true rfl) dL_law_620 (fun r_132 μ_133 hz => ?_)
        have hb := hb r_132 μ_133 hz
        refine r_icmp_eq (pc := 623) (tgt := 888) F dL_law_623 (by decide) (fun c_134 => ?_) (fun c_134 => ?_)
        · have hb := hb.1 c_134
          exact V.sub [0, 1, 2, 3] rfl (K888 μ_133 x3 hb)
        · have hb := hb.2 c_134
          refine r_iconst (pc := 626) F dL_law_626 (inR_lit rfl) ?_
          exact r_lawret (pc := 627) F SX hQ dL_law_627 hb
      · have hb := hb.2.2.2.2.2.2.2.2.2.2.2.2.2.2.2.2.2.1 c_13
        refine r_tableIn (pc := 32) (tgt := 628) (off := 596) F dL_law_32 (by omega) (by omega) (by rw [c_13]; rfl) (by decide) ?_
        refine r_aload_n (pc := 628) 1 F dL_law_628 rfl rfl ?_
        refine r_aload_n (pc := 629) 0 F dL_law_629 rfl rfl ?_
        refine r_iload_n (pc := 630) 3 F dL_law_630 rfl rfl ?_
        refine r_iconst (pc := 631) F dL_law_631 (inR_lit rfl) ?_
        refine r_iadd (pc := 632) F dL_law_632 ?_
        refine r_sld (pc := 633) F SX hb.1 dL_law_633 ?_
        have hb := hb.2
        obtain ⟨P_136, hw, hb⟩ := hb
        refine r_callI (pc := 634) (avs := [Iv (xs (wrap (x3 + 1)).toNat)]) (st := []) F (c_X10_bestRow μ (xs (wrap (x3 + 1)).toNat) P_136 hw) (by decide) cal_X10_bestRow calv_X10_bestRow lk_RL_82 rfl rfl (Nat.le_of_ble_eq_true rfl) dL_law_634 (fun r_136 μ_137 hz => ?_)
        have hb := hb r_136 μ_137 hz
        refine r_aload_n (pc := 637) 2 F dL_law_637 rfl rfl ?_
        refine r_aload_n (pc := 638) 0 F dL_law_638 rfl rfl ?_
        refine r_iload_n (pc := 639) 3 F dL_law_639 rfl rfl ?_
        refine r_iconst (pc := 640) F dL_law_640 (inR_lit rfl) ?_
        refine r_iadd (pc := 641) F dL_law_641 ?_
        refine r_sld (pc := 642) F SX hb.1 dL_law_642 ?_
        have hb := hb.2
        obtain ⟨P_139, hw, hb⟩ := hb
        refine r_callI (pc := 643) (avs := [Iv (xs (wrap (x3 + 1)).toNat)]) (st := [Iv r_136]) F (c_X11_bestRow μ_137 (xs (wrap (x3 + 1)).toNat) P_139 hw) (by decide) cal_X11_bestRow calv_X11_bestRow lk_RL_85 rfl rfl (Nat.le_of_ble_eq_true rfl) dL_law_643 (fun r_139 μ_140 hz => ?_)
        have hb := hb r_139 μ_140 hz
        refine r_icmp_eq (pc := 646) (tgt := 888) F dL_law_646 (by decide) (fun c_141 => ?_) (fun c_141 => ?_)
        · have hb := hb.1 c_141
          exact V.sub [0, 1, 2, 3] rfl (K888 μ_140 x3 hb)
        · have hb := hb.2 c_141
          refine r_iconst (pc := 649) F dL_law_649 (inR_lit rfl) ?_
          exact r_lawret (pc := 650) F SX hQ dL_law_650 hb
      · have hb := hb.2.2.2.2.2.2.2.2.2.2.2.2.2.2.2.2.2.2.1 c_13
        refine r_tableIn (pc := 32) (tgt := 651) (off := 619) F dL_law_32 (by omega) (by omega) (by rw [c_13]; rfl) (by decide) ?_
        refine r_aload_n (pc := 651) 1 F dL_law_651 rfl rfl ?_
        obtain ⟨P_142, hw, hb⟩ := hb
        refine r_callI (pc := 652) (avs := []) (st := []) F (c_X10_bound μ P_142 hw) (by decide) cal_X10_bound calv_X10_bound lk_RL_86 rfl rfl (Nat.le_of_ble_eq_true rfl) dL_law_652 (fun r_142 μ_143 hz => ?_)
        have hb := hb r_142 μ_143 hz
        refine r_aload_n (pc := 655) 2 F dL_law_655 rfl rfl ?_
        obtain ⟨P_144, hw, hb⟩ := hb
        refine r_callI (pc := 656) (avs := []) (st := [Iv r_142]) F (c_X11_bound μ_143 P_144 hw) (by decide) cal_X11_bound calv_X11_bound lk_RL_89 rfl rfl (Nat.le_of_ble_eq_true rfl) dL_law_656 (fun r_144 μ_145 hz => ?_)
        have hb := hb r_144 μ_145 hz
        refine r_icmp_eq (pc := 659) (tgt := 888) F dL_law_659 (by decide) (fun c_146 => ?_) (fun c_146 => ?_)
        · have hb := hb.1 c_146
          exact V.sub [0, 1, 2, 3] rfl (K888 μ_145 x3 hb)
        · have hb := hb.2 c_146
          refine r_iconst (pc := 662) F dL_law_662 (inR_lit rfl) ?_
          exact r_lawret (pc := 663) F SX hQ dL_law_663 hb
      · have hb := hb.2.2.2.2.2.2.2.2.2.2.2.2.2.2.2.2.2.2.2.1 c_13
        refine r_tableIn (pc := 32) (tgt := 664) (off := 632) F dL_law_32 (by omega) (by omega) (by rw [c_13]; rfl) (by decide) ?_
        refine r_aload_n (pc := 664) 1 F dL_law_664 rfl rfl ?_
        obtain ⟨P_147, hw, hb⟩ := hb
        refine r_callI (pc := 665) (avs := []) (st := []) F (c_X10_any μ P_147 hw) (by decide) cal_X10_any calv_X10_any lk_RL_90 rfl rfl (Nat.le_of_ble_eq_true rfl) dL_law_665 (fun r_147 μ_148 hz => ?_)
        have hb := hb r_147 μ_148 hz
        refine r_aload_n (pc := 668) 2 F dL_law_668 rfl rfl ?_
        obtain ⟨P_149, hw, hb⟩ := hb
        refine r_callI (pc := 669) (avs := []) (st := [Iv r_147]) F (c_X11_any μ_148 P_149 hw) (by decide) cal_X11_any calv_X11_any lk_RL_93 rfl rfl (Nat.le_of_ble_eq_true rfl) dL_law_669 (fun r_149 μ_150 hz => ?_)
        have hb := hb r_149 μ_150 hz
        refine r_icmp_eq (pc := 672) (tgt := 888) F dL_law_672 (by decide) (fun c_151 => ?_) (fun c_151 => ?_)
        · have hb := hb.1 c_151
          exact V.sub [0, 1, 2, 3] rfl (K888 μ_150 x3 hb)
        · have hb := hb.2 c_151
          refine r_iconst (pc := 675) F dL_law_675 (inR_lit rfl) ?_
          exact r_lawret (pc := 676) F SX hQ dL_law_676 hb
      · have hb := hb.2.2.2.2.2.2.2.2.2.2.2.2.2.2.2.2.2.2.2.2.1 c_13
        refine r_tableIn (pc := 32) (tgt := 677) (off := 645) F dL_law_32 (by omega) (by omega) (by rw [c_13]; rfl) (by decide) ?_
        refine r_aload_n (pc := 677) 1 F dL_law_677 rfl rfl ?_
        refine r_aload_n (pc := 678) 0 F dL_law_678 rfl rfl ?_
        refine r_iload_n (pc := 679) 3 F dL_law_679 rfl rfl ?_
        refine r_iconst (pc := 680) F dL_law_680 (inR_lit rfl) ?_
        refine r_iadd (pc := 681) F dL_law_681 ?_
        refine r_sld (pc := 682) F SX hb.1 dL_law_682 ?_
        have hb := hb.2
        refine r_aload_n (pc := 683) 0 F dL_law_683 rfl rfl ?_
        refine r_iload_n (pc := 684) 3 F dL_law_684 rfl rfl ?_
        refine r_iconst (pc := 685) F dL_law_685 (inR_lit rfl) ?_
        refine r_iadd (pc := 686) F dL_law_686 ?_
        refine r_sld (pc := 687) F SX hb.1 dL_law_687 ?_
        have hb := hb.2
        refine r_aload_n (pc := 688) 0 F dL_law_688 rfl rfl ?_
        refine r_iload_n (pc := 689) 3 F dL_law_689 rfl rfl ?_
        refine r_iconst (pc := 690) F dL_law_690 (inR_lit rfl) ?_
        refine r_iadd (pc := 691) F dL_law_691 ?_
        refine r_sld (pc := 692) F SX hb.1 dL_law_692 ?_
        have hb := hb.2
        obtain ⟨P_155, hw, hb⟩ := hb
        refine r_callI (pc := 693) (avs := [Iv (xs (wrap (x3 + 1)).toNat), Iv (xs (wrap (x3 + 2)).toNat), Iv (xs (wrap (x3 + 3)).toNat)]) (st := []) F (c_X10_step μ (xs (wrap (x3 + 1)).toNat) (xs (wrap (x3 + 2)).toNat) (xs (wrap (x3 + 3)).toNat) P_155 hw) (by decide) cal_X10_step calv_X10_step lk_RL_94 rfl rfl (Nat.le_of_ble_eq_true rfl) dL_law_693 (fun r_155 μ_156 hz => ?_)
        have hb := hb r_155 μ_156 hz
        refine r_aload_n (pc := 696) 2 F dL_law_696 rfl rfl ?_
        refine r_aload_n (pc := 697) 0 F dL_law_697 rfl rfl ?_
        refine r_iload_n (pc := 698) 3 F dL_law_698 rfl rfl ?_
        refine r_iconst (pc := 699) F dL_law_699 (inR_lit rfl) ?_
        refine r_iadd (pc := 700) F dL_law_700 ?_
        refine r_sld (pc := 701) F SX hb.1 dL_law_701 ?_
        have hb := hb.2
        refine r_aload_n (pc := 702) 0 F dL_law_702 rfl rfl ?_
        refine r_iload_n (pc := 703) 3 F dL_law_703 rfl rfl ?_
        refine r_iconst (pc := 704) F dL_law_704 (inR_lit rfl) ?_
        refine r_iadd (pc := 705) F dL_law_705 ?_
        refine r_sld (pc := 706) F SX hb.1 dL_law_706 ?_
        have hb := hb.2
        refine r_aload_n (pc := 707) 0 F dL_law_707 rfl rfl ?_
        refine r_iload_n (pc := 708) 3 F dL_law_708 rfl rfl ?_
        refine r_iconst (pc := 709) F dL_law_709 (inR_lit rfl) ?_
        refine r_iadd (pc := 710) F dL_law_710 ?_
        refine r_sld (pc := 711) F SX hb.1 dL_law_711 ?_
        have hb := hb.2
        obtain ⟨P_160, hw, hb⟩ := hb
        refine r_callI (pc := 712) (avs := [Iv (xs (wrap (x3 + 1)).toNat), Iv (xs (wrap (x3 + 2)).toNat), Iv (xs (wrap (x3 + 3)).toNat)]) (st := [Iv r_155]) F (c_X11_step μ_156 (xs (wrap (x3 + 1)).toNat) (xs (wrap (x3 + 2)).toNat) (xs (wrap (x3 + 3)).toNat) P_160 hw) (by decide) cal_X11_step calv_X11_step lk_RL_97 rfl rfl (Nat.le_of_ble_eq_true rfl) dL_law_712 (fun r_160 μ_161 hz => ?_)
        have hb := hb r_160 μ_161 hz
        refine r_icmp_eq (pc := 715) (tgt := 888) F dL_law_715 (by decide) (fun c_162 => ?_) (fun c_162 => ?_)
        · have hb := hb.1 c_162
          exact V.sub [0, 1, 2, 3] rfl (K888 μ_161 x3 hb)
        · have hb := hb.2 c_162
          refine r_iconst (pc := 718) F dL_law_718 (inR_lit rfl) ?_
          exact r_lawret (pc := 719) F SX hQ dL_law_719 hb
      · have hb := hb.2.2.2.2.2.2.2.2.2.2.2.2.2.2.2.2.2.2.2.2.2.1 c_13
        refine r_tableIn (pc := 32) (tgt := 720) (off := 688) F dL_law_32 (by omega) (by omega) (by rw [c_13]; rfl) (by decide) ?_
        refine r_aload_n (pc := 720) 1 F dL_law_720 rfl rfl ?_
        obtain ⟨P_163, hw, hb⟩ := hb
        refine r_callI (pc := 721) (avs := []) (st := []) F (c_X10_clear μ P_163 hw) (by decide) cal_X10_clear calv_X10_clear lk_RL_98 rfl rfl (Nat.le_of_ble_eq_true rfl) dL_law_721 (fun r_163 μ_164 hz => ?_)
        have hb := hb r_163 μ_164 hz
        refine r_aload_n (pc := 724) 2 F dL_law_724 rfl rfl ?_
        obtain ⟨P_165, hw, hb⟩ := hb
        refine r_callI (pc := 725) (avs := []) (st := [Iv r_163]) F (c_X11_clear μ_164 P_165 hw) (by decide) cal_X11_clear calv_X11_clear lk_RL_101 rfl rfl (Nat.le_of_ble_eq_true rfl) dL_law_725 (fun r_165 μ_166 hz => ?_)
        have hb := hb r_165 μ_166 hz
        refine r_icmp_eq (pc := 728) (tgt := 888) F dL_law_728 (by decide) (fun c_167 => ?_) (fun c_167 => ?_)
        · have hb := hb.1 c_167
          exact V.sub [0, 1, 2, 3] rfl (K888 μ_166 x3 hb)
        · have hb := hb.2 c_167
          refine r_iconst (pc := 731) F dL_law_731 (inR_lit rfl) ?_
          exact r_lawret (pc := 732) F SX hQ dL_law_732 hb
      · have hb := hb.2.2.2.2.2.2.2.2.2.2.2.2.2.2.2.2.2.2.2.2.2.2.1 c_13
        refine r_tableIn (pc := 32) (tgt := 733) (off := 701) F dL_law_32 (by omega) (by omega) (by rw [c_13]; rfl) (by decide) ?_
        refine r_aload_n (pc := 733) 1 F dL_law_733 rfl rfl ?_
        obtain ⟨P_168, hw, hb⟩ := hb
        refine r_callI (pc := 734) (avs := []) (st := []) F (c_X10_walk μ P_168 hw) (by decide) cal_X10_walk calv_X10_walk lk_RL_102 rfl rfl (Nat.le_of_ble_eq_true rfl) dL_law_734 (fun r_168 μ_169 hz => ?_)
        have hb := hb r_168 μ_169 hz
        refine r_aload_n (pc := 737) 2 F dL_law_737 rfl rfl ?_
        obtain ⟨P_170, hw, hb⟩ := hb
        refine r_callI (pc := 738) (avs := []) (st := [Iv r_168]) F (c_X11_walk μ_169 P_170 hw) (by decide) cal_X11_walk calv_X11_walk lk_RL_105 rfl rfl (Nat.le_of_ble_eq_true rfl) dL_law_738 (fun r_170 μ_171 hz => ?_)
        have hb := hb r_170 μ_171 hz
        refine r_icmp_eq (pc := 741) (tgt := 888) F dL_law_741 (by decide) (fun c_172 => ?_) (fun c_172 => ?_)
        · have hb := hb.1 c_172
          exact V.sub [0, 1, 2, 3] rfl (K888 μ_171 x3 hb)
        · have hb := hb.2 c_172
          refine r_iconst (pc := 744) F dL_law_744 (inR_lit rfl) ?_
          exact r_lawret (pc := 745) F SX hQ dL_law_745 hb
      · have hb := hb.2.2.2.2.2.2.2.2.2.2.2.2.2.2.2.2.2.2.2.2.2.2.2.1 c_13
        refine r_tableIn (pc := 32) (tgt := 746) (off := 714) F dL_law_32 (by omega) (by omega) (by rw [c_13]; rfl) (by decide) ?_
        refine r_aload_n (pc := 746) 1 F dL_law_746 rfl rfl ?_
        refine r_aload_n (pc := 747) 0 F dL_law_747 rfl rfl ?_
        refine r_iload_n (pc := 748) 3 F dL_law_748 rfl rfl ?_
        refine r_iconst (pc := 749) F dL_law_749 (inR_lit rfl) ?_
        refine r_iadd (pc := 750) F dL_law_750 ?_
        refine r_sld (pc := 751) F SX hb.1 dL_law_751 ?_
        have hb := hb.2
        obtain ⟨P_174, hw, hb⟩ := hb
        refine r_callI (pc := 752) (avs := [Iv (xs (wrap (x3 + 1)).toNat)]) (st := []) F (c_X10_leaf μ (xs (wrap (x3 + 1)).toNat) P_174 hw) (by decide) cal_X10_leaf calv_X10_leaf lk_RL_106 rfl rfl (Nat.le_of_ble_eq_true rfl) dL_law_752 (fun r_174 μ_175 hz => ?_)
        have hb := hb r_174 μ_175 hz
        refine r_aload_n (pc := 755) 2 F dL_law_755 rfl rfl ?_
        refine r_aload_n (pc := 756) 0 F dL_law_756 rfl rfl ?_
        refine r_iload_n (pc := 757) 3 F dL_law_757 rfl rfl ?_
        refine r_iconst (pc := 758) F dL_law_758 (inR_lit rfl) ?_
        refine r_iadd (pc := 759) F dL_law_759 ?_
        refine r_sld (pc := 760) F SX hb.1 dL_law_760 ?_
        have hb := hb.2
        obtain ⟨P_177, hw, hb⟩ := hb
        refine r_callI (pc := 761) (avs := [Iv (xs (wrap (x3 + 1)).toNat)]) (st := [Iv r_174]) F (c_X11_leaf μ_175 (xs (wrap (x3 + 1)).toNat) P_177 hw) (by decide) cal_X11_leaf calv_X11_leaf lk_RL_109 rfl rfl (Nat.le_of_ble_eq_true rfl) dL_law_761 (fun r_177 μ_178 hz => ?_)
        have hb := hb r_177 μ_178 hz
        refine r_icmp_eq (pc := 764) (tgt := 888) F dL_law_764 (by decide) (fun c_179 => ?_) (fun c_179 => ?_)
        · have hb := hb.1 c_179
          exact V.sub [0, 1, 2, 3] rfl (K888 μ_178 x3 hb)
        · have hb := hb.2 c_179
          refine r_iconst (pc := 767) F dL_law_767 (inR_lit rfl) ?_
          exact r_lawret (pc := 768) F SX hQ dL_law_768 hb
      · have hb := hb.2.2.2.2.2.2.2.2.2.2.2.2.2.2.2.2.2.2.2.2.2.2.2.2.1 c_13
        refine r_tableIn (pc := 32) (tgt := 769) (off := 737) F dL_law_32 (by omega) (by omega) (by rw [c_13]; rfl) (by decide) ?_
        refine r_aload_n (pc := 769) 1 F dL_law_769 rfl rfl ?_
        obtain ⟨P_180, hw, hb⟩ := hb
        refine r_callI (pc := 770) (avs := []) (st := []) F (c_X10_fell μ P_180 hw) (by decide) cal_X10_fell calv_X10_fell lk_RL_110 rfl rfl (Nat.le_of_ble_eq_true rfl) dL_law_770 (fun r_180 μ_181 hz => ?_)
        have hb := hb r_180 μ_181 hz
        refine r_aload_n (pc := 773) 2 F dL_law_773 rfl rfl ?_
        obtain ⟨P_182, hw, hb⟩ := hb
        refine r_callI (pc := 774) (avs := []) (st := [Iv r_180]) F (c_X11_fell μ_181 P_182 hw) (by decide) cal_X11_fell calv_X11_fell lk_RL_113 rfl rfl (Nat.le_of_ble_eq_true rfl) dL_law_774 (fun r_182 μ_183 hz => ?_)
        have hb := hb r_182 μ_183 hz
        refine r_icmp_eq (pc := 777) (tgt := 888) F dL_law_777 (by decide) (fun c_184 => ?_) (fun c_184 => ?_)
        · have hb := hb.1 c_184
          exact V.sub [0, 1, 2, 3] rfl (K888 μ_183 x3 hb)
        · have hb := hb.2 c_184
          refine r_iconst (pc := 780) F dL_law_780 (inR_lit rfl) ?_
          exact r_lawret (pc := 781) F SX hQ dL_law_781 hb
      · have hb := hb.2.2.2.2.2.2.2.2.2.2.2.2.2.2.2.2.2.2.2.2.2.2.2.2.2.1 c_13
        refine r_tableIn (pc := 32) (tgt := 782) (off := 750) F dL_law_32 (by omega) (by omega) (by rw [c_13]; rfl) (by decide) ?_
        refine r_aload_n (pc := 782) 1 F dL_law_782 rfl rfl ?_
        refine r_aload_n (pc := 783) 0 F dL_law_783 rfl rfl ?_
        refine r_iload_n (pc := 784) 3 F dL_law_784 rfl rfl ?_
        refine r_iconst (pc := 785) F dL_law_785 (inR_lit rfl) ?_
        refine r_iadd (pc := 786) F dL_law_786 ?_
        refine r_sld (pc := 787) F SX hb.1 dL_law_787 ?_
        have hb := hb.2
        obtain ⟨P_186, hw, hb⟩ := hb
        refine r_callI (pc := 788) (avs := [Iv (xs (wrap (x3 + 1)).toNat)]) (st := []) F (c_X10_likes μ (xs (wrap (x3 + 1)).toNat) P_186 hw) (by decide) cal_X10_likes calv_X10_likes lk_RL_114 rfl rfl (Nat.le_of_ble_eq_true rfl) dL_law_788 (fun r_186 μ_187 hz => ?_)
        have hb := hb r_186 μ_187 hz
        refine r_aload_n (pc := 791) 2 F dL_law_791 rfl rfl ?_
        refine r_aload_n (pc := 792) 0 F dL_law_792 rfl rfl ?_
        refine r_iload_n (pc := 793) 3 F dL_law_793 rfl rfl ?_
        refine r_iconst (pc := 794) F dL_law_794 (inR_lit rfl) ?_
        refine r_iadd (pc := 795) F dL_law_795 ?_
        refine r_sld (pc := 796) F SX hb.1 dL_law_796 ?_
        have hb := hb.2
        obtain ⟨P_189, hw, hb⟩ := hb
        refine r_callI (pc := 797) (avs := [Iv (xs (wrap (x3 + 1)).toNat)]) (st := [Iv r_186]) F (c_X11_likes μ_187 (xs (wrap (x3 + 1)).toNat) P_189 hw) (by decide) cal_X11_likes calv_X11_likes lk_RL_117 rfl rfl (Nat.le_of_ble_eq_true rfl) dL_law_797 (fun r_189 μ_190 hz => ?_)
        have hb := hb r_189 μ_190 hz
        refine r_icmp_eq (pc := 800) (tgt := 888) F dL_law_800 (by decide) (fun c_191 => ?_) (fun c_191 => ?_)
        · have hb := hb.1 c_191
          exact V.sub [0, 1, 2, 3] rfl (K888 μ_190 x3 hb)
        · have hb := hb.2 c_191
          refine r_iconst (pc := 803) F dL_law_803 (inR_lit rfl) ?_
          exact r_lawret (pc := 804) F SX hQ dL_law_804 hb
      · have hb := hb.2.2.2.2.2.2.2.2.2.2.2.2.2.2.2.2.2.2.2.2.2.2.2.2.2.2.1 c_13
        refine r_tableIn (pc := 32) (tgt := 805) (off := 773) F dL_law_32 (by omega) (by omega) (by rw [c_13]; rfl) (by decide) ?_
        refine r_aload_n (pc := 805) 1 F dL_law_805 rfl rfl ?_
        refine r_aload_n (pc := 806) 0 F dL_law_806 rfl rfl ?_
        refine r_iload_n (pc := 807) 3 F dL_law_807 rfl rfl ?_
        refine r_iconst (pc := 808) F dL_law_808 (inR_lit rfl) ?_
        refine r_iadd (pc := 809) F dL_law_809 ?_
        refine r_sld (pc := 810) F SX hb.1 dL_law_810 ?_
        have hb := hb.2
        obtain ⟨P_193, hw, hb⟩ := hb
        refine r_callI (pc := 811) (avs := [Iv (xs (wrap (x3 + 1)).toNat)]) (st := []) F (c_X10_levels μ (xs (wrap (x3 + 1)).toNat) P_193 hw) (by decide) cal_X10_levels calv_X10_levels lk_RL_118 rfl rfl (Nat.le_of_ble_eq_true rfl) dL_law_811 (fun r_193 μ_194 hz => ?_)
        have hb := hb r_193 μ_194 hz
        refine r_aload_n (pc := 814) 2 F dL_law_814 rfl rfl ?_
        refine r_aload_n (pc := 815) 0 F dL_law_815 rfl rfl ?_
        refine r_iload_n (pc := 816) 3 F dL_law_816 rfl rfl ?_
        refine r_iconst (pc := 817) F dL_law_817 (inR_lit rfl) ?_
        refine r_iadd (pc := 818) F dL_law_818 ?_
        refine r_sld (pc := 819) F SX hb.1 dL_law_819 ?_
        have hb := hb.2
        obtain ⟨P_196, hw, hb⟩ := hb
        refine r_callI (pc := 820) (avs := [Iv (xs (wrap (x3 + 1)).toNat)]) (st := [Iv r_193]) F (c_X11_levels μ_194 (xs (wrap (x3 + 1)).toNat) P_196 hw) (by decide) cal_X11_levels calv_X11_levels lk_RL_121 rfl rfl (Nat.le_of_ble_eq_true rfl) dL_law_820 (fun r_196 μ_197 hz => ?_)
        have hb := hb r_196 μ_197 hz
        refine r_icmp_eq (pc := 823) (tgt := 888) F dL_law_823 (by decide) (fun c_198 => ?_) (fun c_198 => ?_)
        · have hb := hb.1 c_198
          exact V.sub [0, 1, 2, 3] rfl (K888 μ_197 x3 hb)
        · have hb := hb.2 c_198
          refine r_iconst (pc := 826) F dL_law_826 (inR_lit rfl) ?_
          exact r_lawret (pc := 827) F SX hQ dL_law_827 hb
      · have hb := hb.2.2.2.2.2.2.2.2.2.2.2.2.2.2.2.2.2.2.2.2.2.2.2.2.2.2.2.1 c_13
        refine r_tableIn (pc := 32) (tgt := 828) (off := 796) F dL_law_32 (by omega) (by omega) (by rw [c_13]; rfl) (by decide) ?_
        refine r_aload_n (pc := 828) 1 F dL_law_828 rfl rfl ?_
        refine r_aload_n (pc := 829) 0 F dL_law_829 rfl rfl ?_
        refine r_iload_n (pc := 830) 3 F dL_law_830 rfl rfl ?_
        refine r_iconst (pc := 831) F dL_law_831 (inR_lit rfl) ?_
        refine r_iadd (pc := 832) F dL_law_832 ?_
        refine r_sld (pc := 833) F SX hb.1 dL_law_833 ?_
        have hb := hb.2
        obtain ⟨P_200, hw, hb⟩ := hb
        refine r_callI (pc := 834) (avs := [Iv (xs (wrap (x3 + 1)).toNat)]) (st := []) F (c_X10_least μ (xs (wrap (x3 + 1)).toNat) P_200 hw) (by decide) cal_X10_least calv_X10_least lk_RL_122 rfl rfl (Nat.le_of_ble_eq_true rfl) dL_law_834 (fun r_200 μ_201 hz => ?_)
        have hb := hb r_200 μ_201 hz
        refine r_aload_n (pc := 837) 2 F dL_law_837 rfl rfl ?_
        refine r_aload_n (pc := 838) 0 F dL_law_838 rfl rfl ?_
        refine r_iload_n (pc := 839) 3 F dL_law_839 rfl rfl ?_
        refine r_iconst (pc := 840) F dL_law_840 (inR_lit rfl) ?_
        refine r_iadd (pc := 841) F dL_law_841 ?_
        refine r_sld (pc := 842) F SX hb.1 dL_law_842 ?_
        have hb := hb.2
        obtain ⟨P_203, hw, hb⟩ := hb
        refine r_callI (pc := 843) (avs := [Iv (xs (wrap (x3 + 1)).toNat)]) (st := [Iv r_200]) F (c_X11_least μ_201 (xs (wrap (x3 + 1)).toNat) P_203 hw) (by decide) cal_X11_least calv_X11_least lk_RL_125 rfl rfl (Nat.le_of_ble_eq_true rfl) dL_law_843 (fun r_203 μ_204 hz => ?_)
        have hb := hb r_203 μ_204 hz
        refine r_icmp_eq (pc := 846) (tgt := 888) F dL_law_846 (by decide) (fun c_205 => ?_) (fun c_205 => ?_)
        · have hb := hb.1 c_205
          exact V.sub [0, 1, 2, 3] rfl (K888 μ_204 x3 hb)
        · have hb := hb.2 c_205
          refine r_iconst (pc := 849) F dL_law_849 (inR_lit rfl) ?_
          exact r_lawret (pc := 850) F SX hQ dL_law_850 hb
      · have hb := hb.2.2.2.2.2.2.2.2.2.2.2.2.2.2.2.2.2.2.2.2.2.2.2.2.2.2.2.2.1 c_13
        refine r_tableIn (pc := 32) (tgt := 851) (off := 819) F dL_law_32 (by omega) (by omega) (by rw [c_13]; rfl) (by decide) ?_
        refine r_aload_n (pc := 851) 1 F dL_law_851 rfl rfl ?_
        refine r_aload_n (pc := 852) 0 F dL_law_852 rfl rfl ?_
        refine r_iload_n (pc := 853) 3 F dL_law_853 rfl rfl ?_
        refine r_iconst (pc := 854) F dL_law_854 (inR_lit rfl) ?_
        refine r_iadd (pc := 855) F dL_law_855 ?_
        refine r_sld (pc := 856) F SX hb.1 dL_law_856 ?_
        have hb := hb.2
        obtain ⟨P_207, hw, hb⟩ := hb
        refine r_callI (pc := 857) (avs := [Iv (xs (wrap (x3 + 1)).toNat)]) (st := []) F (c_X10_count μ (xs (wrap (x3 + 1)).toNat) P_207 hw) (by decide) cal_X10_count calv_X10_count lk_RL_126 rfl rfl (Nat.le_of_ble_eq_true rfl) dL_law_857 (fun r_207 μ_208 hz => ?_)
        have hb := hb r_207 μ_208 hz
        refine r_aload_n (pc := 860) 2 F dL_law_860 rfl rfl ?_
        refine r_aload_n (pc := 861) 0 F dL_law_861 rfl rfl ?_
        refine r_iload_n (pc := 862) 3 F dL_law_862 rfl rfl ?_
        refine r_iconst (pc := 863) F dL_law_863 (inR_lit rfl) ?_
        refine r_iadd (pc := 864) F dL_law_864 ?_
        refine r_sld (pc := 865) F SX hb.1 dL_law_865 ?_
        have hb := hb.2
        obtain ⟨P_210, hw, hb⟩ := hb
        refine r_callI (pc := 866) (avs := [Iv (xs (wrap (x3 + 1)).toNat)]) (st := [Iv r_207]) F (c_X11_count μ_208 (xs (wrap (x3 + 1)).toNat) P_210 hw) (by decide) cal_X11_count calv_X11_count lk_RL_129 rfl rfl (Nat.le_of_ble_eq_true rfl) dL_law_866 (fun r_210 μ_211 hz => ?_)
        have hb := hb r_210 μ_211 hz
        refine r_icmp_eq (pc := 869) (tgt := 888) F dL_law_869 (by decide) (fun c_212 => ?_) (fun c_212 => ?_)
        · have hb := hb.1 c_212
          exact V.sub [0, 1, 2, 3] rfl (K888 μ_211 x3 hb)
        · have hb := hb.2 c_212
          refine r_iconst (pc := 872) F dL_law_872 (inR_lit rfl) ?_
          exact r_lawret (pc := 873) F SX hQ dL_law_873 hb
      · have hb := hb.2.2.2.2.2.2.2.2.2.2.2.2.2.2.2.2.2.2.2.2.2.2.2.2.2.2.2.2.2 c_13
        refine r_tableIn (pc := 32) (tgt := 874) (off := 842) F dL_law_32 (by omega) (by omega) (by rw [c_13]; rfl) (by decide) ?_
        refine r_aload_n (pc := 874) 1 F dL_law_874 rfl rfl ?_
        obtain ⟨P_213, hw, hb⟩ := hb
        refine r_callL (pc := 875) (avs := []) (st := []) F (c_X10_digest μ P_213 hw) (by decide) cal_X10_digest calv_X10_digest lk_RL_130 rfl rfl (Nat.le_of_ble_eq_true rfl) dL_law_875 (fun r_213 μ_214 hz => ?_)
        have hb := hb r_213 μ_214 hz
        refine r_aload_n (pc := 878) 2 F dL_law_878 rfl rfl ?_
        obtain ⟨P_215, hw, hb⟩ := hb
        refine r_callL (pc := 879) (avs := []) (st := [Lv r_213]) F (c_X11_digest μ_214 P_215 hw) (by decide) cal_X11_digest calv_X11_digest lk_RL_134 rfl rfl (Nat.le_of_ble_eq_true rfl) dL_law_879 (fun r_215 μ_216 hz => ?_)
        have hb := hb r_215 μ_216 hz
        refine r_lcmp (pc := 882) F dL_law_882 ?_
        refine r_if_eq (pc := 883) (tgt := 888) F dL_law_883 (by decide) (fun c_217 => ?_) (fun c_217 => ?_)
        · have hb := hb.1 c_217
          exact V.sub [0, 1, 2, 3] rfl (K888 μ_216 x3 hb)
        · have hb := hb.2 c_217
          refine r_iconst (pc := 886) F dL_law_886 (inR_lit rfl) ?_
          exact r_lawret (pc := 887) F SX hQ dL_law_887 hb
  exact g18 μ 0 (hb G18 (fun μ x3 hb => f18 μ x3 (K18 μ x3 hb)))
