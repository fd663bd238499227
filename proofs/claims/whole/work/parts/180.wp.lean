/-! What each method asks and does, as plain definitions. By program. -/
def b_J6_bitCount_0f7a4_e (Post : Pst) (μ : Mem) (p0 : Int) : Prop :=
  ∀ x_1 : Int, x_1 = wrap (p0 - (iand (iushr p0 1) 1431655765)) → ∀ x_2 : Int, x_2 = wrap ((iand x_1 858993459) + (iand (iushr x_1 2) 858993459)) → ∀ x_3 : Int, x_3 = iand (wrap (x_2 + (iushr x_2 4))) 252645135 → ∀ x_4 : Int, x_4 = wrap (x_3 + (iushr x_3 8)) → ∀ x_5 : Int, x_5 = wrap (x_4 + (iushr x_4 16)) → Post (iand x_5 63) μ
def wp_J6_bitCount_0f7a4 (μ : Mem) (p0 : Int) (Post : Pst) : Prop := b_J6_bitCount_0f7a4_e Post μ p0
def b_J6_numberOfTrailingZeros_0f7a4_74 (Post : Pst) (μ : Mem) (x0 : Int) (x1 : Int) : Prop :=
  Post (wrap (x1 + (iushr x0 1))) μ
def b_J6_numberOfTrailingZeros_0f7a4_62 (Post : Pst) (μ : Mem) (x0 : Int) (x1 : Int) : Prop :=
  ((x0 ≤ 4) → b_J6_numberOfTrailingZeros_0f7a4_74 Post μ x0 x1) ∧ ((¬ (x0 ≤ 4)) → ∀ x_2 : Int, x_2 = wrap (x1 + 2) → ∀ x_3 : Int, x_3 = iushr x0 2 → b_J6_numberOfTrailingZeros_0f7a4_74 Post μ x_3 x_2)
def b_J6_numberOfTrailingZeros_0f7a4_49 (Post : Pst) (μ : Mem) (x0 : Int) (x1 : Int) : Prop :=
  ((x0 ≤ 16) → b_J6_numberOfTrailingZeros_0f7a4_62 Post μ x0 x1) ∧ ((¬ (x0 ≤ 16)) → ∀ x_5 : Int, x_5 = wrap (x1 + 4) → ∀ x_6 : Int, x_6 = iushr x0 4 → b_J6_numberOfTrailingZeros_0f7a4_62 Post μ x_6 x_5)
def b_J6_numberOfTrailingZeros_0f7a4_34 (Post : Pst) (μ : Mem) (x0 : Int) (x1 : Int) : Prop :=
  ((x0 ≤ 256) → b_J6_numberOfTrailingZeros_0f7a4_49 Post μ x0 x1) ∧ ((¬ (x0 ≤ 256)) → ∀ x_8 : Int, x_8 = wrap (x1 + 8) → ∀ x_9 : Int, x_9 = iushr x0 8 → b_J6_numberOfTrailingZeros_0f7a4_49 Post μ x_9 x_8)
def b_J6_numberOfTrailingZeros_0f7a4_e (Post : Pst) (μ : Mem) (p0 : Int) : Prop :=
  ∀ x_10 : Int, x_10 = iand (ixor p0 (-1)) (wrap (p0 - 1)) → ((0 < x_10) → ((x_10 ≤ 65536) → b_J6_numberOfTrailingZeros_0f7a4_34 Post μ x_10 1) ∧ ((¬ (x_10 ≤ 65536)) → ∀ x_13 : Int, x_13 = wrap (1 + 16) → ∀ x_14 : Int, x_14 = iushr x_10 16 → b_J6_numberOfTrailingZeros_0f7a4_34 Post μ x_14 x_13)) ∧ ((¬ (0 < x_10)) → Post (iand x_10 32) μ)
def wp_J6_numberOfTrailingZeros_0f7a4 (μ : Mem) (p0 : Int) (Post : Pst) : Prop := b_J6_numberOfTrailingZeros_0f7a4_e Post μ p0
def b_J7_fill_53178_5 (G5 : Mem → Nat → Int → Int → Int → Prop) (Post : Pst) (μ : Mem) (x0 : Nat) (x1 : Int) (x2 : Int) (x3 : Int) : Prop :=
  ((x3 ≤ x2) → Post 0 μ) ∧ ((¬ (x3 ≤ x2)) → (24 ≤ x0 ∧ x0 < 112 ∧ 0 ≤ x2 ∧ x2 < len x0) ∧ ∀ μ_3 : Mem, μ_3 = wr μ x0 x2.toNat x1 → ∀ x_4 : Int, x_4 = wrap (x2 + 1) → G5 μ_3 x0 x1 x_4 x3)
def b_J7_fill_53178_e (G5 : Mem → Nat → Int → Int → Int → Prop) (Post : Pst) (μ : Mem) (p0 : Nat) (p1 : Int) : Prop :=
  (24 ≤ p0 ∧ p0 < 112) ∧ ∀ x_6 : Int, x_6 = (len p0 : Int) → G5 μ p0 p1 0 x_6
def wp_J7_fill_53178 (μ : Mem) (p0 : Nat) (p1 : Int) (Post : Pst) : Prop := ∀ (G5 : Mem → Nat → Int → Int → Int → Prop), (∀ μ x0 x1 x2 x3, b_J7_fill_53178_5 G5 Post μ x0 x1 x2 x3 → G5 μ x0 x1 x2 x3) → b_J7_fill_53178_e G5 Post μ p0 p1
def b_J7_rangeCheck_23922_e (Post : Pst) (μ : Mem) (p0 : Int) (p1 : Int) (p2 : Int) : Prop :=
  ((p1 ≤ p2) → ((0 ≤ p1) → ((p2 ≤ p0) → Post 0 μ) ∧ ((¬ (p2 ≤ p0)) → False)) ∧ ((¬ (0 ≤ p1)) → False)) ∧ ((¬ (p1 ≤ p2)) → False)
def wp_J7_rangeCheck_23922 (μ : Mem) (p0 : Int) (p1 : Int) (p2 : Int) (Post : Pst) : Prop := b_J7_rangeCheck_23922_e Post μ p0 p1 p2
def b_J7_fill_eb02e_10 (G10 : Mem → Int → Int → Int → Prop) (Post : Pst) (μ : Mem) (x2 : Int) (x3 : Int) (x4 : Int) : Prop :=
  ((x2 ≤ x4) → Post 0 μ) ∧ ((¬ (x2 ≤ x4)) → (0 ≤ x4 ∧ x4 < 4096) ∧ (-128 ≤ x3 ∧ x3 ≤ 127) ∧ ∀ μ_2 : Mem, μ_2 = wr μ 23 x4.toNat x3 → ∀ x_3 : Int, x_3 = wrap (x4 + 1) → G10 μ_2 x2 x3 x_3)
def b_J7_fill_eb02e_e (G10 : Mem → Int → Int → Int → Prop) (Post : Pst) (μ : Mem) (p1 : Int) (p2 : Int) (p3 : Int) : Prop :=
  wp_J7_rangeCheck_23922 μ 4096 p1 p2 (fun _ μ_5 => G10 μ_5 p2 p3 p1)
def wp_J7_fill_eb02e (μ : Mem) (p1 : Int) (p2 : Int) (p3 : Int) (Post : Pst) : Prop := ∀ (G10 : Mem → Int → Int → Int → Prop), (∀ μ x2 x3 x4, b_J7_fill_eb02e_10 G10 Post μ x2 x3 x4 → G10 μ x2 x3 x4) → b_J7_fill_eb02e_e G10 Post μ p1 p2 p3
def b_X10_isIn_e (Post : Pst) (μ : Mem) (p0 : Int) (p1 : Int) : Prop :=
  (((iand p0 (ishl 1 p1)) = 0) → Post 0 μ) ∧ ((¬ (iand p0 (ishl 1 p1)) = 0) → Post 1 μ)
def wp_X10_isIn (μ : Mem) (p0 : Int) (p1 : Int) (Post : Pst) : Prop := b_X10_isIn_e Post μ p0 p1
def b_X0_longestOf_67 (G23 : Mem → Int → Nat → Int → Int → Prop) (Post : Pst) (μ : Mem) (x1 : Int) (x3 : Nat) (x4 : Int) (x5 : Int) : Prop :=
  ∀ x_1 : Int, x_1 = wrap (x5 + (-1)) → G23 μ x1 x3 x4 x_1
def b_X0_longestOf_23 (G23 : Mem → Int → Nat → Int → Int → Prop) (Post : Pst) (μ : Mem) (x1 : Int) (x3 : Nat) (x4 : Int) (x5 : Int) : Prop :=
  ((x5 < 0) → Post x4 μ) ∧ ((¬ (x5 < 0)) → (0 ≤ x5 ∧ x5 < 8) ∧ wp_X10_isIn μ x1 (μ 80 x5.toNat) (fun r_4 μ_5 => ((r_4 = 0) → b_X0_longestOf_67 G23 Post μ_5 x1 x3 x4 x5) ∧ ((¬ r_4 = 0) → (0 ≤ x5 ∧ x5 < 8) ∧ (24 ≤ x3 ∧ x3 < 112 ∧ 0 ≤ (μ_5 80 x5.toNat) ∧ (μ_5 80 x5.toNat) < len x3) ∧ (24 ≤ x3 ∧ x3 < 112 ∧ 0 ≤ x4 ∧ x4 < len x3) ∧ (((μ_5 x3 (μ_5 80 x5.toNat).toNat) ≤ (μ_5 x3 x4.toNat)) → b_X0_longestOf_67 G23 Post μ_5 x1 x3 x4 x5) ∧ ((¬ ((μ_5 x3 (μ_5 80 x5.toNat).toNat) ≤ (μ_5 x3 x4.toNat))) → (0 ≤ x5 ∧ x5 < 8) ∧ ∀ x_12 : Int, x_12 = μ_5 80 x5.toNat → b_X0_longestOf_67 G23 Post μ_5 x1 x3 x_12 x5))))
def b_X0_longestOf_e (G23 : Mem → Int → Nat → Int → Int → Prop) (Post : Pst) (μ : Mem) (p0 : Int) (p1 : Int) : Prop :=
  (0 ≤ p1 ∧ p1 < 8) ∧ ∀ x_14 : Int, x_14 = μ 80 p1.toNat → ∀ x_15 : Int, x_15 = wrap (p1 - 1) → G23 μ p0 24 x_14 x_15
def wp_X0_longestOf (μ : Mem) (p0 : Int) (p1 : Int) (Post : Pst) : Prop := ∀ (G23 : Mem → Int → Nat → Int → Int → Prop), (∀ μ x1 x3 x4 x5, b_X0_longestOf_23 G23 Post μ x1 x3 x4 x5 → G23 μ x1 x3 x4 x5) → b_X0_longestOf_e G23 Post μ p0 p1
def b_X0_orderByDue_65 (G12 : Mem → Nat → Int → Prop) (G25 : Mem → Nat → Int → Int → Prop) (Post : Pst) (μ : Mem) (x1 : Nat) (x2 : Int) (x3 : Int) : Prop :=
  (0 ≤ x3 ∧ x3 < 8) ∧ ∀ μ_2 : Mem, μ_2 = wr μ 80 x3.toNat x2 → ∀ x_3 : Int, x_3 = wrap (x2 + 1) → G12 μ_2 x1 x_3
def b_X0_orderByDue_12 (G12 : Mem → Nat → Int → Prop) (G25 : Mem → Nat → Int → Int → Prop) (Post : Pst) (μ : Mem) (x1 : Nat) (x2 : Int) : Prop :=
  (((μ 1 0) ≤ x2) → Post 0 μ) ∧ ((¬ ((μ 1 0) ≤ x2)) → G25 μ x1 x2 x2)
def b_X0_orderByDue_25 (G12 : Mem → Nat → Int → Prop) (G25 : Mem → Nat → Int → Int → Prop) (Post : Pst) (μ : Mem) (x1 : Nat) (x2 : Int) (x3 : Int) : Prop :=
  ((x3 ≤ 0) → b_X0_orderByDue_65 G12 G25 Post μ x1 x2 x3) ∧ ((¬ (x3 ≤ 0)) → (0 ≤ (wrap (x3 - 1)) ∧ (wrap (x3 - 1)) < 8) ∧ (24 ≤ x1 ∧ x1 < 112 ∧ 0 ≤ (μ 80 (wrap (x3 - 1)).toNat) ∧ (μ 80 (wrap (x3 - 1)).toNat) < len x1) ∧ (24 ≤ x1 ∧ x1 < 112 ∧ 0 ≤ x2 ∧ x2 < len x1) ∧ (((μ x1 (μ 80 (wrap (x3 - 1)).toNat).toNat) ≤ (μ x1 x2.toNat)) → b_X0_orderByDue_65 G12 G25 Post μ x1 x2 x3) ∧ ((¬ ((μ x1 (μ 80 (wrap (x3 - 1)).toNat).toNat) ≤ (μ x1 x2.toNat))) → (0 ≤ (wrap (x3 - 1)) ∧ (wrap (x3 - 1)) < 8) ∧ (0 ≤ x3 ∧ x3 < 8) ∧ ∀ μ_12 : Mem, μ_12 = wr μ 80 x3.toNat (μ 80 (wrap (x3 - 1)).toNat) → ∀ x_13 : Int, x_13 = wrap (x3 + (-1)) → G25 μ_12 x1 x2 x_13))
def b_X0_orderByDue_e (G12 : Mem → Nat → Int → Prop) (G25 : Mem → Nat → Int → Int → Prop) (Post : Pst) (μ : Mem) : Prop :=
  G12 μ 26 0
def wp_X0_orderByDue (μ : Mem) (Post : Pst) : Prop := ∀ (G12 : Mem → Nat → Int → Prop) (G25 : Mem → Nat → Int → Int → Prop), (∀ μ x1 x2, b_X0_orderByDue_12 G12 G25 Post μ x1 x2 → G12 μ x1 x2) → (∀ μ x1 x2 x3, b_X0_orderByDue_25 G12 G25 Post μ x1 x2 x3 → G25 μ x1 x2 x3) → b_X0_orderByDue_e G12 G25 Post μ
def b_X9_late_e (Post : Pst) (μ : Mem) (p0 : Int) (p1 : Int) : Prop :=
  (0 ≤ p0 ∧ p0 < 8) ∧ Post (imax 0 (wrap (p1 - (μ 26 p0.toNat)))) μ
def wp_X9_late (μ : Mem) (p0 : Int) (p1 : Int) (Post : Pst) : Prop := b_X9_late_e Post μ p0 p1
def b_X0_fewestLate_96 (G10 : Mem → Int → Int → Int → Prop) (Post : Pst) (μ : Mem) (x1 : Int) (x2 : Int) (x3 : Int) : Prop :=
  ∀ x_1 : Int, x_1 = wrap (x3 + 1) → G10 μ x1 x2 x_1
def b_X0_fewestLate_10 (G10 : Mem → Int → Int → Int → Prop) (Post : Pst) (μ : Mem) (x1 : Int) (x2 : Int) (x3 : Int) : Prop :=
  (((μ 1 0) ≤ x3) → Post x1 μ) ∧ ((¬ ((μ 1 0) ≤ x3)) → (0 ≤ x3 ∧ x3 < 8) ∧ ∀ x_4 : Int, x_4 = μ 80 x3.toNat → ∀ x_5 : Int, x_5 = ior x1 (ishl 1 x_4) → (0 ≤ x_4 ∧ x_4 < 8) ∧ ∀ x_7 : Int, x_7 = wrap (x2 + (μ 24 x_4.toNat)) → wp_X9_late μ x_4 x_7 (fun r_8 μ_9 => ((r_8 ≤ 0) → b_X0_fewestLate_96 G10 Post μ_9 x_5 x_7 x3) ∧ ((¬ (r_8 ≤ 0)) → wp_X0_longestOf μ_9 x_5 x3 (fun r_11 μ_12 => ∀ x_13 : Int, x_13 = iand x_5 (ixor (ishl 1 r_11) (-1)) → (0 ≤ r_11 ∧ r_11 < 8) ∧ ∀ x_15 : Int, x_15 = wrap (x_7 - (μ_12 24 r_11.toNat)) → b_X0_fewestLate_96 G10 Post μ_12 x_13 x_15 x3))))
def b_X0_fewestLate_e (G10 : Mem → Int → Int → Int → Prop) (Post : Pst) (μ : Mem) : Prop :=
  wp_X0_orderByDue μ (fun _ μ_17 => G10 μ_17 0 0 0)
def wp_X0_fewestLate (μ : Mem) (Post : Pst) : Prop := ∀ (G10 : Mem → Int → Int → Int → Prop), (∀ μ x1 x2 x3, b_X0_fewestLate_10 G10 Post μ x1 x2 x3 → G10 μ x1 x2 x3) → b_X0_fewestLate_e G10 Post μ
def b_X0_leaders_35 (G4 : Mem → Int → Int → Int → Prop) (Post : Pst) (μ : Mem) (x1 : Int) (x2 : Int) (x3 : Int) : Prop :=
  ∀ x_1 : Int, x_1 = wrap (x3 + 1) → G4 μ x1 x2 x_1
def b_X0_leaders_4 (G4 : Mem → Int → Int → Int → Prop) (Post : Pst) (μ : Mem) (x1 : Int) (x2 : Int) (x3 : Int) : Prop :=
  (((μ 1 0) ≤ x3) → Post x2 μ) ∧ ((¬ ((μ 1 0) ≤ x3)) → wp_X10_isIn μ x1 x3 (fun r_3 μ_4 => ((r_3 = 0) → b_X0_leaders_35 G4 Post μ_4 x1 x2 x3) ∧ ((¬ r_3 = 0) → (0 ≤ x3 ∧ x3 < 8) ∧ ∀ x_7 : Int, x_7 = ior x2 (μ_4 74 x3.toNat) → b_X0_leaders_35 G4 Post μ_4 x1 x_7 x3)))
def b_X0_leaders_e (G4 : Mem → Int → Int → Int → Prop) (Post : Pst) (μ : Mem) (p0 : Int) : Prop :=
  G4 μ p0 0 0
def wp_X0_leaders (μ : Mem) (p0 : Int) (Post : Pst) : Prop := ∀ (G4 : Mem → Int → Int → Int → Prop), (∀ μ x1 x2 x3, b_X0_leaders_4 G4 Post μ x1 x2 x3 → G4 μ x1 x2 x3) → b_X0_leaders_e G4 Post μ p0
def b_X0_lastOf_73 (G12 : Mem → Int → Int → Int → Int → Int → Prop) (Post : Pst) (μ : Mem) (x1 : Int) (x2 : Int) (x3 : Int) (x4 : Int) (x5 : Int) : Prop :=
  ∀ x_1 : Int, x_1 = wrap (x5 + 1) → G12 μ x1 x2 x3 x4 x_1
def b_X0_lastOf_70 (G12 : Mem → Int → Int → Int → Int → Int → Prop) (Post : Pst) (μ : Mem) (x1 : Int) (x2 : Int) (x4 : Int) (x5 : Int) : Prop :=
  b_X0_lastOf_73 G12 Post μ x1 x2 x5 x4 x5
def b_X0_lastOf_12 (G12 : Mem → Int → Int → Int → Int → Int → Prop) (Post : Pst) (μ : Mem) (x1 : Int) (x2 : Int) (x3 : Int) (x4 : Int) (x5 : Int) : Prop :=
  (((μ 1 0) ≤ x5) → Post x3 μ) ∧ ((¬ ((μ 1 0) ≤ x5)) → wp_X10_isIn μ x1 x5 (fun r_3 μ_4 => ((r_3 = 0) → b_X0_lastOf_73 G12 Post μ_4 x1 x2 x3 x4 x5) ∧ ((¬ r_3 = 0) → wp_X10_isIn μ_4 x4 x5 (fun r_6 μ_7 => ((¬ r_6 = 0) → b_X0_lastOf_73 G12 Post μ_7 x1 x2 x3 x4 x5) ∧ ((r_6 = 0) → ((x3 = (-1)) → b_X0_lastOf_70 G12 Post μ_7 x1 x2 x4 x5) ∧ ((¬ x3 = (-1)) → wp_X9_late μ_7 x5 x2 (fun r_10 μ_11 => wp_X9_late μ_11 x3 x2 (fun r_12 μ_13 => ((r_12 < r_10) → b_X0_lastOf_73 G12 Post μ_13 x1 x2 x3 x4 x5) ∧ ((¬ (r_12 < r_10)) → b_X0_lastOf_70 G12 Post μ_13 x1 x2 x4 x5)))))))))
def b_X0_lastOf_e (G12 : Mem → Int → Int → Int → Int → Int → Prop) (Post : Pst) (μ : Mem) (p0 : Int) (p1 : Int) : Prop :=
  wp_X0_leaders μ p0 (fun r_15 μ_16 => G12 μ_16 p0 p1 (-1) r_15 0)
def wp_X0_lastOf (μ : Mem) (p0 : Int) (p1 : Int) (Post : Pst) : Prop := ∀ (G12 : Mem → Int → Int → Int → Int → Int → Prop), (∀ μ x1 x2 x3 x4 x5, b_X0_lastOf_12 G12 Post μ x1 x2 x3 x4 x5 → G12 μ x1 x2 x3 x4 x5) → b_X0_lastOf_e G12 Post μ p0 p1
def b_X9_all_e (Post : Pst) (μ : Mem) : Prop :=
  Post (wrap ((ishl 1 (μ 1 0)) - 1)) μ
def wp_X9_all (μ : Mem) (Post : Pst) : Prop := b_X9_all_e Post μ
def b_X9_allLong_4 (G4 : Mem → Int → Int → Prop) (Post : Pst) (μ : Mem) (x1 : Int) (x2 : Int) : Prop :=
  (((μ 1 0) ≤ x2) → Post x1 μ) ∧ ((¬ ((μ 1 0) ≤ x2)) → (0 ≤ x2 ∧ x2 < 8) ∧ ∀ x_3 : Int, x_3 = wrap (x1 + (μ 24 x2.toNat)) → ∀ x_4 : Int, x_4 = wrap (x2 + 1) → G4 μ x_3 x_4)
def b_X9_allLong_e (G4 : Mem → Int → Int → Prop) (Post : Pst) (μ : Mem) : Prop :=
  G4 μ 0 0
def wp_X9_allLong (μ : Mem) (Post : Pst) : Prop := ∀ (G4 : Mem → Int → Int → Prop), (∀ μ x1 x2, b_X9_allLong_4 G4 Post μ x1 x2 → G4 μ x1 x2) → b_X9_allLong_e G4 Post μ
def b_X0_orderFromBehind_31 (G31 : Mem → Int → Int → Int → Prop) (Post : Pst) (μ : Mem) (x1 : Int) (x2 : Int) (x3 : Int) : Prop :=
  ((x3 < 0) → Post 0 μ) ∧ ((¬ (x3 < 0)) → wp_X0_lastOf μ x1 x2 (fun r_2 μ_3 => ((¬ r_2 = (-1)) → (0 ≤ x3 ∧ x3 < 8) ∧ ∀ μ_6 : Mem, μ_6 = wr μ_3 80 x3.toNat r_2 → wp_X9_late μ_6 r_2 x2 (fun r_7 μ_8 => ∀ μ_9 : Mem, μ_9 = wr μ_8 4 2 (imax (μ_6 4 2) r_7) → ∀ x_10 : Int, x_10 = iand x1 (ixor (ishl 1 r_2) (-1)) → (0 ≤ r_2 ∧ r_2 < 8) ∧ ∀ x_12 : Int, x_12 = wrap (x2 - (μ_9 24 r_2.toNat)) → ∀ x_13 : Int, x_13 = wrap (x3 + (-1)) → G31 μ_9 x_10 x_12 x_13)) ∧ ((r_2 = (-1)) → Post 0 μ_3)))
def b_X0_orderFromBehind_e (G31 : Mem → Int → Int → Int → Prop) (Post : Pst) (μ : Mem) : Prop :=
  wp_X9_all μ (fun r_14 μ_15 => wp_X9_allLong μ_15 (fun r_16 μ_17 => ∀ μ_18 : Mem, μ_18 = wr μ_17 4 2 0 → ∀ x_19 : Int, x_19 = wrap ((μ_18 1 0) - 1) → G31 μ_18 r_14 r_16 x_19))
def wp_X0_orderFromBehind (μ : Mem) (Post : Pst) : Prop := ∀ (G31 : Mem → Int → Int → Int → Prop), (∀ μ x1 x2 x3, b_X0_orderFromBehind_31 G31 Post μ x1 x2 x3 → G31 μ x1 x2 x3) → b_X0_orderFromBehind_e G31 Post μ
def b_X10_isFrom_e (Post : Pst) (μ : Mem) (p0 : Int) (p1 : Int) (p2 : Int) : Prop :=
  ((p0 < p1) → Post 0 μ) ∧ ((¬ (p0 < p1)) → ((p2 < p0) → Post 0 μ) ∧ ((¬ (p2 < p0)) → Post 1 μ))
def wp_X10_isFrom (μ : Mem) (p0 : Int) (p1 : Int) (p2 : Int) (Post : Pst) : Prop := b_X10_isFrom_e Post μ p0 p1 p2
def b_X9_has_e (Post : Pst) (μ : Mem) (p0 : Int) : Prop :=
  wp_X10_isFrom μ p0 0 (wrap ((μ 1 0) - 1)) (fun r_1 μ_2 => ((r_1 = 0 ∨ r_1 = 1) ∧ Post r_1 μ_2))
def wp_X9_has (μ : Mem) (p0 : Int) (Post : Pst) : Prop := b_X9_has_e Post μ p0
def b_X9_isAheadByOthersToo_50 (G10 : Mem → Int → Int → Int → Prop) (G22 : Mem → Int → Int → Int → Int → Prop) (Post : Pst) (μ : Mem) (x1 : Int) (x3 : Int) (x4 : Int) (x5 : Int) : Prop :=
  ∀ x_1 : Int, x_1 = wrap (x5 + 1) → G22 μ x1 x3 x4 x_1
def b_X9_isAheadByOthersToo_10 (G10 : Mem → Int → Int → Int → Prop) (G22 : Mem → Int → Int → Int → Int → Prop) (Post : Pst) (μ : Mem) (x1 : Int) (x3 : Int) (x4 : Int) : Prop :=
  (((μ 1 0) ≤ x4) → wp_X10_isIn μ x3 x1 (fun r_3 μ_4 => ((r_3 = 0 ∨ r_3 = 1) ∧ Post r_3 μ_4))) ∧ ((¬ ((μ 1 0) ≤ x4)) → G22 μ x1 x3 x4 0)
def b_X9_isAheadByOthersToo_22 (G10 : Mem → Int → Int → Int → Prop) (G22 : Mem → Int → Int → Int → Int → Prop) (Post : Pst) (μ : Mem) (x1 : Int) (x3 : Int) (x4 : Int) (x5 : Int) : Prop :=
  (((μ 1 0) ≤ x5) → ∀ x_6 : Int, x_6 = wrap (x4 + 1) → G10 μ x1 x3 x_6) ∧ ((¬ ((μ 1 0) ≤ x5)) → wp_X10_isIn μ x3 x5 (fun r_7 μ_8 => ((r_7 = 0) → b_X9_isAheadByOthersToo_50 G10 G22 Post μ_8 x1 x3 x4 x5) ∧ ((¬ r_7 = 0) → (0 ≤ x5 ∧ x5 < 8) ∧ ∀ x_11 : Int, x_11 = ior x3 (μ_8 74 x5.toNat) → b_X9_isAheadByOthersToo_50 G10 G22 Post μ_8 x1 x_11 x4 x5)))
def b_X9_isAheadByOthersToo_e (G10 : Mem → Int → Int → Int → Prop) (G22 : Mem → Int → Int → Int → Int → Prop) (Post : Pst) (μ : Mem) (p0 : Int) (p1 : Int) : Prop :=
  (0 ≤ p1 ∧ p1 < 8) ∧ ∀ x_13 : Int, x_13 = μ 74 p1.toNat → G10 μ p0 x_13 0
def wp_X9_isAheadByOthersToo (μ : Mem) (p0 : Int) (p1 : Int) (Post : Pst) : Prop := ∀ (G10 : Mem → Int → Int → Int → Prop) (G22 : Mem → Int → Int → Int → Int → Prop), (∀ μ x1 x3 x4, b_X9_isAheadByOthersToo_10 G10 G22 Post μ x1 x3 x4 → G10 μ x1 x3 x4) → (∀ μ x1 x3 x4 x5, b_X9_isAheadByOthersToo_22 G10 G22 Post μ x1 x3 x4 x5 → G22 μ x1 x3 x4 x5) → b_X9_isAheadByOthersToo_e G10 G22 Post μ p0 p1
def b_X9_isToldAhead_e (Post : Pst) (μ : Mem) (p0 : Int) (p1 : Int) : Prop :=
  (0 ≤ p1 ∧ p1 < 8) ∧ wp_X10_isIn μ (μ 74 p1.toNat) p0 (fun r_2 μ_3 => ((r_2 = 0 ∨ r_2 = 1) ∧ Post r_2 μ_3))
def wp_X9_isToldAhead (μ : Mem) (p0 : Int) (p1 : Int) (Post : Pst) : Prop := b_X9_isToldAhead_e Post μ p0 p1
def b_X9_tellAhead_e (Post : Pst) (μ : Mem) (p0 : Int) (p1 : Int) (p2 : Int) : Prop :=
  ((p2 = 0) → (0 ≤ p1 ∧ p1 < 8) ∧ (0 ≤ p1 ∧ p1 < 8) ∧ ∀ μ_4 : Mem, μ_4 = wr μ 74 p1.toNat (iand (μ 74 p1.toNat) (ixor (ishl 1 p0) (-1))) → Post 0 μ_4) ∧ ((¬ p2 = 0) → (0 ≤ p1 ∧ p1 < 8) ∧ (0 ≤ p1 ∧ p1 < 8) ∧ ∀ μ_7 : Mem, μ_7 = wr μ 74 p1.toNat (ior (μ 74 p1.toNat) (ishl 1 p0)) → Post 0 μ_7)
def wp_X9_tellAhead (μ : Mem) (p0 : Int) (p1 : Int) (p2 : Int) (Post : Pst) : Prop := b_X9_tellAhead_e Post μ p0 p1 p2
def b_X10_ahead_e (Post : Pst) (μ : Mem) (p0 : Int) (p1 : Int) (p2 : Int) : Prop :=
  wp_X9_has μ p0 (fun r_1 μ_2 => ((r_1 = 0) → Post (-2) μ_2) ∧ ((¬ r_1 = 0) → wp_X9_has μ_2 p1 (fun r_4 μ_5 => ((r_4 = 0) → Post (-2) μ_5) ∧ ((¬ r_4 = 0) → ((¬ p0 = p1) → wp_X9_isToldAhead μ_5 p0 p1 (fun r_8 μ_9 => ((r_8 = p2) → Post (-3) μ_9) ∧ ((¬ r_8 = p2) → wp_X9_isAheadByOthersToo μ_9 p1 p0 (fun r_11 μ_12 => ((r_11 = 0) → wp_X9_tellAhead μ_12 p0 p1 p2 (fun _ μ_15 => Post 1 μ_15)) ∧ ((¬ r_11 = 0) → Post (-3) μ_12))))) ∧ ((p0 = p1) → Post (-2) μ_5)))))
def wp_X10_ahead (μ : Mem) (p0 : Int) (p1 : Int) (p2 : Int) (Post : Pst) : Prop := b_X10_ahead_e Post μ p0 p1 p2
def b_X6_empty_e (Post : Pst) (μ : Mem) : Prop :=
  ∀ x_1 : Int, x_1 = μ 2 0 → ∀ μ_2 : Mem, μ_2 = wr μ 2 0 0 → ∀ μ_3 : Mem, μ_3 = wr μ_2 2 1 0 → Post x_1 μ_3
def wp_X6_empty (μ : Mem) (Post : Pst) : Prop := b_X6_empty_e Post μ
def b_X10_anew_e (Post : Pst) (μ : Mem) : Prop :=
  wp_X6_empty μ (fun r_1 μ_2 => Post r_1 μ_2)
def wp_X10_anew (μ : Mem) (Post : Pst) : Prop := b_X10_anew_e Post μ
def b_X5_inAnyOrder_9 (G9 : Mem → Int → Int → Int → Int → Prop) (Post : Pst) (μ : Mem) (x1 : Int) (x2 : Int) (x3 : Int) (x4 : Int) : Prop :=
  (((μ 1 0) ≤ x4) → Post (imax x3 (imax x1 x2)) μ) ∧ ((¬ ((μ 1 0) ≤ x4)) → (0 ≤ x4 ∧ x4 < 8) ∧ ∀ x_3 : Int, x_3 = wrap (x1 + (μ (32 + x4.toNat) 0)) → (0 ≤ x4 ∧ x4 < 8) ∧ ∀ x_5 : Int, x_5 = wrap (x2 + (μ (32 + x4.toNat) 1)) → (0 ≤ x4 ∧ x4 < 8) ∧ (0 ≤ x4 ∧ x4 < 8) ∧ ∀ x_8 : Int, x_8 = imax x3 (wrap ((μ (32 + x4.toNat) 0) + (μ (32 + x4.toNat) 1))) → ∀ x_9 : Int, x_9 = wrap (x4 + 1) → G9 μ x_3 x_5 x_8 x_9)
def b_X5_inAnyOrder_e (G9 : Mem → Int → Int → Int → Int → Prop) (Post : Pst) (μ : Mem) : Prop :=
  G9 μ 0 0 0 0
def wp_X5_inAnyOrder (μ : Mem) (Post : Pst) : Prop := ∀ (G9 : Mem → Int → Int → Int → Int → Prop), (∀ μ x1 x2 x3 x4, b_X5_inAnyOrder_9 G9 Post μ x1 x2 x3 x4 → G9 μ x1 x2 x3 x4) → b_X5_inAnyOrder_e G9 Post μ
def b_X10_any_e (Post : Pst) (μ : Mem) : Prop :=
  wp_X5_inAnyOrder μ (fun r_1 μ_2 => Post r_1 μ_2)
def wp_X10_any (μ : Mem) (Post : Pst) : Prop := b_X10_any_e Post μ
def b_X10_benches_e (Post : Pst) (μ : Mem) (p0 : Int) : Prop :=
  wp_X10_isFrom μ p0 2 4 (fun r_1 μ_2 => ((¬ r_1 = 0) → ∀ x_4 : Int, x_4 = μ_2 6 1 → ∀ μ_5 : Mem, μ_5 = wr μ_2 6 1 p0 → Post x_4 μ_5) ∧ ((r_1 = 0) → Post (-2) μ_2))
def wp_X10_benches (μ : Mem) (p0 : Int) (Post : Pst) : Prop := b_X10_benches_e Post μ p0
def b_X2_keepIfLess_e (Post : Pst) (μ : Mem) (p0 : Int) : Prop :=
  (((μ 3 2) ≤ p0) → Post 0 μ) ∧ ((¬ ((μ 3 2) ≤ p0)) → ∀ μ_2 : Mem, μ_2 = wr μ 3 2 p0 → ((0 ≤ (0 : Int) ∧ 0 ≤ (0 : Int)) ∧ 0 ≤ (μ_2 1 0) ∧ (0 : Int) + (μ_2 1 0) ≤ 8 ∧ (0 : Int) + (μ_2 1 0) ≤ 8) ∧ ∀ μ_3 : Mem, μ_3 = cpm μ_2 77 76 (0 : Int).toNat (0 : Int).toNat (μ_2 1 0).toNat → Post 0 μ_3)
def wp_X2_keepIfLess (μ : Mem) (p0 : Int) (Post : Pst) : Prop := b_X2_keepIfLess_e Post μ p0
def b_X9_endBehind_e (Post : Pst) (μ : Mem) (p0 : Int) (p1 : Int) : Prop :=
  (0 ≤ p1 ∧ p1 < 8) ∧ (0 ≤ p1 ∧ p1 < 8) ∧ Post (wrap ((imax p0 (μ 25 p1.toNat)) + (μ 24 p1.toNat))) μ
def wp_X9_endBehind (μ : Mem) (p0 : Int) (p1 : Int) (Post : Pst) : Prop := b_X9_endBehind_e Post μ p0 p1
def b_X9_gathered_e (Post : Pst) (μ : Mem) (p0 : Int) (p1 : Int) (p2 : Int) (p3 : Int) : Prop :=
  ((p0 < 0 ∨ 3 < p0) → wp_X9_late μ p2 p3 (fun r_2 μ_3 => ((r_2 ≤ 0) → Post p1 μ_3) ∧ ((¬ (r_2 ≤ 0)) → (0 ≤ p2 ∧ p2 < 8) ∧ Post (wrap (p1 + (μ_3 27 p2.toNat))) μ_3))) ∧ ((p0 = 0) → Post (imax p1 p3) μ) ∧ ((p0 = 1) → (0 ≤ p2 ∧ p2 < 8) ∧ Post (wrap (p1 + (wrap ((μ 27 p2.toNat) * p3)))) μ) ∧ ((p0 = 2) → (0 ≤ p2 ∧ p2 < 8) ∧ wp_X9_late μ p2 p3 (fun r_8 μ_9 => Post (wrap (p1 + (wrap ((μ 27 p2.toNat) * r_8)))) μ_9)) ∧ ((p0 = 3) → wp_X9_late μ p2 p3 (fun r_10 μ_11 => Post (imax p1 r_10) μ_11))
def wp_X9_gathered (μ : Mem) (p0 : Int) (p1 : Int) (p2 : Int) (p3 : Int) (Post : Pst) : Prop := b_X9_gathered_e Post μ p0 p1 p2 p3
def b_X2_notLess_54 (G6 : Mem → Int → Int → Int → Int → Prop) (Post : Pst) (μ : Mem) (x1 : Int) (x2 : Int) (x4 : Int) (x5 : Int) : Prop :=
  ∀ x_1 : Int, x_1 = wrap (x5 + 1) → G6 μ x1 x2 x4 x_1
def b_X2_notLess_6 (G6 : Mem → Int → Int → Int → Int → Prop) (Post : Pst) (μ : Mem) (x1 : Int) (x2 : Int) (x4 : Int) (x5 : Int) : Prop :=
  (((μ 1 0) ≤ x5) → Post x4 μ) ∧ ((¬ ((μ 1 0) ≤ x5)) → wp_X10_isIn μ x1 x5 (fun r_3 μ_4 => ((¬ r_3 = 0) → b_X2_notLess_54 G6 Post μ_4 x1 x2 x4 x5) ∧ ((r_3 = 0) → wp_X9_endBehind μ_4 x2 x5 (fun r_6 μ_7 => wp_X9_gathered μ_7 (μ_4 3 3) x4 x5 r_6 (fun r_8 μ_9 => b_X2_notLess_54 G6 Post μ_9 x1 x2 r_8 x5)))))
def b_X2_notLess_e (G6 : Mem → Int → Int → Int → Int → Prop) (Post : Pst) (μ : Mem) (p0 : Int) (p1 : Int) (p2 : Int) : Prop :=
  G6 μ p0 p1 p2 0
def wp_X2_notLess (μ : Mem) (p0 : Int) (p1 : Int) (p2 : Int) (Post : Pst) : Prop := ∀ (G6 : Mem → Int → Int → Int → Int → Prop), (∀ μ x1 x2 x4 x5, b_X2_notLess_6 G6 Post μ x1 x2 x4 x5 → G6 μ x1 x2 x4 x5) → b_X2_notLess_e G6 Post μ p0 p1 p2
def b_X2_triedAsGood_32 (Post : Pst) (μ : Mem) (x3 : Int) (x4 : Int) (x5 : Int) : Prop :=
  (0 ≤ x5 ∧ x5 < 768) ∧ ∀ μ_2 : Mem, μ_2 = wr μ 78 x5.toNat x3 → (0 ≤ x5 ∧ x5 < 768) ∧ ∀ μ_4 : Mem, μ_4 = wr μ_2 79 x5.toNat x4 → Post 0 μ_4
def b_X2_triedAsGood_e (Post : Pst) (μ : Mem) (p0 : Int) (p1 : Int) (p2 : Int) (p3 : Int) : Prop :=
  ∀ x_5 : Int, x_5 = wrap ((wrap (p0 * 3)) + p1) → (0 ≤ x_5 ∧ x_5 < 768) ∧ ((p2 < (μ 78 x_5.toNat)) → b_X2_triedAsGood_32 Post μ p2 p3 x_5) ∧ ((¬ (p2 < (μ 78 x_5.toNat))) → (0 ≤ x_5 ∧ x_5 < 768) ∧ ((p3 < (μ 79 x_5.toNat)) → b_X2_triedAsGood_32 Post μ p2 p3 x_5) ∧ ((¬ (p3 < (μ 79 x_5.toNat))) → Post 1 μ))
def wp_X2_triedAsGood (μ : Mem) (p0 : Int) (p1 : Int) (p2 : Int) (p3 : Int) (Post : Pst) : Prop := b_X2_triedAsGood_e Post μ p0 p1 p2 p3
def b_X9_changeFor_e (Post : Pst) (μ : Mem) (p0 : Int) (p1 : Int) : Prop :=
  ((¬ p0 = (-1)) → (0 ≤ p0 ∧ p0 < 3) ∧ (0 ≤ p1 ∧ p1 < 8) ∧ (0 ≤ (μ 28 p1.toNat) ∧ (μ 28 p1.toNat) < 3) ∧ Post (μ (29 + p0.toNat) (μ 28 p1.toNat).toNat) μ) ∧ ((p0 = (-1)) → Post 0 μ)
def wp_X9_changeFor (μ : Mem) (p0 : Int) (p1 : Int) (Post : Pst) : Prop := b_X9_changeFor_e Post μ p0 p1
def b_X9_mayFollow_e (Post : Pst) (μ : Mem) (p0 : Int) (p1 : Int) : Prop :=
  wp_X10_isIn μ p0 p1 (fun r_1 μ_2 => ((¬ r_1 = 0) → Post 0 μ_2) ∧ ((r_1 = 0) → (0 ≤ p1 ∧ p1 < 8) ∧ ((¬ (iand (μ_2 74 p1.toNat) (ixor p0 (-1))) = 0) → Post 0 μ_2) ∧ (((iand (μ_2 74 p1.toNat) (ixor p0 (-1))) = 0) → Post 1 μ_2)))
def wp_X9_mayFollow (μ : Mem) (p0 : Int) (p1 : Int) (Post : Pst) : Prop := b_X9_mayFollow_e Post μ p0 p1
def b_X2_extend_172 (rc : Mem → Int → Int → Int → Int → Int → Pst → Prop) (G21 : Mem → Int → Int → Int → Int → Int → Int → Prop) (Post : Pst) (μ : Mem) (x1 : Int) (x2 : Int) (x3 : Int) (x4 : Int) (x5 : Int) (x6 : Int) : Prop :=
  ∀ x_1 : Int, x_1 = wrap (x6 + 1) → G21 μ x1 x2 x3 x4 x5 x_1
def b_X2_extend_21 (rc : Mem → Int → Int → Int → Int → Int → Pst → Prop) (G21 : Mem → Int → Int → Int → Int → Int → Int → Prop) (Post : Pst) (μ : Mem) (x1 : Int) (x2 : Int) (x3 : Int) (x4 : Int) (x5 : Int) (x6 : Int) : Prop :=
  (((μ 1 0) ≤ x6) → Post 0 μ) ∧ ((¬ ((μ 1 0) ≤ x6)) → wp_X9_mayFollow μ x2 x6 (fun r_3 μ_4 => ((¬ r_3 = 0) → wp_X9_changeFor μ_4 x3 x6 (fun r_6 μ_7 => wp_X9_endBehind μ_7 (wrap (x4 + r_6)) x6 (fun r_8 μ_9 => wp_X9_gathered μ_9 (μ_9 3 3) x5 x6 r_8 (fun r_10 μ_11 => ∀ x_12 : Int, x_12 = ior x2 (ishl 1 x6) → (0 ≤ x6 ∧ x6 < 8) ∧ ∀ x_14 : Int, x_14 = μ_11 28 x6.toNat → wp_X2_notLess μ_11 x_12 r_8 r_10 (fun r_15 μ_16 => (((μ_16 3 2) ≤ r_15) → b_X2_extend_172 rc G21 Post μ_16 x1 x2 x3 x4 x5 x6) ∧ ((¬ ((μ_16 3 2) ≤ r_15)) → wp_X2_triedAsGood μ_16 x_12 x_14 r_8 r_10 (fun r_18 μ_19 => ((r_18 = 0) → (0 ≤ x1 ∧ x1 < 8) ∧ ∀ μ_22 : Mem, μ_22 = wr μ_19 77 x1.toNat x6 → rc μ_22 (wrap (x1 + 1)) x_12 x_14 r_8 r_10 (fun _ μ_24 => b_X2_extend_172 rc G21 Post μ_24 x1 x2 x3 x4 x5 x6)) ∧ ((¬ r_18 = 0) → b_X2_extend_172 rc G21 Post μ_19 x1 x2 x3 x4 x5 x6)))))))) ∧ ((r_3 = 0) → b_X2_extend_172 rc G21 Post μ_4 x1 x2 x3 x4 x5 x6)))
def b_X2_extend_e (rc : Mem → Int → Int → Int → Int → Int → Pst → Prop) (G21 : Mem → Int → Int → Int → Int → Int → Int → Prop) (Post : Pst) (μ : Mem) (p0 : Int) (p1 : Int) (p2 : Int) (p3 : Int) (p4 : Int) : Prop :=
  ((p0 < (μ 1 0)) → G21 μ p0 p1 p2 p3 p4 0) ∧ ((¬ (p0 < (μ 1 0))) → wp_X2_keepIfLess μ p4 (fun _ μ_27 => Post 0 μ_27))
def wp_X2_extend : Nat → Mem → Int → Int → Int → Int → Int → Pst → Prop
  | 0 => fun _ _ _ _ _ _ _ => False
  | d + 1 => fun μ p0 p1 p2 p3 p4 Post => ∀ (G21 : Mem → Int → Int → Int → Int → Int → Int → Prop), (∀ μ x1 x2 x3 x4 x5 x6, b_X2_extend_21 (wp_X2_extend d) G21 Post μ x1 x2 x3 x4 x5 x6 → G21 μ x1 x2 x3 x4 x5 x6) → b_X2_extend_e (wp_X2_extend d) G21 Post μ p0 p1 p2 p3 p4
def b_X2_seek_e (Post : Pst) (μ : Mem) (p0 : Int) : Prop :=
  ∀ μ_1 : Mem, μ_1 = wr μ 3 3 p0 → ∀ μ_2 : Mem, μ_2 = wr μ_1 3 2 1000000000 → wp_J7_fill_53178 μ_2 78 1000000000 (fun _ μ_4 => wp_J7_fill_53178 μ_4 79 1000000000 (fun _ μ_6 => wp_X2_extend 10 μ_6 0 0 (-1) 0 0 (fun _ μ_8 => Post 0 μ_8)))
def wp_X2_seek (μ : Mem) (p0 : Int) (Post : Pst) : Prop := b_X2_seek_e Post μ p0
def b_X10_best_e (Post : Pst) (μ : Mem) (p0 : Int) (p1 : Int) : Prop :=
  wp_X10_isFrom μ p0 0 4 (fun r_1 μ_2 => ((r_1 = 0) → Post (-10) μ_2) ∧ ((¬ r_1 = 0) → wp_X10_isFrom μ_2 p1 (-1) (wrap ((μ_2 1 0) - 1)) (fun r_4 μ_5 => ((¬ r_4 = 0) → wp_X2_seek μ_5 p0 (fun _ μ_8 => ((¬ p1 = (-1)) → (0 ≤ p1 ∧ p1 < 8) ∧ Post (μ_8 76 p1.toNat) μ_8) ∧ ((p1 = (-1)) → Post (μ_8 3 2) μ_8))) ∧ ((r_4 = 0) → Post (-10) μ_5))))
def wp_X10_best (μ : Mem) (p0 : Int) (p1 : Int) (Post : Pst) : Prop := b_X10_best_e Post μ p0 p1
def b_X1_endsAtLeast_108 (G19 : Mem → Int → Int → Int → Int → Prop) (G52 : Mem → Int → Int → Int → Int → Int → Int → Int → Prop) (Post : Pst) (μ : Mem) (x1 : Int) (x2 : Int) (x4 : Int) (x5 : Int) (x6 : Int) (x7 : Int) (x8 : Int) : Prop :=
  ∀ x_1 : Int, x_1 = wrap (x8 + 1) → G52 μ x1 x2 x4 x5 x6 x7 x_1
def b_X1_endsAtLeast_19 (G19 : Mem → Int → Int → Int → Int → Prop) (G52 : Mem → Int → Int → Int → Int → Int → Int → Int → Prop) (Post : Pst) (μ : Mem) (x1 : Int) (x2 : Int) (x4 : Int) (x5 : Int) : Prop :=
  (((μ 6 1) ≤ x5) → Post x4 μ) ∧ ((¬ ((μ 6 1) ≤ x5)) → (0 ≤ x1 ∧ x1 < 8) ∧ (0 ≤ x5 ∧ x5 < 4) ∧ ∀ x_5 : Int, x_5 = μ (48 + x1.toNat) x5.toNat → G52 μ x1 x2 x4 x5 x_5 1000000000 0)
def b_X1_endsAtLeast_52 (G19 : Mem → Int → Int → Int → Int → Prop) (G52 : Mem → Int → Int → Int → Int → Int → Int → Int → Prop) (Post : Pst) (μ : Mem) (x1 : Int) (x2 : Int) (x4 : Int) (x5 : Int) (x6 : Int) (x7 : Int) (x8 : Int) : Prop :=
  (((μ 1 0) ≤ x8) → ∀ x_7 : Int, x_7 = imax x4 (wrap (x6 + x7)) → ∀ x_8 : Int, x_8 = wrap (x5 + 1) → G19 μ x1 x2 x_7 x_8) ∧ ((¬ ((μ 1 0) ≤ x8)) → wp_X10_isIn μ x2 x8 (fun r_9 μ_10 => ((¬ r_9 = 0) → b_X1_endsAtLeast_108 G19 G52 Post μ_10 x1 x2 x4 x5 x6 x7 x8) ∧ ((r_9 = 0) → (0 ≤ x8 ∧ x8 < 8) ∧ (0 ≤ x5 ∧ x5 < 4) ∧ ∀ x_14 : Int, x_14 = wrap (x6 + (μ_10 (32 + x8.toNat) x5.toNat)) → (0 ≤ x8 ∧ x8 < 8) ∧ (0 ≤ x5 ∧ x5 < 4) ∧ ∀ x_17 : Int, x_17 = imin x7 (μ_10 (56 + x8.toNat) x5.toNat) → b_X1_endsAtLeast_108 G19 G52 Post μ_10 x1 x2 x4 x5 x_14 x_17 x8)))
def b_X1_endsAtLeast_e (G19 : Mem → Int → Int → Int → Int → Prop) (G52 : Mem → Int → Int → Int → Int → Int → Int → Int → Prop) (Post : Pst) (μ : Mem) (p0 : Int) (p1 : Int) (p2 : Int) : Prop :=
  wp_X9_all μ (fun r_18 μ_19 => ((¬ p1 = r_18) → G19 μ_19 p0 p1 p2 0) ∧ ((p1 = r_18) → Post p2 μ_19))
def wp_X1_endsAtLeast (μ : Mem) (p0 : Int) (p1 : Int) (p2 : Int) (Post : Pst) : Prop := ∀ (G19 : Mem → Int → Int → Int → Int → Prop) (G52 : Mem → Int → Int → Int → Int → Int → Int → Int → Prop), (∀ μ x1 x2 x4 x5, b_X1_endsAtLeast_19 G19 G52 Post μ x1 x2 x4 x5 → G19 μ x1 x2 x4 x5) → (∀ μ x1 x2 x4 x5 x6 x7 x8, b_X1_endsAtLeast_52 G19 G52 Post μ x1 x2 x4 x5 x6 x7 x8 → G52 μ x1 x2 x4 x5 x6 x7 x8) → b_X1_endsAtLeast_e G19 G52 Post μ p0 p1 p2
def b_X1_keepIfSooner_e (Post : Pst) (μ : Mem) (p0 : Int) : Prop :=
  (((μ 7 3) ≤ p0) → Post 0 μ) ∧ ((¬ ((μ 7 3) ≤ p0)) → ∀ μ_2 : Mem, μ_2 = wr μ 7 3 p0 → ((0 ≤ (0 : Int) ∧ 0 ≤ (0 : Int)) ∧ 0 ≤ (μ_2 1 0) ∧ (0 : Int) + (μ_2 1 0) ≤ 8 ∧ (0 : Int) + (μ_2 1 0) ≤ 8) ∧ ∀ μ_3 : Mem, μ_3 = cpm μ_2 84 83 (0 : Int).toNat (0 : Int).toNat (μ_2 1 0).toNat → Post 0 μ_3)
def wp_X1_keepIfSooner (μ : Mem) (p0 : Int) (Post : Pst) : Prop := b_X1_keepIfSooner_e Post μ p0
def b_X4_roomAhead_e (Post : Pst) (μ : Mem) (p0 : Int) (p1 : Int) : Prop :=
  (0 ≤ p1 ∧ p1 < 4) ∧ ∀ x_2 : Int, x_2 = wrap (p0 - (μ 82 p1.toNat)) → ((0 ≤ x_2) → (0 ≤ x_2 ∧ x_2 < 8) ∧ (0 ≤ p1 ∧ p1 < 4) ∧ Post (μ (40 + x_2.toNat) p1.toNat) μ) ∧ ((¬ (0 ≤ x_2)) → Post 0 μ)
def wp_X4_roomAhead (μ : Mem) (p0 : Int) (p1 : Int) (Post : Pst) : Prop := b_X4_roomAhead_e Post μ p0 p1
def b_X4_send_77 (G5 : Mem → Int → Int → Int → Int → Prop) (Post : Pst) (μ : Mem) (x1 : Int) (x2 : Int) (x4 : Int) : Prop :=
  (0 ≤ x1 ∧ x1 < 8) ∧ (0 ≤ x4 ∧ x4 < 4) ∧ (0 ≤ x2 ∧ x2 < 8) ∧ (0 ≤ x4 ∧ x4 < 4) ∧ ∀ x_5 : Int, x_5 = wrap ((μ (40 + x1.toNat) x4.toNat) + (μ (32 + x2.toNat) x4.toNat)) → ∀ x_6 : Int, x_6 = wrap (x4 + 1) → G5 μ x1 x2 x_5 x_6
def b_X4_send_33 (G5 : Mem → Int → Int → Int → Int → Prop) (Post : Pst) (μ : Mem) (x1 : Int) (x2 : Int) (x3 : Int) (x4 : Int) (s0 : Int) : Prop :=
  (0 ≤ x1 ∧ x1 < 8) ∧ (0 ≤ x4 ∧ x4 < 4) ∧ ∀ μ_9 : Mem, μ_9 = wr μ (40 + x1.toNat) x4.toNat (imax x3 s0) → ((x4 ≤ 0) → b_X4_send_77 G5 Post μ_9 x1 x2 x4) ∧ ((¬ (x4 ≤ 0)) → (0 ≤ x1 ∧ x1 < 8) ∧ wp_X4_roomAhead μ_9 x1 x4 (fun r_12 μ_13 => (0 ≤ (wrap (x4 - 1)) ∧ (wrap (x4 - 1)) < 4) ∧ ∀ μ_15 : Mem, μ_15 = wr μ_13 (48 + x1.toNat) (wrap (x4 - 1)).toNat (imax x3 r_12) → b_X4_send_77 G5 Post μ_15 x1 x2 x4))
def b_X4_send_5 (G5 : Mem → Int → Int → Int → Int → Prop) (Post : Pst) (μ : Mem) (x1 : Int) (x2 : Int) (x3 : Int) (x4 : Int) : Prop :=
  (((μ 6 1) ≤ x4) → (0 ≤ x1 ∧ x1 < 8) ∧ (0 ≤ (wrap ((μ 6 1) - 1)) ∧ (wrap ((μ 6 1) - 1)) < 4) ∧ ∀ μ_19 : Mem, μ_19 = wr μ (48 + x1.toNat) (wrap ((μ 6 1) - 1)).toNat x3 → Post x3 μ_19) ∧ ((¬ ((μ 6 1) ≤ x4)) → ((¬ x1 = 0) → (0 ≤ (wrap (x1 - 1)) ∧ (wrap (x1 - 1)) < 8) ∧ (0 ≤ x4 ∧ x4 < 4) ∧ b_X4_send_33 G5 Post μ x1 x2 x3 x4 (μ (48 + (wrap (x1 - 1)).toNat) x4.toNat)) ∧ ((x1 = 0) → b_X4_send_33 G5 Post μ x1 x2 x3 x4 0))
def b_X4_send_e (G5 : Mem → Int → Int → Int → Int → Prop) (Post : Pst) (μ : Mem) (p0 : Int) (p1 : Int) : Prop :=
  G5 μ p0 p1 0 0
def wp_X4_send (μ : Mem) (p0 : Int) (p1 : Int) (Post : Pst) : Prop := ∀ (G5 : Mem → Int → Int → Int → Int → Prop), (∀ μ x1 x2 x3 x4, b_X4_send_5 G5 Post μ x1 x2 x3 x4 → G5 μ x1 x2 x3 x4) → b_X4_send_e G5 Post μ p0 p1
def b_X1_extend_110 (rc : Mem → Int → Int → Int → Pst → Prop) (G20 : Mem → Int → Int → Int → Prop) (Post : Pst) (μ : Mem) (x1 : Int) (x2 : Int) (x4 : Int) : Prop :=
  ∀ x_1 : Int, x_1 = wrap (x4 + 1) → G20 μ x1 x2 x_1
def b_X1_extend_20 (rc : Mem → Int → Int → Int → Pst → Prop) (G20 : Mem → Int → Int → Int → Prop) (Post : Pst) (μ : Mem) (x1 : Int) (x2 : Int) (x4 : Int) : Prop :=
  (((μ 1 0) ≤ x4) → Post 0 μ) ∧ ((¬ ((μ 1 0) ≤ x4)) → (((μ 7 3) ≤ (μ 7 4)) → Post 0 μ) ∧ ((¬ ((μ 7 3) ≤ (μ 7 4))) → wp_X10_isIn μ x2 x4 (fun r_4 μ_5 => ((r_4 = 0) → ∀ x_7 : Int, x_7 = ior x2 (ishl 1 x4) → wp_X4_send μ_5 x1 x4 (fun r_8 μ_9 => wp_X1_endsAtLeast μ_9 x1 x_7 r_8 (fun r_10 μ_11 => (((μ_11 7 3) ≤ r_10) → b_X1_extend_110 rc G20 Post μ_11 x1 x2 x4) ∧ ((¬ ((μ_11 7 3) ≤ r_10)) → (0 ≤ x1 ∧ x1 < 8) ∧ ∀ μ_14 : Mem, μ_14 = wr μ_11 84 x1.toNat x4 → rc μ_14 (wrap (x1 + 1)) x_7 r_8 (fun _ μ_16 => b_X1_extend_110 rc G20 Post μ_16 x1 x2 x4))))) ∧ ((¬ r_4 = 0) → b_X1_extend_110 rc G20 Post μ_5 x1 x2 x4))))
def b_X1_extend_e (rc : Mem → Int → Int → Int → Pst → Prop) (G20 : Mem → Int → Int → Int → Prop) (Post : Pst) (μ : Mem) (p0 : Int) (p1 : Int) (p2 : Int) : Prop :=
  ((p0 < (μ 1 0)) → G20 μ p0 p1 0) ∧ ((¬ (p0 < (μ 1 0))) → wp_X1_keepIfSooner μ p2 (fun _ μ_19 => Post 0 μ_19))
def wp_X1_extend : Nat → Mem → Int → Int → Int → Pst → Prop
  | 0 => fun _ _ _ _ _ => False
  | d + 1 => fun μ p0 p1 p2 Post => ∀ (G20 : Mem → Int → Int → Int → Prop), (∀ μ x1 x2 x4, b_X1_extend_20 (wp_X1_extend d) G20 Post μ x1 x2 x4 → G20 μ x1 x2 x4) → b_X1_extend_e (wp_X1_extend d) G20 Post μ p0 p1 p2
def b_X4_timeBetween_6 (G6 : Mem → Int → Int → Int → Int → Prop) (Post : Pst) (μ : Mem) (x1 : Int) (x3 : Int) (x4 : Int) (x5 : Int) : Prop :=
  ((x3 ≤ x5) → Post x4 μ) ∧ ((¬ (x3 ≤ x5)) → (0 ≤ x1 ∧ x1 < 8) ∧ (0 ≤ x5 ∧ x5 < 4) ∧ ∀ x_4 : Int, x_4 = wrap (x4 + (μ (32 + x1.toNat) x5.toNat)) → ∀ x_5 : Int, x_5 = wrap (x5 + 1) → G6 μ x1 x3 x_4 x_5)
def b_X4_timeBetween_e (G6 : Mem → Int → Int → Int → Int → Prop) (Post : Pst) (μ : Mem) (p0 : Int) (p1 : Int) (p2 : Int) : Prop :=
  G6 μ p0 p2 0 p1
def wp_X4_timeBetween (μ : Mem) (p0 : Int) (p1 : Int) (p2 : Int) (Post : Pst) : Prop := ∀ (G6 : Mem → Int → Int → Int → Int → Prop), (∀ μ x1 x3 x4 x5, b_X4_timeBetween_6 G6 Post μ x1 x3 x4 x5 → G6 μ x1 x3 x4 x5) → b_X4_timeBetween_e G6 Post μ p0 p1 p2
def b_X4_notSoonerBy_12 (G12 : Mem → Int → Int → Int → Int → Int → Prop) (Post : Pst) (μ : Mem) (x1 : Int) (x2 : Int) (x3 : Int) (x4 : Int) (x5 : Int) : Prop :=
  (((μ 1 0) ≤ x5) → Post (wrap ((wrap (x2 + x3)) + x4)) μ) ∧ ((¬ ((μ 1 0) ≤ x5)) → (0 ≤ x5 ∧ x5 < 8) ∧ (0 ≤ x1 ∧ x1 < 4) ∧ ∀ x_4 : Int, x_4 = wrap (x2 + (μ (32 + x5.toNat) x1.toNat)) → wp_X4_timeBetween μ x5 0 x1 (fun r_5 μ_6 => ∀ x_7 : Int, x_7 = imin x3 r_5 → wp_X4_timeBetween μ_6 x5 (wrap (x1 + 1)) (μ_6 6 1) (fun r_8 μ_9 => ∀ x_10 : Int, x_10 = imin x4 r_8 → ∀ x_11 : Int, x_11 = wrap (x5 + 1) → G12 μ_9 x1 x_4 x_7 x_10 x_11)))
def b_X4_notSoonerBy_e (G12 : Mem → Int → Int → Int → Int → Int → Prop) (Post : Pst) (μ : Mem) (p0 : Int) : Prop :=
  G12 μ p0 0 1000000000 1000000000 0
def wp_X4_notSoonerBy (μ : Mem) (p0 : Int) (Post : Pst) : Prop := ∀ (G12 : Mem → Int → Int → Int → Int → Int → Prop), (∀ μ x1 x2 x3 x4 x5, b_X4_notSoonerBy_12 G12 Post μ x1 x2 x3 x4 x5 → G12 μ x1 x2 x3 x4 x5) → b_X4_notSoonerBy_e G12 Post μ p0
def b_X4_notSooner_4 (G4 : Mem → Int → Int → Prop) (Post : Pst) (μ : Mem) (x1 : Int) (x2 : Int) : Prop :=
  (((μ 6 1) ≤ x2) → Post x1 μ) ∧ ((¬ ((μ 6 1) ≤ x2)) → (((μ 1 0) ≤ 0) → Post x1 μ) ∧ ((¬ ((μ 1 0) ≤ 0)) → wp_X4_notSoonerBy μ x2 (fun r_3 μ_4 => ∀ x_5 : Int, x_5 = imax x1 r_3 → ∀ x_6 : Int, x_6 = wrap (x2 + 1) → G4 μ_4 x_5 x_6)))
def b_X4_notSooner_e (G4 : Mem → Int → Int → Prop) (Post : Pst) (μ : Mem) : Prop :=
  G4 μ 0 0
def wp_X4_notSooner (μ : Mem) (Post : Pst) : Prop := ∀ (G4 : Mem → Int → Int → Prop), (∀ μ x1 x2, b_X4_notSooner_4 G4 Post μ x1 x2 → G4 μ x1 x2) → b_X4_notSooner_e G4 Post μ
def b_X1_seek_2 (G2 : Mem → Int → Prop) (G15 : Mem → Int → Int → Prop) (Post : Pst) (μ : Mem) (x1 : Int) : Prop :=
  (((μ 1 0) ≤ x1) → wp_X4_notSooner μ (fun r_2 μ_3 => ∀ μ_4 : Mem, μ_4 = wr μ_3 7 4 r_2 → ∀ μ_5 : Mem, μ_5 = wr μ_4 7 3 1000000000 → wp_X1_extend 10 μ_5 0 0 0 (fun _ μ_7 => Post 0 μ_7))) ∧ ((¬ ((μ 1 0) ≤ x1)) → G15 μ x1 0)
def b_X1_seek_15 (G2 : Mem → Int → Prop) (G15 : Mem → Int → Int → Prop) (Post : Pst) (μ : Mem) (x1 : Int) (x2 : Int) : Prop :=
  (((μ 6 1) ≤ x2) → ∀ x_9 : Int, x_9 = wrap (x1 + 1) → G2 μ x_9) ∧ ((¬ ((μ 6 1) ≤ x2)) → (0 ≤ x1 ∧ x1 < 8) ∧ wp_X4_timeBetween μ x1 (wrap (x2 + 1)) (μ 6 1) (fun r_11 μ_12 => (0 ≤ x2 ∧ x2 < 4) ∧ ∀ μ_14 : Mem, μ_14 = wr μ_12 (56 + x1.toNat) x2.toNat r_11 → ∀ x_15 : Int, x_15 = wrap (x2 + 1) → G15 μ_14 x1 x_15))
def b_X1_seek_e (G2 : Mem → Int → Prop) (G15 : Mem → Int → Int → Prop) (Post : Pst) (μ : Mem) : Prop :=
  G2 μ 0
def wp_X1_seek (μ : Mem) (Post : Pst) : Prop := ∀ (G2 : Mem → Int → Prop) (G15 : Mem → Int → Int → Prop), (∀ μ x1, b_X1_seek_2 G2 G15 Post μ x1 → G2 μ x1) → (∀ μ x1 x2, b_X1_seek_15 G2 G15 Post μ x1 x2 → G15 μ x1 x2) → b_X1_seek_e G2 G15 Post μ
def b_X10_bestRow_e (Post : Pst) (μ : Mem) (p0 : Int) : Prop :=
  wp_X10_isFrom μ p0 (-1) (wrap ((μ 1 0) - 1)) (fun r_1 μ_2 => ((¬ r_1 = 0) → wp_X1_seek μ_2 (fun _ μ_5 => ((¬ p0 = (-1)) → (0 ≤ p0 ∧ p0 < 8) ∧ Post (μ_5 83 p0.toNat) μ_5) ∧ ((p0 = (-1)) → Post (μ_5 7 3) μ_5))) ∧ ((r_1 = 0) → Post (-10) μ_2))
def wp_X10_bestRow (μ : Mem) (p0 : Int) (Post : Pst) : Prop := b_X10_bestRow_e Post μ p0
def b_X10_bound_e (Post : Pst) (μ : Mem) : Prop :=
  wp_X4_notSooner μ (fun r_1 μ_2 => Post r_1 μ_2)
def wp_X10_bound (μ : Mem) (Post : Pst) : Prop := b_X10_bound_e Post μ
def b_X3_isSooner_e (Post : Pst) (μ : Mem) (p0 : Int) (p1 : Int) : Prop :=
  ((p0 < (μ 5 1)) → Post 1 μ) ∧ ((¬ (p0 < (μ 5 1))) → ((¬ p0 = (μ 5 1)) → Post 0 μ) ∧ ((p0 = (μ 5 1)) → (((μ 5 2) ≤ p1) → Post 0 μ) ∧ ((¬ ((μ 5 2) ≤ p1)) → Post 1 μ)))
def wp_X3_isSooner (μ : Mem) (p0 : Int) (p1 : Int) (Post : Pst) : Prop := b_X3_isSooner_e Post μ p0 p1
def b_X3_over_64 (G5 : Mem → Int → Int → Int → Int → Prop) (Post : Pst) (μ : Mem) (x1 : Int) (x2 : Int) (x3 : Int) (x4 : Int) : Prop :=
  ∀ x_1 : Int, x_1 = wrap (x4 + 1) → G5 μ x1 x2 x3 x_1
def b_X3_over_5 (G5 : Mem → Int → Int → Int → Int → Prop) (Post : Pst) (μ : Mem) (x1 : Int) (x2 : Int) (x3 : Int) (x4 : Int) : Prop :=
  (((μ 1 0) ≤ x4) → ((¬ x3 = 0) → Post (wrap ((wrap (x1 + x3)) - x2)) μ) ∧ ((x3 = 0) → Post (-1000000000) μ)) ∧ ((¬ ((μ 1 0) ≤ x4)) → (0 ≤ x4 ∧ x4 < 8) ∧ (((μ 25 x4.toNat) < x1) → b_X3_over_64 G5 Post μ x1 x2 x3 x4) ∧ ((¬ ((μ 25 x4.toNat) < x1)) → (0 ≤ x4 ∧ x4 < 8) ∧ ((x2 < (μ 26 x4.toNat)) → b_X3_over_64 G5 Post μ x1 x2 x3 x4) ∧ ((¬ (x2 < (μ 26 x4.toNat))) → (0 ≤ x4 ∧ x4 < 8) ∧ ∀ x_9 : Int, x_9 = wrap (x3 + (μ 24 x4.toNat)) → b_X3_over_64 G5 Post μ x1 x2 x_9 x4)))
def b_X3_over_e (G5 : Mem → Int → Int → Int → Int → Prop) (Post : Pst) (μ : Mem) (p0 : Int) (p1 : Int) : Prop :=
  G5 μ p0 p1 0 0
def wp_X3_over (μ : Mem) (p0 : Int) (p1 : Int) (Post : Pst) : Prop := ∀ (G5 : Mem → Int → Int → Int → Int → Prop), (∀ μ x1 x2 x3 x4, b_X3_over_5 G5 Post μ x1 x2 x3 x4 → G5 μ x1 x2 x3 x4) → b_X3_over_e G5 Post μ p0 p1
def b_X3_findWhy_113 (G15 : Mem → Int → Int → Prop) (G28 : Mem → Int → Int → Int → Prop) (Post : Pst) (μ : Mem) (x1 : Int) (x2 : Int) (x3 : Int) : Prop :=
  ∀ x_1 : Int, x_1 = wrap (x3 + 1) → G28 μ x1 x2 x_1
def b_X3_findWhy_98 (G15 : Mem → Int → Int → Prop) (G28 : Mem → Int → Int → Int → Prop) (Post : Pst) (μ : Mem) (x2 : Int) (x3 : Int) (x4 : Int) (x5 : Int) (x6 : Int) : Prop :=
  ∀ μ_2 : Mem, μ_2 = wr μ 5 1 x4 → ∀ μ_3 : Mem, μ_3 = wr μ_2 5 2 x5 → b_X3_findWhy_113 G15 G28 Post μ_3 x6 x2 x3
def b_X3_findWhy_15 (G15 : Mem → Int → Int → Prop) (G28 : Mem → Int → Int → Int → Prop) (Post : Pst) (μ : Mem) (x1 : Int) (x2 : Int) : Prop :=
  (((μ 1 0) ≤ x2) → Post 0 μ) ∧ ((¬ ((μ 1 0) ≤ x2)) → G28 μ x1 x2 0)
def b_X3_findWhy_28 (G15 : Mem → Int → Int → Prop) (G28 : Mem → Int → Int → Int → Prop) (Post : Pst) (μ : Mem) (x1 : Int) (x2 : Int) (x3 : Int) : Prop :=
  (((μ 1 0) ≤ x3) → ∀ x_6 : Int, x_6 = wrap (x2 + 1) → G15 μ x1 x_6) ∧ ((¬ ((μ 1 0) ≤ x3)) → (0 ≤ x2 ∧ x2 < 8) ∧ ∀ x_8 : Int, x_8 = μ 25 x2.toNat → (0 ≤ x3 ∧ x3 < 8) ∧ ∀ x_10 : Int, x_10 = μ 26 x3.toNat → wp_X3_over μ x_8 x_10 (fun r_11 μ_12 => ((x1 < r_11) → b_X3_findWhy_98 G15 G28 Post μ_12 x2 x3 x_8 x_10 r_11) ∧ ((¬ (x1 < r_11)) → ((¬ r_11 = x1) → b_X3_findWhy_113 G15 G28 Post μ_12 x1 x2 x3) ∧ ((r_11 = x1) → wp_X3_isSooner μ_12 x_8 x_10 (fun r_15 μ_16 => ((r_15 = 0) → b_X3_findWhy_113 G15 G28 Post μ_16 x1 x2 x3) ∧ ((¬ r_15 = 0) → b_X3_findWhy_98 G15 G28 Post μ_16 x2 x3 x_8 x_10 r_11))))))
def b_X3_findWhy_e (G15 : Mem → Int → Int → Prop) (G28 : Mem → Int → Int → Int → Prop) (Post : Pst) (μ : Mem) : Prop :=
  ∀ μ_18 : Mem, μ_18 = wr μ 5 1 (-1) → ∀ μ_19 : Mem, μ_19 = wr μ_18 5 2 (-1) → G15 μ_19 (-1000000000) 0
def wp_X3_findWhy (μ : Mem) (Post : Pst) : Prop := ∀ (G15 : Mem → Int → Int → Prop) (G28 : Mem → Int → Int → Int → Prop), (∀ μ x1 x2, b_X3_findWhy_15 G15 G28 Post μ x1 x2 → G15 μ x1 x2) → (∀ μ x1 x2 x3, b_X3_findWhy_28 G15 G28 Post μ x1 x2 x3 → G28 μ x1 x2 x3) → b_X3_findWhy_e G15 G28 Post μ
def b_X3_begin_e (Post : Pst) (μ : Mem) : Prop :=
  ((0 ≤ (0 : Int) ∧ 0 ≤ (0 : Int)) ∧ 0 ≤ (μ 1 0) ∧ (0 : Int) + (μ 1 0) ≤ 8 ∧ (0 : Int) + (μ 1 0) ≤ 8) ∧ ∀ μ_1 : Mem, μ_1 = cpm μ 24 81 (0 : Int).toNat (0 : Int).toNat (μ 1 0).toNat → Post 0 μ_1
def wp_X3_begin (μ : Mem) (Post : Pst) : Prop := b_X3_begin_e Post μ
def b_X3_workOn_83 (G15 : Mem → Int → Nat → Int → Int → Prop) (Post : Pst) (μ : Mem) (x1 : Int) (x2 : Nat) (x3 : Int) (x4 : Int) : Prop :=
  ∀ x_1 : Int, x_1 = wrap (x4 + 1) → G15 μ x1 x2 x3 x_1
def b_X3_workOn_80 (G15 : Mem → Int → Nat → Int → Int → Prop) (Post : Pst) (μ : Mem) (x1 : Int) (x2 : Nat) (x4 : Int) : Prop :=
  b_X3_workOn_83 G15 Post μ x1 x2 x4 x4
def b_X3_workOn_58 (G15 : Mem → Int → Nat → Int → Int → Prop) (Post : Pst) (μ : Mem) (x1 : Int) (x2 : Nat) (x3 : Int) (x4 : Int) (s0 : Int) : Prop :=
  ((s0 = 0) → b_X3_workOn_83 G15 Post μ x1 x2 x3 x4) ∧ ((¬ s0 = 0) → ((x3 = (-1)) → b_X3_workOn_80 G15 Post μ x1 x2 x4) ∧ ((¬ x3 = (-1)) → (24 ≤ x2 ∧ x2 < 112 ∧ 0 ≤ x4 ∧ x4 < len x2) ∧ (24 ≤ x2 ∧ x2 < 112 ∧ 0 ≤ x3 ∧ x3 < len x2) ∧ (((μ x2 x3.toNat) ≤ (μ x2 x4.toNat)) → b_X3_workOn_83 G15 Post μ x1 x2 x3 x4) ∧ ((¬ ((μ x2 x3.toNat) ≤ (μ x2 x4.toNat))) → b_X3_workOn_80 G15 Post μ x1 x2 x4)))
def b_X3_workOn_57 (G15 : Mem → Int → Nat → Int → Int → Prop) (Post : Pst) (μ : Mem) (x1 : Int) (x2 : Nat) (x3 : Int) (x4 : Int) : Prop :=
  b_X3_workOn_58 G15 Post μ x1 x2 x3 x4 0
def b_X3_workOn_15 (G15 : Mem → Int → Nat → Int → Int → Prop) (Post : Pst) (μ : Mem) (x1 : Int) (x2 : Nat) (x3 : Int) (x4 : Int) : Prop :=
  (((μ 1 0) ≤ x4) → ((x3 = (-1)) → Post x3 μ) ∧ ((¬ x3 = (-1)) → (0 ≤ x3 ∧ x3 < 8) ∧ (0 ≤ x3 ∧ x3 < 8) ∧ ∀ μ_11 : Mem, μ_11 = wr μ 81 x3.toNat (wrap ((μ 81 x3.toNat) - 1)) → Post x3 μ_11)) ∧ ((¬ ((μ 1 0) ≤ x4)) → (0 ≤ x4 ∧ x4 < 8) ∧ (((μ 81 x4.toNat) ≤ 0) → b_X3_workOn_57 G15 Post μ x1 x2 x3 x4) ∧ ((¬ ((μ 81 x4.toNat) ≤ 0)) → (0 ≤ x4 ∧ x4 < 8) ∧ ((x1 < (μ 25 x4.toNat)) → b_X3_workOn_57 G15 Post μ x1 x2 x3 x4) ∧ ((¬ (x1 < (μ 25 x4.toNat))) → b_X3_workOn_58 G15 Post μ x1 x2 x3 x4 1)))
def b_X3_workOn_e (G15 : Mem → Int → Nat → Int → Int → Prop) (Post : Pst) (μ : Mem) (p0 : Int) : Prop :=
  G15 μ p0 26 (-1) 0
def wp_X3_workOn (μ : Mem) (p0 : Int) (Post : Pst) : Prop := ∀ (G15 : Mem → Int → Nat → Int → Int → Prop), (∀ μ x1 x2 x3 x4, b_X3_workOn_15 G15 Post μ x1 x2 x3 x4 → G15 μ x1 x2 x3 x4) → b_X3_workOn_e G15 Post μ p0
def b_X3_greatestLate_70 (G16 : Mem → Int → Int → Int → Prop) (Post : Pst) (μ : Mem) (x1 : Int) (x2 : Int) (x3 : Int) : Prop :=
  ∀ x_1 : Int, x_1 = wrap (x3 + 1) → G16 μ x1 x2 x_1
def b_X3_greatestLate_16 (G16 : Mem → Int → Int → Int → Prop) (Post : Pst) (μ : Mem) (x1 : Int) (x2 : Int) (x3 : Int) : Prop :=
  ((999 < x3) → Post x1 μ) ∧ ((¬ (999 < x3)) → ((x2 ≤ 0) → Post x1 μ) ∧ ((¬ (x2 ≤ 0)) → wp_X3_workOn μ x3 (fun r_4 μ_5 => ((r_4 = (-1)) → b_X3_greatestLate_70 G16 Post μ_5 x1 x2 x3) ∧ ((¬ r_4 = (-1)) → (0 ≤ r_4 ∧ r_4 < 8) ∧ ((¬ (μ_5 81 r_4.toNat) = 0) → b_X3_greatestLate_70 G16 Post μ_5 x1 x2 x3) ∧ (((μ_5 81 r_4.toNat) = 0) → wp_X9_late μ_5 r_4 (wrap (x3 + 1)) (fun r_9 μ_10 => ∀ x_11 : Int, x_11 = imax x1 r_9 → ∀ x_12 : Int, x_12 = wrap (x2 + (-1)) → b_X3_greatestLate_70 G16 Post μ_10 x_11 x_12 x3))))))
def b_X3_greatestLate_e (G16 : Mem → Int → Int → Int → Prop) (Post : Pst) (μ : Mem) : Prop :=
  wp_X3_begin μ (fun _ μ_14 => ∀ x_15 : Int, x_15 = μ_14 1 0 → G16 μ_14 0 x_15 0)
def wp_X3_greatestLate (μ : Mem) (Post : Pst) : Prop := ∀ (G16 : Mem → Int → Int → Int → Prop), (∀ μ x1 x2 x3, b_X3_greatestLate_16 G16 Post μ x1 x2 x3 → G16 μ x1 x2 x3) → b_X3_greatestLate_e G16 Post μ
def b_X10_broken_e (Post : Pst) (μ : Mem) (p0 : Int) : Prop :=
  wp_X10_isFrom μ p0 0 2 (fun r_1 μ_2 => ((¬ r_1 = 0) → wp_X3_greatestLate μ_2 (fun r_4 μ_5 => ((¬ p0 = 0) → ((¬ r_4 = 0) → wp_X3_findWhy μ_5 (fun _ μ_9 => ((¬ p0 = 1) → Post (μ_9 5 2) μ_9) ∧ ((p0 = 1) → Post (μ_9 5 1) μ_9))) ∧ ((r_4 = 0) → Post (-1) μ_5)) ∧ ((p0 = 0) → Post r_4 μ_5))) ∧ ((r_1 = 0) → Post (-2) μ_2))
def wp_X10_broken (μ : Mem) (p0 : Int) (Post : Pst) : Prop := b_X10_broken_e Post μ p0
def b_X5_lastEnd_6 (G6 : Mem → Int → Int → Int → Prop) (Post : Pst) (μ : Mem) (x1 : Int) (x2 : Int) (x3 : Int) : Prop :=
  (((μ 1 0) ≤ x3) → Post x2 μ) ∧ ((¬ ((μ 1 0) ≤ x3)) → (0 ≤ x3 ∧ x3 < 8) ∧ (0 ≤ (μ 85 x3.toNat) ∧ (μ 85 x3.toNat) < 8) ∧ ∀ x_4 : Int, x_4 = wrap (x1 + (μ (32 + (μ 85 x3.toNat).toNat) 0)) → (0 ≤ x3 ∧ x3 < 8) ∧ (0 ≤ (μ 85 x3.toNat) ∧ (μ 85 x3.toNat) < 8) ∧ ∀ x_7 : Int, x_7 = wrap ((imax x_4 x2) + (μ (32 + (μ 85 x3.toNat).toNat) 1)) → ∀ x_8 : Int, x_8 = wrap (x3 + 1) → G6 μ x_4 x_7 x_8)
def b_X5_lastEnd_e (G6 : Mem → Int → Int → Int → Prop) (Post : Pst) (μ : Mem) : Prop :=
  G6 μ 0 0 0
def wp_X5_lastEnd (μ : Mem) (Post : Pst) : Prop := ∀ (G6 : Mem → Int → Int → Int → Prop), (∀ μ x1 x2 x3, b_X5_lastEnd_6 G6 Post μ x1 x2 x3 → G6 μ x1 x2 x3) → b_X5_lastEnd_e G6 Post μ
def b_X5_isShorterFirst_e (Post : Pst) (μ : Mem) (p0 : Int) : Prop :=
  (0 ≤ p0 ∧ p0 < 8) ∧ (0 ≤ p0 ∧ p0 < 8) ∧ (((μ (32 + p0.toNat) 1) ≤ (μ (32 + p0.toNat) 0)) → Post 0 μ) ∧ ((¬ ((μ (32 + p0.toNat) 1) ≤ (μ (32 + p0.toNat) 0))) → Post 1 μ)
def wp_X5_isShorterFirst (μ : Mem) (p0 : Int) (Post : Pst) : Prop := b_X5_isShorterFirst_e Post μ p0
def b_X5_goesAhead_e (Post : Pst) (μ : Mem) (p0 : Int) (p1 : Int) : Prop :=
  wp_X5_isShorterFirst μ p0 (fun r_1 μ_2 => wp_X5_isShorterFirst μ_2 p1 (fun r_3 μ_4 => ((r_1 = r_3) → wp_X5_isShorterFirst μ_4 p0 (fun r_6 μ_7 => ((r_6 = 0) → (0 ≤ p0 ∧ p0 < 8) ∧ (0 ≤ p1 ∧ p1 < 8) ∧ (((μ_7 (32 + p0.toNat) 1) ≤ (μ_7 (32 + p1.toNat) 1)) → Post 0 μ_7) ∧ ((¬ ((μ_7 (32 + p0.toNat) 1) ≤ (μ_7 (32 + p1.toNat) 1))) → Post 1 μ_7)) ∧ ((¬ r_6 = 0) → (0 ≤ p0 ∧ p0 < 8) ∧ (0 ≤ p1 ∧ p1 < 8) ∧ (((μ_7 (32 + p1.toNat) 0) ≤ (μ_7 (32 + p0.toNat) 0)) → Post 0 μ_7) ∧ ((¬ ((μ_7 (32 + p1.toNat) 0) ≤ (μ_7 (32 + p0.toNat) 0))) → Post 1 μ_7)))) ∧ ((¬ r_1 = r_3) → wp_X5_isShorterFirst μ_4 p0 (fun r_15 μ_16 => ((r_15 = 0 ∨ r_15 = 1) ∧ Post r_15 μ_16)))))
def wp_X5_goesAhead (μ : Mem) (p0 : Int) (p1 : Int) (Post : Pst) : Prop := b_X5_goesAhead_e Post μ p0 p1
def b_X5_putInOrder_55 (G2 : Mem → Int → Prop) (G15 : Mem → Int → Int → Prop) (Post : Pst) (μ : Mem) (x1 : Int) (x2 : Int) : Prop :=
  (0 ≤ x2 ∧ x2 < 8) ∧ ∀ μ_2 : Mem, μ_2 = wr μ 85 x2.toNat x1 → ∀ x_3 : Int, x_3 = wrap (x1 + 1) → G2 μ_2 x_3
def b_X5_putInOrder_2 (G2 : Mem → Int → Prop) (G15 : Mem → Int → Int → Prop) (Post : Pst) (μ : Mem) (x1 : Int) : Prop :=
  (((μ 1 0) ≤ x1) → Post 0 μ) ∧ ((¬ ((μ 1 0) ≤ x1)) → G15 μ x1 x1)
def b_X5_putInOrder_15 (G2 : Mem → Int → Prop) (G15 : Mem → Int → Int → Prop) (Post : Pst) (μ : Mem) (x1 : Int) (x2 : Int) : Prop :=
  ((x2 ≤ 0) → b_X5_putInOrder_55 G2 G15 Post μ x1 x2) ∧ ((¬ (x2 ≤ 0)) → (0 ≤ (wrap (x2 - 1)) ∧ (wrap (x2 - 1)) < 8) ∧ wp_X5_goesAhead μ x1 (μ 85 (wrap (x2 - 1)).toNat) (fun r_7 μ_8 => ((r_7 = 0) → b_X5_putInOrder_55 G2 G15 Post μ_8 x1 x2) ∧ ((¬ r_7 = 0) → (0 ≤ (wrap (x2 - 1)) ∧ (wrap (x2 - 1)) < 8) ∧ (0 ≤ x2 ∧ x2 < 8) ∧ ∀ μ_12 : Mem, μ_12 = wr μ_8 85 x2.toNat (μ_8 85 (wrap (x2 - 1)).toNat) → ∀ x_13 : Int, x_13 = wrap (x2 + (-1)) → G15 μ_12 x1 x_13)))
def b_X5_putInOrder_e (G2 : Mem → Int → Prop) (G15 : Mem → Int → Int → Prop) (Post : Pst) (μ : Mem) : Prop :=
  G2 μ 0
def wp_X5_putInOrder (μ : Mem) (Post : Pst) : Prop := ∀ (G2 : Mem → Int → Prop) (G15 : Mem → Int → Int → Prop), (∀ μ x1, b_X5_putInOrder_2 G2 G15 Post μ x1 → G2 μ x1) → (∀ μ x1 x2, b_X5_putInOrder_15 G2 G15 Post μ x1 x2 → G15 μ x1 x2) → b_X5_putInOrder_e G2 G15 Post μ
def b_X10_byRule_e (Post : Pst) (μ : Mem) (p0 : Int) : Prop :=
  wp_X10_isFrom μ p0 (-1) (wrap ((μ 1 0) - 1)) (fun r_1 μ_2 => ((¬ r_1 = 0) → wp_X5_putInOrder μ_2 (fun _ μ_5 => ((¬ p0 = (-1)) → (0 ≤ p0 ∧ p0 < 8) ∧ Post (μ_5 85 p0.toNat) μ_5) ∧ ((p0 = (-1)) → wp_X5_lastEnd μ_5 (fun r_8 μ_9 => Post r_8 μ_9)))) ∧ ((r_1 = 0) → Post (-10) μ_2))
def wp_X10_byRule (μ : Mem) (p0 : Int) (Post : Pst) : Prop := b_X10_byRule_e Post μ p0
def b_X10_change_e (Post : Pst) (μ : Mem) (p0 : Int) (p1 : Int) (p2 : Int) : Prop :=
  wp_X10_isFrom μ p0 0 2 (fun r_1 μ_2 => ((r_1 = 0) → Post (-2) μ_2) ∧ ((¬ r_1 = 0) → wp_X10_isFrom μ_2 p1 0 2 (fun r_4 μ_5 => ((r_4 = 0) → Post (-2) μ_5) ∧ ((¬ r_4 = 0) → ((p0 = p1) → Post (-2) μ_5) ∧ ((¬ p0 = p1) → wp_X10_isFrom μ_5 p2 0 20 (fun r_8 μ_9 => ((¬ r_8 = 0) → (0 ≤ p0 ∧ p0 < 3) ∧ (0 ≤ p1 ∧ p1 < 3) ∧ ∀ x_13 : Int, x_13 = μ_9 (29 + p0.toNat) p1.toNat → (0 ≤ p0 ∧ p0 < 3) ∧ (0 ≤ p1 ∧ p1 < 3) ∧ ∀ μ_16 : Mem, μ_16 = wr μ_9 (29 + p0.toNat) p1.toNat p2 → Post x_13 μ_16) ∧ ((r_8 = 0) → Post (-2) μ_9)))))))
def wp_X10_change (μ : Mem) (p0 : Int) (p1 : Int) (p2 : Int) (Post : Pst) : Prop := b_X10_change_e Post μ p0 p1 p2
def b_X8_empty_e (Post : Pst) (μ : Mem) : Prop :=
  ∀ x_1 : Int, x_1 = wrap ((μ 86 0) + (μ 86 1)) → ∀ μ_2 : Mem, μ_2 = wr μ 86 0 0 → ∀ μ_3 : Mem, μ_3 = wr μ_2 86 1 0 → Post x_1 μ_3
def wp_X8_empty (μ : Mem) (Post : Pst) : Prop := b_X8_empty_e Post μ
def b_X10_clear_e (Post : Pst) (μ : Mem) : Prop :=
  wp_X8_empty μ (fun r_1 μ_2 => Post r_1 μ_2)
def wp_X10_clear (μ : Mem) (Post : Pst) : Prop := b_X10_clear_e Post μ
def b_X10_count_e (Post : Pst) (μ : Mem) (p0 : Int) : Prop :=
  ((p0 < 0 ∨ 4 < p0) → Post (-2) μ) ∧ ((p0 = 0) → Post (μ 1 0) μ) ∧ ((p0 = 1) → Post (μ 2 0) μ) ∧ ((p0 = 2) → Post (μ 86 0) μ) ∧ ((p0 = 3) → Post (μ 86 1) μ) ∧ ((p0 = 4) → Post (μ 10 0) μ)
def wp_X10_count (μ : Mem) (p0 : Int) (Post : Pst) : Prop := b_X10_count_e Post μ p0
def b_X10_fold_e (Post : Pst) (μ : Mem) (p0 : Int) (p1 : Int) : Prop :=
  Post (wrapL ((wrapL (31 * p0)) + p1)) μ
def wp_X10_fold (μ : Mem) (p0 : Int) (p1 : Int) (Post : Pst) : Prop := b_X10_fold_e Post μ p0 p1
def b_X4_foldInto_11 (G11 : Mem → Int → Int → Prop) (Post : Pst) (μ : Mem) (x1 : Int) (x3 : Int) : Prop :=
  ((4 ≤ x3) → Post x1 μ) ∧ ((¬ (4 ≤ x3)) → (0 ≤ x3 ∧ x3 < 4) ∧ wp_X10_fold μ x1 (μ 82 x3.toNat) (fun r_3 μ_4 => ∀ x_5 : Int, x_5 = wrap (x3 + 1) → G11 μ_4 r_3 x_5))
def b_X4_foldInto_e (G11 : Mem → Int → Int → Prop) (Post : Pst) (μ : Mem) (p0 : Int) : Prop :=
  wp_X10_fold μ p0 (μ 6 1) (fun r_6 μ_7 => G11 μ_7 r_6 1)
def wp_X4_foldInto (μ : Mem) (p0 : Int) (Post : Pst) : Prop := ∀ (G11 : Mem → Int → Int → Prop), (∀ μ x1 x3, b_X4_foldInto_11 G11 Post μ x1 x3 → G11 μ x1 x3) → b_X4_foldInto_e G11 Post μ p0
def b_X6_foldInto_2 (G2 : Mem → Int → Int → Prop) (Post : Pst) (μ : Mem) (x1 : Int) (x3 : Int) : Prop :=
  (((μ 2 0) ≤ x3) → Post x1 μ) ∧ ((¬ ((μ 2 0) ≤ x3)) → (0 ≤ x3 ∧ x3 < 8) ∧ wp_X10_fold μ x1 (μ 75 x3.toNat) (fun r_3 μ_4 => ∀ x_5 : Int, x_5 = wrap (x3 + 1) → G2 μ_4 r_3 x_5))
def b_X6_foldInto_e (G2 : Mem → Int → Int → Prop) (Post : Pst) (μ : Mem) (p0 : Int) : Prop :=
  G2 μ p0 0
def wp_X6_foldInto (μ : Mem) (p0 : Int) (Post : Pst) : Prop := ∀ (G2 : Mem → Int → Int → Prop), (∀ μ x1 x3, b_X6_foldInto_2 G2 Post μ x1 x3 → G2 μ x1 x3) → b_X6_foldInto_e G2 Post μ p0
def b_X7_foldInto_2 (G2 : Mem → Int → Int → Prop) (Post : Pst) (μ : Mem) (x1 : Int) (x3 : Int) : Prop :=
  (((μ 10 0) ≤ x3) → wp_X10_fold μ x1 (μ 10 1) (fun r_2 μ_3 => Post r_2 μ_3)) ∧ ((¬ ((μ 10 0) ≤ x3)) → (0 ≤ x3 ∧ x3 < 12) ∧ wp_X10_fold μ x1 (μ 88 x3.toNat) (fun r_5 μ_6 => ∀ x_7 : Int, x_7 = wrap (x3 + 1) → G2 μ_6 r_5 x_7))
def b_X7_foldInto_e (G2 : Mem → Int → Int → Prop) (Post : Pst) (μ : Mem) (p0 : Int) : Prop :=
  G2 μ p0 0
def wp_X7_foldInto (μ : Mem) (p0 : Int) (Post : Pst) : Prop := ∀ (G2 : Mem → Int → Int → Prop), (∀ μ x1 x3, b_X7_foldInto_2 G2 Post μ x1 x3 → G2 μ x1 x3) → b_X7_foldInto_e G2 Post μ p0
def b_X8_foldInto_2 (G2 : Mem → Int → Int → Prop) (G10 : Mem → Int → Int → Int → Prop) (Post : Pst) (μ : Mem) (x1 : Int) (x3 : Int) : Prop :=
  ((2 ≤ x3) → Post x1 μ) ∧ ((¬ (2 ≤ x3)) → G10 μ x1 x3 0)
def b_X8_foldInto_10 (G2 : Mem → Int → Int → Prop) (G10 : Mem → Int → Int → Int → Prop) (Post : Pst) (μ : Mem) (x1 : Int) (x3 : Int) (x4 : Int) : Prop :=
  (0 ≤ x3 ∧ x3 < 2) ∧ (((μ 86 x3.toNat) ≤ x4) → ∀ x_4 : Int, x_4 = wrap (x3 + 1) → G2 μ x1 x_4) ∧ ((¬ ((μ 86 x3.toNat) ≤ x4)) → (0 ≤ x3 ∧ x3 < 2) ∧ (0 ≤ x4 ∧ x4 < 6) ∧ wp_X10_fold μ x1 (μ (64 + x3.toNat) x4.toNat) (fun r_7 μ_8 => (0 ≤ x3 ∧ x3 < 2) ∧ (0 ≤ x4 ∧ x4 < 6) ∧ wp_X10_fold μ_8 r_7 (μ_8 (66 + x3.toNat) x4.toNat) (fun r_11 μ_12 => ∀ x_13 : Int, x_13 = wrap (x4 + 1) → G10 μ_12 r_11 x3 x_13)))
def b_X8_foldInto_e (G2 : Mem → Int → Int → Prop) (G10 : Mem → Int → Int → Int → Prop) (Post : Pst) (μ : Mem) (p0 : Int) : Prop :=
  G2 μ p0 0
def wp_X8_foldInto (μ : Mem) (p0 : Int) (Post : Pst) : Prop := ∀ (G2 : Mem → Int → Int → Prop) (G10 : Mem → Int → Int → Int → Prop), (∀ μ x1 x3, b_X8_foldInto_2 G2 G10 Post μ x1 x3 → G2 μ x1 x3) → (∀ μ x1 x3 x4, b_X8_foldInto_10 G2 G10 Post μ x1 x3 x4 → G10 μ x1 x3 x4) → b_X8_foldInto_e G2 G10 Post μ p0
def b_X9_foldInto_2 (G2 : Mem → Int → Int → Prop) (G13 : Mem → Int → Int → Int → Prop) (G53 : Mem → Int → Int → Int → Prop) (G87 : Mem → Int → Int → Prop) (G95 : Mem → Int → Int → Int → Prop) (Post : Pst) (μ : Mem) (x1 : Int) (x3 : Int) : Prop :=
  (((μ 1 0) ≤ x3) → G87 μ x1 0) ∧ ((¬ ((μ 1 0) ≤ x3)) → G13 μ x1 x3 0)
def b_X9_foldInto_13 (G2 : Mem → Int → Int → Prop) (G13 : Mem → Int → Int → Int → Prop) (G53 : Mem → Int → Int → Int → Prop) (G87 : Mem → Int → Int → Prop) (G95 : Mem → Int → Int → Int → Prop) (Post : Pst) (μ : Mem) (x1 : Int) (x3 : Int) (x4 : Int) : Prop :=
  ((5 ≤ x4) → (0 ≤ x3 ∧ x3 < 8) ∧ wp_X10_fold μ x1 (μ 74 x3.toNat) (fun r_4 μ_5 => G53 μ_5 r_4 x3 0)) ∧ ((¬ (5 ≤ x4)) → (0 ≤ x4 ∧ x4 < 5) ∧ (0 ≤ x3 ∧ x3 < 8) ∧ wp_X10_fold μ x1 (μ (24 + x4.toNat) x3.toNat) (fun r_8 μ_9 => ∀ x_10 : Int, x_10 = wrap (x4 + 1) → G13 μ_9 r_8 x3 x_10))
def b_X9_foldInto_53 (G2 : Mem → Int → Int → Prop) (G13 : Mem → Int → Int → Int → Prop) (G53 : Mem → Int → Int → Int → Prop) (G87 : Mem → Int → Int → Prop) (G95 : Mem → Int → Int → Int → Prop) (Post : Pst) (μ : Mem) (x1 : Int) (x3 : Int) (x4 : Int) : Prop :=
  ((4 ≤ x4) → ∀ x_12 : Int, x_12 = wrap (x3 + 1) → G2 μ x1 x_12) ∧ ((¬ (4 ≤ x4)) → (0 ≤ x3 ∧ x3 < 8) ∧ (0 ≤ x4 ∧ x4 < 4) ∧ wp_X10_fold μ x1 (μ (32 + x3.toNat) x4.toNat) (fun r_15 μ_16 => ∀ x_17 : Int, x_17 = wrap (x4 + 1) → G53 μ_16 r_15 x3 x_17))
def b_X9_foldInto_87 (G2 : Mem → Int → Int → Prop) (G13 : Mem → Int → Int → Int → Prop) (G53 : Mem → Int → Int → Int → Prop) (G87 : Mem → Int → Int → Prop) (G95 : Mem → Int → Int → Int → Prop) (Post : Pst) (μ : Mem) (x1 : Int) (x3 : Int) : Prop :=
  ((3 ≤ x3) → Post x1 μ) ∧ ((¬ (3 ≤ x3)) → G95 μ x1 x3 0)
def b_X9_foldInto_95 (G2 : Mem → Int → Int → Prop) (G13 : Mem → Int → Int → Int → Prop) (G53 : Mem → Int → Int → Int → Prop) (G87 : Mem → Int → Int → Prop) (G95 : Mem → Int → Int → Int → Prop) (Post : Pst) (μ : Mem) (x1 : Int) (x3 : Int) (x4 : Int) : Prop :=
  ((3 ≤ x4) → ∀ x_20 : Int, x_20 = wrap (x3 + 1) → G87 μ x1 x_20) ∧ ((¬ (3 ≤ x4)) → (0 ≤ x3 ∧ x3 < 3) ∧ (0 ≤ x4 ∧ x4 < 3) ∧ wp_X10_fold μ x1 (μ (29 + x3.toNat) x4.toNat) (fun r_23 μ_24 => ∀ x_25 : Int, x_25 = wrap (x4 + 1) → G95 μ_24 r_23 x3 x_25))
def b_X9_foldInto_e (G2 : Mem → Int → Int → Prop) (G13 : Mem → Int → Int → Int → Prop) (G53 : Mem → Int → Int → Int → Prop) (G87 : Mem → Int → Int → Prop) (G95 : Mem → Int → Int → Int → Prop) (Post : Pst) (μ : Mem) (p0 : Int) : Prop :=
  G2 μ p0 0
def wp_X9_foldInto (μ : Mem) (p0 : Int) (Post : Pst) : Prop := ∀ (G2 : Mem → Int → Int → Prop) (G13 : Mem → Int → Int → Int → Prop) (G53 : Mem → Int → Int → Int → Prop) (G87 : Mem → Int → Int → Prop) (G95 : Mem → Int → Int → Int → Prop), (∀ μ x1 x3, b_X9_foldInto_2 G2 G13 G53 G87 G95 Post μ x1 x3 → G2 μ x1 x3) → (∀ μ x1 x3 x4, b_X9_foldInto_13 G2 G13 G53 G87 G95 Post μ x1 x3 x4 → G13 μ x1 x3 x4) → (∀ μ x1 x3 x4, b_X9_foldInto_53 G2 G13 G53 G87 G95 Post μ x1 x3 x4 → G53 μ x1 x3 x4) → (∀ μ x1 x3, b_X9_foldInto_87 G2 G13 G53 G87 G95 Post μ x1 x3 → G87 μ x1 x3) → (∀ μ x1 x3 x4, b_X9_foldInto_95 G2 G13 G53 G87 G95 Post μ x1 x3 x4 → G95 μ x1 x3 x4) → b_X9_foldInto_e G2 G13 G53 G87 G95 Post μ p0
def b_X10_digest_6 (G6 : Mem → Int → Int → Prop) (Post : Pst) (μ : Mem) (x1 : Int) (x3 : Int) : Prop :=
  ((5 ≤ x3) → wp_X9_foldInto μ x1 (fun r_2 μ_3 => wp_X6_foldInto μ_3 r_2 (fun r_4 μ_5 => wp_X4_foldInto μ_5 r_4 (fun r_6 μ_7 => wp_X8_foldInto μ_7 r_6 (fun r_8 μ_9 => wp_X7_foldInto μ_9 r_8 (fun r_10 μ_11 => Post r_10 μ_11)))))) ∧ ((¬ (5 ≤ x3)) → wp_X10_count μ x3 (fun r_12 μ_13 => wp_X10_fold μ_13 x1 r_12 (fun r_14 μ_15 => ∀ x_16 : Int, x_16 = wrap (x3 + 1) → G6 μ_15 r_14 x_16)))
def b_X10_digest_e (G6 : Mem → Int → Int → Prop) (Post : Pst) (μ : Mem) : Prop :=
  G6 μ 401 0
def wp_X10_digest (μ : Mem) (Post : Pst) : Prop := ∀ (G6 : Mem → Int → Int → Prop), (∀ μ x1 x3, b_X10_digest_6 G6 Post μ x1 x3 → G6 μ x1 x3) → b_X10_digest_e G6 Post μ
def b_X7_empty_e (Post : Pst) (μ : Mem) : Prop :=
  ∀ x_1 : Int, x_1 = μ 10 0 → ∀ μ_2 : Mem, μ_2 = wr μ 10 0 0 → Post x_1 μ_2
def wp_X7_empty (μ : Mem) (Post : Pst) : Prop := b_X7_empty_e Post μ
def b_X10_fell_e (Post : Pst) (μ : Mem) : Prop :=
  wp_X7_empty μ (fun r_1 μ_2 => Post r_1 μ_2)
def wp_X10_fell (μ : Mem) (Post : Pst) : Prop := b_X10_fell_e Post μ
def b_X4_lastEnd_4 (G4 : Mem → Int → Int → Prop) (Post : Pst) (μ : Mem) (x2 : Int) (x3 : Int) : Prop :=
  (((μ 1 0) ≤ x3) → Post x2 μ) ∧ ((¬ ((μ 1 0) ≤ x3)) → (0 ≤ x3 ∧ x3 < 8) ∧ wp_X4_send μ x3 (μ 75 x3.toNat) (fun r_3 μ_4 => ∀ x_5 : Int, x_5 = wrap (x3 + 1) → G4 μ_4 r_3 x_5))
def b_X4_lastEnd_e (G4 : Mem → Int → Int → Prop) (Post : Pst) (μ : Mem) : Prop :=
  G4 μ 0 0
def wp_X4_lastEnd (μ : Mem) (Post : Pst) : Prop := ∀ (G4 : Mem → Int → Int → Prop), (∀ μ x2 x3, b_X4_lastEnd_4 G4 Post μ x2 x3 → G4 μ x2 x3) → b_X4_lastEnd_e G4 Post μ
def b_X9_keepsAhead_4 (G4 : Mem → Int → Int → Prop) (Post : Pst) (μ : Mem) (x2 : Int) (x3 : Int) : Prop :=
  (((μ 1 0) ≤ x3) → Post 1 μ) ∧ ((¬ ((μ 1 0) ≤ x3)) → (0 ≤ x3 ∧ x3 < 8) ∧ wp_X9_mayFollow μ x2 (μ 75 x3.toNat) (fun r_3 μ_4 => ((¬ r_3 = 0) → (0 ≤ x3 ∧ x3 < 8) ∧ ∀ x_7 : Int, x_7 = ior x2 (ishl 1 (μ_4 75 x3.toNat)) → ∀ x_8 : Int, x_8 = wrap (x3 + 1) → G4 μ_4 x_7 x_8) ∧ ((r_3 = 0) → Post 0 μ_4)))
def b_X9_keepsAhead_e (G4 : Mem → Int → Int → Prop) (Post : Pst) (μ : Mem) : Prop :=
  G4 μ 0 0
def wp_X9_keepsAhead (μ : Mem) (Post : Pst) : Prop := ∀ (G4 : Mem → Int → Int → Prop), (∀ μ x2 x3, b_X9_keepsAhead_4 G4 Post μ x2 x3 → G4 μ x2 x3) → b_X9_keepsAhead_e G4 Post μ
def b_X9_makes_11 (G11 : Mem → Int → Int → Int → Int → Int → Prop) (Post : Pst) (μ : Mem) (x1 : Int) (x3 : Int) (x4 : Int) (x5 : Int) (x6 : Int) : Prop :=
  (((μ 1 0) ≤ x6) → Post x3 μ) ∧ ((¬ ((μ 1 0) ≤ x6)) → (0 ≤ x6 ∧ x6 < 8) ∧ ∀ x_3 : Int, x_3 = μ 75 x6.toNat → wp_X9_changeFor μ x5 x_3 (fun r_4 μ_5 => wp_X9_endBehind μ_5 (wrap (x4 + r_4)) x_3 (fun r_6 μ_7 => wp_X9_gathered μ_7 x1 x3 x_3 r_6 (fun r_8 μ_9 => (0 ≤ x_3 ∧ x_3 < 8) ∧ ∀ x_11 : Int, x_11 = μ_9 28 x_3.toNat → ∀ x_12 : Int, x_12 = wrap (x6 + 1) → G11 μ_9 x1 r_8 r_6 x_11 x_12))))
def b_X9_makes_e (G11 : Mem → Int → Int → Int → Int → Int → Prop) (Post : Pst) (μ : Mem) (p0 : Int) : Prop :=
  G11 μ p0 0 0 (-1) 0
def wp_X9_makes (μ : Mem) (p0 : Int) (Post : Pst) : Prop := ∀ (G11 : Mem → Int → Int → Int → Int → Int → Prop), (∀ μ x1 x3 x4 x5 x6, b_X9_makes_11 G11 Post μ x1 x3 x4 x5 x6 → G11 μ x1 x3 x4 x5 x6) → b_X9_makes_e G11 Post μ p0
def b_X10_judge_e (Post : Pst) (μ : Mem) (p0 : Int) : Prop :=
  wp_X10_isFrom μ p0 0 5 (fun r_1 μ_2 => ((¬ r_1 = 0) → (((μ_2 2 0) = (μ_2 1 0)) → ((¬ p0 = 5) → wp_X9_keepsAhead μ_2 (fun r_6 μ_7 => ((r_6 = 0) → Post (-20) μ_7) ∧ ((¬ r_6 = 0) → wp_X9_makes μ_7 p0 (fun r_9 μ_10 => Post r_9 μ_10)))) ∧ ((p0 = 5) → wp_X4_lastEnd μ_2 (fun r_11 μ_12 => Post r_11 μ_12))) ∧ ((¬ (μ_2 2 0) = (μ_2 1 0)) → Post (-20) μ_2)) ∧ ((r_1 = 0) → Post (-10) μ_2))
def wp_X10_judge (μ : Mem) (p0 : Int) (Post : Pst) : Prop := b_X10_judge_e Post μ p0
def b_X10_lastFirst_e (Post : Pst) (μ : Mem) (p0 : Int) : Prop :=
  wp_X10_isFrom μ p0 (-1) (wrap ((μ 1 0) - 1)) (fun r_1 μ_2 => ((¬ r_1 = 0) → wp_X0_orderFromBehind μ_2 (fun _ μ_5 => ((¬ p0 = (-1)) → (0 ≤ p0 ∧ p0 < 8) ∧ Post (μ_5 80 p0.toNat) μ_5) ∧ ((p0 = (-1)) → Post (μ_5 4 2) μ_5))) ∧ ((r_1 = 0) → Post (-10) μ_2))
def wp_X10_lastFirst (μ : Mem) (p0 : Int) (Post : Pst) : Prop := b_X10_lastFirst_e Post μ p0
def b_X7_add_34 (Post : Pst) (μ : Mem) (x2 : Int) (s1 : Int) (s2 : Int) : Prop :=
  (0 ≤ s1 ∧ s1 < 12) ∧ ∀ μ_2 : Mem, μ_2 = wr μ 89 s1.toNat s2 → ∀ μ_3 : Mem, μ_3 = wr μ_2 10 0 (wrap ((μ_2 10 0) + 1)) → Post x2 μ_3
def b_X7_add_e (Post : Pst) (μ : Mem) (p0 : Int) : Prop :=
  ∀ x_4 : Int, x_4 = μ 10 0 → (0 ≤ x_4 ∧ x_4 < 12) ∧ ∀ μ_6 : Mem, μ_6 = wr μ 88 x_4.toNat p0 → ((¬ p0 = (-1)) → (0 ≤ p0 ∧ p0 < 12) ∧ b_X7_add_34 Post μ_6 x_4 x_4 (wrap ((μ_6 89 p0.toNat) + 1))) ∧ ((p0 = (-1)) → b_X7_add_34 Post μ_6 x_4 x_4 1)
def wp_X7_add (μ : Mem) (p0 : Int) (Post : Pst) : Prop := b_X7_add_e Post μ p0
def b_X10_leaf_e (Post : Pst) (μ : Mem) (p0 : Int) : Prop :=
  wp_X10_isFrom μ p0 (-1) (wrap ((μ 10 0) - 1)) (fun r_1 μ_2 => ((¬ r_1 = 0) → (((μ_2 10 0) < 12) → wp_X7_add μ_2 p0 (fun r_5 μ_6 => Post r_5 μ_6)) ∧ ((¬ ((μ_2 10 0) < 12)) → Post (-4) μ_2)) ∧ ((r_1 = 0) → Post (-2) μ_2))
def wp_X10_leaf (μ : Mem) (p0 : Int) (Post : Pst) : Prop := b_X10_leaf_e Post μ p0
def b_X7_all_e (Post : Pst) (μ : Mem) : Prop :=
  Post (wrap ((ishl 1 (μ 10 0)) - 1)) μ
def wp_X7_all (μ : Mem) (Post : Pst) : Prop := b_X7_all_e Post μ
def b_X7_freeBehind_41 (G4 : Mem → Int → Int → Int → Prop) (Post : Pst) (μ : Mem) (x1 : Int) (x2 : Int) (x3 : Int) : Prop :=
  ∀ x_1 : Int, x_1 = wrap (x3 + 1) → G4 μ x1 x2 x_1
def b_X7_freeBehind_4 (G4 : Mem → Int → Int → Int → Prop) (Post : Pst) (μ : Mem) (x1 : Int) (x2 : Int) (x3 : Int) : Prop :=
  (((μ 10 0) ≤ x3) → wp_X7_all μ (fun r_3 μ_4 => Post (iand (iand r_3 (ixor x1 (-1))) (ixor x2 (-1))) μ_4)) ∧ ((¬ ((μ 10 0) ≤ x3)) → wp_X10_isIn μ x1 x3 (fun r_5 μ_6 => ((¬ r_5 = 0) → b_X7_freeBehind_41 G4 Post μ_6 x1 x2 x3) ∧ ((r_5 = 0) → (0 ≤ x3 ∧ x3 < 12) ∧ (((μ_6 88 x3.toNat) = (-1)) → b_X7_freeBehind_41 G4 Post μ_6 x1 x2 x3) ∧ ((¬ (μ_6 88 x3.toNat) = (-1)) → (0 ≤ x3 ∧ x3 < 12) ∧ ∀ x_11 : Int, x_11 = ior x2 (ishl 1 (μ_6 88 x3.toNat)) → b_X7_freeBehind_41 G4 Post μ_6 x1 x_11 x3))))
def b_X7_freeBehind_e (G4 : Mem → Int → Int → Int → Prop) (Post : Pst) (μ : Mem) (p0 : Int) : Prop :=
  G4 μ p0 0 0
def wp_X7_freeBehind (μ : Mem) (p0 : Int) (Post : Pst) : Prop := ∀ (G4 : Mem → Int → Int → Int → Prop), (∀ μ x1 x2 x3, b_X7_freeBehind_4 G4 Post μ x1 x2 x3 → G4 μ x1 x2 x3) → b_X7_freeBehind_e G4 Post μ p0
def b_X7_takeFrom_76 (rc : Mem → Int → Int → Int → Int → Pst → Prop) (G29 : Mem → Int → Int → Int → Int → Int → Prop) (Post : Pst) (μ : Mem) (x1 : Int) (x3 : Int) (x4 : Int) (x5 : Int) (x6 : Int) : Prop :=
  ∀ x_1 : Int, x_1 = wrap (x6 + 1) → G29 μ x1 x3 x4 x5 x_1
def b_X7_takeFrom_29 (rc : Mem → Int → Int → Int → Int → Pst → Prop) (G29 : Mem → Int → Int → Int → Int → Int → Prop) (Post : Pst) (μ : Mem) (x1 : Int) (x3 : Int) (x4 : Int) (x5 : Int) (x6 : Int) : Prop :=
  (((μ 10 0) ≤ x6) → Post 0 μ) ∧ ((¬ ((μ 10 0) ≤ x6)) → wp_X10_isIn μ x5 x6 (fun r_3 μ_4 => ((r_3 = 0) → b_X7_takeFrom_76 rc G29 Post μ_4 x1 x3 x4 x5 x6) ∧ ((¬ r_3 = 0) → ∀ x_6 : Int, x_6 = iand x5 (ixor (ishl 1 x6) (-1)) → rc μ_4 (ior x1 (ishl 1 x6)) x_6 (wrap (x3 - 1)) x4 (fun _ μ_8 => b_X7_takeFrom_76 rc G29 Post μ_8 x1 x3 x4 x_6 x6))))
def b_X7_takeFrom_e (rc : Mem → Int → Int → Int → Int → Pst → Prop) (G29 : Mem → Int → Int → Int → Int → Int → Prop) (Post : Pst) (μ : Mem) (p0 : Int) (p1 : Int) (p2 : Int) (p3 : Int) : Prop :=
  ((0 < p2) → G29 μ p0 p2 p3 p1 0) ∧ ((¬ (0 < p2)) → (0 ≤ p0 ∧ p0 < 4096) ∧ (0 ≤ p0 ∧ p0 < 4096) ∧ (-128 ≤ (i2b (imin (μ 23 p0.toNat) p3)) ∧ (i2b (imin (μ 23 p0.toNat) p3)) ≤ 127) ∧ ∀ μ_10 : Mem, μ_10 = wr μ 23 p0.toNat (i2b (imin (μ 23 p0.toNat) p3)) → Post 0 μ_10)
def wp_X7_takeFrom : Nat → Mem → Int → Int → Int → Int → Pst → Prop
  | 0 => fun _ _ _ _ _ _ => False
  | d + 1 => fun μ p0 p1 p2 p3 Post => ∀ (G29 : Mem → Int → Int → Int → Int → Int → Prop), (∀ μ x1 x3 x4 x5 x6, b_X7_takeFrom_29 (wp_X7_takeFrom d) G29 Post μ x1 x3 x4 x5 x6 → G29 μ x1 x3 x4 x5 x6) → b_X7_takeFrom_e (wp_X7_takeFrom d) G29 Post μ p0 p1 p2 p3
def b_X7_leastMinutes_75 (G25 : Mem → Int → Prop) (Post : Pst) (μ : Mem) (x1 : Int) : Prop :=
  ∀ x_1 : Int, x_1 = wrap (x1 + 1) → G25 μ x_1
def b_X7_leastMinutes_25 (G25 : Mem → Int → Prop) (Post : Pst) (μ : Mem) (x1 : Int) : Prop :=
  wp_X7_all μ (fun r_2 μ_3 => ((r_2 ≤ x1) → wp_X7_all μ_3 (fun r_5 μ_6 => (0 ≤ r_5 ∧ r_5 < 4096) ∧ Post (μ_6 23 r_5.toNat) μ_6)) ∧ ((¬ (r_2 ≤ x1)) → (0 ≤ x1 ∧ x1 < 4096) ∧ (((μ_3 23 x1.toNat) = 100) → b_X7_leastMinutes_75 G25 Post μ_3 x1) ∧ ((¬ (μ_3 23 x1.toNat) = 100) → wp_X7_freeBehind μ_3 x1 (fun r_8 μ_9 => wp_J6_bitCount_0f7a4 μ_9 r_8 (fun r_10 μ_11 => (0 ≤ x1 ∧ x1 < 4096) ∧ wp_X7_takeFrom 6 μ_11 x1 r_8 (imin (μ_9 10 1) r_10) (wrap ((μ_11 23 x1.toNat) + 1)) (fun _ μ_13 => b_X7_leastMinutes_75 G25 Post μ_13 x1))))))
def b_X7_leastMinutes_e (G25 : Mem → Int → Prop) (Post : Pst) (μ : Mem) : Prop :=
  wp_X7_all μ (fun r_14 μ_15 => wp_J7_fill_eb02e μ_15 0 (wrap (r_14 + 1)) 100 (fun _ μ_17 => (0 ≤ (0 : Int) ∧ (0 : Int) < 4096) ∧ (-128 ≤ (0 : Int) ∧ (0 : Int) ≤ 127) ∧ ∀ μ_18 : Mem, μ_18 = wr μ_17 23 (0 : Int).toNat 0 → G25 μ_18 0))
def wp_X7_leastMinutes (μ : Mem) (Post : Pst) : Prop := ∀ (G25 : Mem → Int → Prop), (∀ μ x1, b_X7_leastMinutes_25 G25 Post μ x1 → G25 μ x1) → b_X7_leastMinutes_e G25 Post μ
def b_X7_atOrAbove_25 (G4 : Mem → Int → Int → Int → Prop) (Post : Pst) (μ : Mem) (x1 : Int) (x2 : Int) (x3 : Int) : Prop :=
  ∀ x_1 : Int, x_1 = wrap (x3 + 1) → G4 μ x1 x2 x_1
def b_X7_atOrAbove_4 (G4 : Mem → Int → Int → Int → Prop) (Post : Pst) (μ : Mem) (x1 : Int) (x2 : Int) (x3 : Int) : Prop :=
  (((μ 10 0) ≤ x3) → Post x2 μ) ∧ ((¬ ((μ 10 0) ≤ x3)) → (0 ≤ x3 ∧ x3 < 12) ∧ (((μ 89 x3.toNat) < x1) → b_X7_atOrAbove_25 G4 Post μ x1 x2 x3) ∧ ((¬ ((μ 89 x3.toNat) < x1)) → ∀ x_5 : Int, x_5 = wrap (x2 + 1) → b_X7_atOrAbove_25 G4 Post μ x1 x_5 x3))
def b_X7_atOrAbove_e (G4 : Mem → Int → Int → Int → Prop) (Post : Pst) (μ : Mem) (p0 : Int) : Prop :=
  G4 μ p0 0 0
def wp_X7_atOrAbove (μ : Mem) (p0 : Int) (Post : Pst) : Prop := ∀ (G4 : Mem → Int → Int → Int → Prop), (∀ μ x1 x2 x3, b_X7_atOrAbove_4 G4 Post μ x1 x2 x3 → G4 μ x1 x2 x3) → b_X7_atOrAbove_e G4 Post μ p0
def b_X7_cutUp_e (Post : Pst) (μ : Mem) (p0 : Int) : Prop :=
  ((1 ≤ (μ 10 1)) → ¬ (μ 10 1) = 0 ∧ Post (idv (wrap ((wrap (p0 + (μ 10 1))) - 1)) (μ 10 1)) μ) ∧ ((¬ (1 ≤ (μ 10 1))) → Post p0 μ)
def wp_X7_cutUp (μ : Mem) (p0 : Int) (Post : Pst) : Prop := b_X7_cutUp_e Post μ p0
def b_X7_notSooner_36 (G4 : Mem → Int → Int → Prop) (Post : Pst) (μ : Mem) (x1 : Int) (x2 : Int) : Prop :=
  ∀ x_1 : Int, x_1 = wrap (x2 + 1) → G4 μ x1 x_1
def b_X7_notSooner_4 (G4 : Mem → Int → Int → Prop) (Post : Pst) (μ : Mem) (x1 : Int) (x2 : Int) : Prop :=
  (((μ 10 0) < x2) → Post x1 μ) ∧ ((¬ ((μ 10 0) < x2)) → wp_X7_atOrAbove μ x2 (fun r_3 μ_4 => ((r_3 ≤ 0) → b_X7_notSooner_36 G4 Post μ_4 x1 x2) ∧ ((¬ (r_3 ≤ 0)) → wp_X7_cutUp μ_4 r_3 (fun r_6 μ_7 => ∀ x_8 : Int, x_8 = imax x1 (wrap ((wrap (x2 - 1)) + r_6)) → b_X7_notSooner_36 G4 Post μ_7 x_8 x2))))
def b_X7_notSooner_e (G4 : Mem → Int → Int → Prop) (Post : Pst) (μ : Mem) : Prop :=
  G4 μ 0 1
def wp_X7_notSooner (μ : Mem) (Post : Pst) : Prop := ∀ (G4 : Mem → Int → Int → Prop), (∀ μ x1 x2, b_X7_notSooner_4 G4 Post μ x1 x2 → G4 μ x1 x2) → b_X7_notSooner_e G4 Post μ
def b_X10_least_e (Post : Pst) (μ : Mem) (p0 : Int) : Prop :=
  wp_X10_isFrom μ p0 0 1 (fun r_1 μ_2 => ((¬ r_1 = 0) → ((¬ p0 = 0) → wp_X7_notSooner μ_2 (fun r_5 μ_6 => Post r_5 μ_6)) ∧ ((p0 = 0) → wp_X7_leastMinutes μ_2 (fun r_7 μ_8 => Post r_7 μ_8))) ∧ ((r_1 = 0) → Post (-2) μ_2))
def wp_X10_least (μ : Mem) (p0 : Int) (Post : Pst) : Prop := b_X10_least_e Post μ p0
def b_X7_highestOf_42 (G9 : Mem → Int → Int → Int → Prop) (Post : Pst) (μ : Mem) (x1 : Int) (x2 : Int) (x3 : Int) : Prop :=
  ∀ x_1 : Int, x_1 = wrap (x3 + 1) → G9 μ x1 x2 x_1
def b_X7_highestOf_9 (G9 : Mem → Int → Int → Int → Prop) (Post : Pst) (μ : Mem) (x1 : Int) (x2 : Int) (x3 : Int) : Prop :=
  (((μ 10 0) ≤ x3) → Post x2 μ) ∧ ((¬ ((μ 10 0) ≤ x3)) → wp_X10_isIn μ x1 x3 (fun r_3 μ_4 => ((r_3 = 0) → b_X7_highestOf_42 G9 Post μ_4 x1 x2 x3) ∧ ((¬ r_3 = 0) → (0 ≤ x3 ∧ x3 < 12) ∧ (0 ≤ x2 ∧ x2 < 12) ∧ (((μ_4 89 x3.toNat) ≤ (μ_4 89 x2.toNat)) → b_X7_highestOf_42 G9 Post μ_4 x1 x2 x3) ∧ ((¬ ((μ_4 89 x3.toNat) ≤ (μ_4 89 x2.toNat))) → b_X7_highestOf_42 G9 Post μ_4 x1 x3 x3))))
def b_X7_highestOf_e (G9 : Mem → Int → Int → Int → Prop) (Post : Pst) (μ : Mem) (p0 : Int) : Prop :=
  wp_J6_numberOfTrailingZeros_0f7a4 μ p0 (fun r_9 μ_10 => ∀ x_11 : Int, x_11 = wrap (r_9 + 1) → G9 μ_10 p0 r_9 x_11)
def wp_X7_highestOf (μ : Mem) (p0 : Int) (Post : Pst) : Prop := ∀ (G9 : Mem → Int → Int → Int → Prop), (∀ μ x1 x2 x3, b_X7_highestOf_9 G9 Post μ x1 x2 x3 → G9 μ x1 x2 x3) → b_X7_highestOf_e G9 Post μ p0
def b_X7_goByLevels_77 (G4 : Mem → Int → Int → Prop) (G27 : Mem → Int → Int → Int → Int → Prop) (Post : Pst) (μ : Mem) (x1 : Int) (x2 : Int) : Prop :=
  ∀ x_1 : Int, x_1 = wrap (x2 + 1) → G4 μ x1 x_1
def b_X7_goByLevels_4 (G4 : Mem → Int → Int → Prop) (G27 : Mem → Int → Int → Int → Int → Prop) (Post : Pst) (μ : Mem) (x1 : Int) (x2 : Int) : Prop :=
  ((12 ≤ x2) → Post x2 μ) ∧ ((¬ (12 ≤ x2)) → wp_X7_all μ (fun r_3 μ_4 => ((x1 = r_3) → Post x2 μ_4) ∧ ((¬ x1 = r_3) → wp_X7_freeBehind μ_4 x1 (fun r_6 μ_7 => G27 μ_7 x1 x2 r_6 0))))
def b_X7_goByLevels_27 (G4 : Mem → Int → Int → Prop) (G27 : Mem → Int → Int → Int → Int → Prop) (Post : Pst) (μ : Mem) (x1 : Int) (x2 : Int) (x3 : Int) (x4 : Int) : Prop :=
  (((μ 10 1) ≤ x4) → b_X7_goByLevels_77 G4 G27 Post μ x1 x2) ∧ ((¬ ((μ 10 1) ≤ x4)) → ((x3 = 0) → b_X7_goByLevels_77 G4 G27 Post μ x1 x2) ∧ ((¬ x3 = 0) → wp_X7_highestOf μ x3 (fun r_10 μ_11 => (0 ≤ r_10 ∧ r_10 < 12) ∧ ∀ μ_13 : Mem, μ_13 = wr μ_11 87 r_10.toNat x2 → ∀ x_14 : Int, x_14 = iand x3 (ixor (ishl 1 r_10) (-1)) → ∀ x_15 : Int, x_15 = ior x1 (ishl 1 r_10) → ∀ x_16 : Int, x_16 = wrap (x4 + 1) → G27 μ_13 x_15 x2 x_14 x_16)))
def b_X7_goByLevels_e (G4 : Mem → Int → Int → Prop) (G27 : Mem → Int → Int → Int → Int → Prop) (Post : Pst) (μ : Mem) : Prop :=
  G4 μ 0 0
def wp_X7_goByLevels (μ : Mem) (Post : Pst) : Prop := ∀ (G4 : Mem → Int → Int → Prop) (G27 : Mem → Int → Int → Int → Int → Prop), (∀ μ x1 x2, b_X7_goByLevels_4 G4 G27 Post μ x1 x2 → G4 μ x1 x2) → (∀ μ x1 x2 x3 x4, b_X7_goByLevels_27 G4 G27 Post μ x1 x2 x3 x4 → G27 μ x1 x2 x3 x4) → b_X7_goByLevels_e G4 G27 Post μ
def b_X10_levels_e (Post : Pst) (μ : Mem) (p0 : Int) : Prop :=
  wp_X10_isFrom μ p0 (-1) (wrap ((μ 10 0) - 1)) (fun r_1 μ_2 => ((¬ r_1 = 0) → wp_X7_goByLevels μ_2 (fun r_4 μ_5 => ((¬ p0 = (-1)) → (0 ≤ p0 ∧ p0 < 12) ∧ Post (μ_5 87 p0.toNat) μ_5) ∧ ((p0 = (-1)) → Post r_4 μ_5))) ∧ ((r_1 = 0) → Post (-10) μ_2))
def wp_X10_levels (μ : Mem) (p0 : Int) (Post : Pst) : Prop := b_X10_levels_e Post μ p0
def b_X10_likes_e (Post : Pst) (μ : Mem) (p0 : Int) : Prop :=
  wp_X10_isFrom μ p0 1 4 (fun r_1 μ_2 => ((¬ r_1 = 0) → ∀ x_4 : Int, x_4 = μ_2 10 1 → ∀ μ_5 : Mem, μ_5 = wr μ_2 10 1 p0 → Post x_4 μ_5) ∧ ((r_1 = 0) → Post (-2) μ_2))
def wp_X10_likes (μ : Mem) (p0 : Int) (Post : Pst) : Prop := b_X10_likes_e Post μ p0
def b_X3_workIn_8 (G8 : Mem → Int → Int → Int → Prop) (Post : Pst) (μ : Mem) (x1 : Int) (x2 : Int) (x3 : Int) : Prop :=
  ((x1 < x3) → Post x2 μ) ∧ ((¬ (x1 < x3)) → wp_X3_workOn μ x3 (fun r_2 μ_3 => ∀ x_4 : Int, x_4 = wrap (x3 + 1) → G8 μ_3 x1 r_2 x_4))
def b_X3_workIn_e (G8 : Mem → Int → Int → Int → Prop) (Post : Pst) (μ : Mem) (p0 : Int) : Prop :=
  wp_X3_begin μ (fun _ μ_6 => G8 μ_6 p0 (-1) 0)
def wp_X3_workIn (μ : Mem) (p0 : Int) (Post : Pst) : Prop := ∀ (G8 : Mem → Int → Int → Int → Prop), (∀ μ x1 x2 x3, b_X3_workIn_8 G8 Post μ x1 x2 x3 → G8 μ x1 x2 x3) → b_X3_workIn_e G8 Post μ p0
def b_X10_minute_e (Post : Pst) (μ : Mem) (p0 : Int) : Prop :=
  wp_X10_isFrom μ p0 0 999 (fun r_1 μ_2 => ((¬ r_1 = 0) → wp_X3_workIn μ_2 p0 (fun r_4 μ_5 => Post r_4 μ_5)) ∧ ((r_1 = 0) → Post (-10) μ_2))
def wp_X10_minute (μ : Mem) (p0 : Int) (Post : Pst) : Prop := b_X10_minute_e Post μ p0
def b_X10_needs_e (Post : Pst) (μ : Mem) (p0 : Int) (p1 : Int) (p2 : Int) : Prop :=
  wp_X9_has μ p0 (fun r_1 μ_2 => ((r_1 = 0) → Post (-2) μ_2) ∧ ((¬ r_1 = 0) → wp_X10_isFrom μ_2 p1 0 3 (fun r_4 μ_5 => ((r_4 = 0) → Post (-2) μ_5) ∧ ((¬ r_4 = 0) → wp_X10_isFrom μ_5 p2 1 40 (fun r_7 μ_8 => ((¬ r_7 = 0) → (0 ≤ p0 ∧ p0 < 8) ∧ (0 ≤ p1 ∧ p1 < 4) ∧ ∀ x_12 : Int, x_12 = μ_8 (32 + p0.toNat) p1.toNat → (0 ≤ p0 ∧ p0 < 8) ∧ (0 ≤ p1 ∧ p1 < 4) ∧ ∀ μ_15 : Mem, μ_15 = wr μ_8 (32 + p0.toNat) p1.toNat p2 → Post x_12 μ_15) ∧ ((r_7 = 0) → Post (-2) μ_8))))))
def wp_X10_needs (μ : Mem) (p0 : Int) (p1 : Int) (p2 : Int) (Post : Pst) : Prop := b_X10_needs_e Post μ p0 p1 p2
def b_X6_add_e (Post : Pst) (μ : Mem) (p0 : Int) : Prop :=
  (0 ≤ (μ 2 0) ∧ (μ 2 0) < 8) ∧ ∀ μ_2 : Mem, μ_2 = wr μ 75 (μ 2 0).toNat p0 → ∀ μ_3 : Mem, μ_3 = wr μ_2 2 1 (ior (μ_2 2 1) (ishl 1 p0)) → ∀ μ_4 : Mem, μ_4 = wr μ_3 2 0 (wrap ((μ_3 2 0) + 1)) → Post (μ_4 2 0) μ_4
def wp_X6_add (μ : Mem) (p0 : Int) (Post : Pst) : Prop := b_X6_add_e Post μ p0
def b_X6_holds_e (Post : Pst) (μ : Mem) (p0 : Int) : Prop :=
  wp_X10_isIn μ (μ 2 1) p0 (fun r_1 μ_2 => ((r_1 = 0 ∨ r_1 = 1) ∧ Post r_1 μ_2))
def wp_X6_holds (μ : Mem) (p0 : Int) (Post : Pst) : Prop := b_X6_holds_e Post μ p0
def b_X10_next_e (Post : Pst) (μ : Mem) (p0 : Int) : Prop :=
  wp_X9_has μ p0 (fun r_1 μ_2 => ((r_1 = 0) → Post (-2) μ_2) ∧ ((¬ r_1 = 0) → wp_X6_holds μ_2 p0 (fun r_4 μ_5 => ((r_4 = 0) → wp_X6_add μ_5 p0 (fun r_7 μ_8 => Post r_7 μ_8)) ∧ ((¬ r_4 = 0) → Post (-2) μ_5))))
def wp_X10_next (μ : Mem) (p0 : Int) (Post : Pst) : Prop := b_X10_next_e Post μ p0
def b_X10_onTime_e (Post : Pst) (μ : Mem) : Prop :=
  wp_X0_fewestLate μ (fun r_1 μ_2 => Post r_1 μ_2)
def wp_X10_onTime (μ : Mem) (Post : Pst) : Prop := b_X10_onTime_e Post μ
def b_X10_put_e (Post : Pst) (μ : Mem) (p0 : Int) (p1 : Int) (p2 : Int) : Prop :=
  wp_X9_has μ p0 (fun r_1 μ_2 => ((r_1 = 0) → Post (-2) μ_2) ∧ ((¬ r_1 = 0) → wp_X10_isFrom μ_2 p1 0 4 (fun r_4 μ_5 => ((r_4 = 0) → Post (-2) μ_5) ∧ ((¬ r_4 = 0) → (0 ≤ p1 ∧ p1 < 5) ∧ (0 ≤ p1 ∧ p1 < 5) ∧ wp_X10_isFrom μ_5 p2 (stv 0 p1.toNat) (stv 1 p1.toNat) (fun r_7 μ_8 => ((¬ r_7 = 0) → (0 ≤ p1 ∧ p1 < 5) ∧ (0 ≤ p0 ∧ p0 < 8) ∧ ∀ x_12 : Int, x_12 = μ_8 (24 + p1.toNat) p0.toNat → (0 ≤ p1 ∧ p1 < 5) ∧ (0 ≤ p0 ∧ p0 < 8) ∧ ∀ μ_15 : Mem, μ_15 = wr μ_8 (24 + p1.toNat) p0.toNat p2 → Post x_12 μ_15) ∧ ((r_7 = 0) → Post (-2) μ_8))))))
def wp_X10_put (μ : Mem) (p0 : Int) (p1 : Int) (p2 : Int) (Post : Pst) : Prop := b_X10_put_e Post μ p0 p1 p2
def b_X8_add_e (Post : Pst) (μ : Mem) (p0 : Int) (p1 : Int) (p2 : Int) : Prop :=
  (0 ≤ p0 ∧ p0 < 2) ∧ ∀ x_2 : Int, x_2 = μ 86 p0.toNat → (0 ≤ p0 ∧ p0 < 2) ∧ (0 ≤ x_2 ∧ x_2 < 6) ∧ ∀ μ_5 : Mem, μ_5 = wr μ (64 + p0.toNat) x_2.toNat p1 → (0 ≤ p0 ∧ p0 < 2) ∧ (0 ≤ x_2 ∧ x_2 < 6) ∧ ∀ μ_8 : Mem, μ_8 = wr μ_5 (66 + p0.toNat) x_2.toNat p2 → (0 ≤ p0 ∧ p0 < 2) ∧ (0 ≤ p0 ∧ p0 < 2) ∧ ∀ μ_11 : Mem, μ_11 = wr μ_8 86 p0.toNat (wrap ((μ_8 86 p0.toNat) + 1)) → (0 ≤ p0 ∧ p0 < 2) ∧ Post (μ_11 86 p0.toNat) μ_11
def wp_X8_add (μ : Mem) (p0 : Int) (p1 : Int) (p2 : Int) (Post : Pst) : Prop := b_X8_add_e Post μ p0 p1 p2
def b_X10_step_e (Post : Pst) (μ : Mem) (p0 : Int) (p1 : Int) (p2 : Int) : Prop :=
  wp_X10_isFrom μ p0 0 1 (fun r_1 μ_2 => ((r_1 = 0) → Post (-2) μ_2) ∧ ((¬ r_1 = 0) → wp_X10_isFrom μ_2 p1 0 5 (fun r_4 μ_5 => ((r_4 = 0) → Post (-2) μ_5) ∧ ((¬ r_4 = 0) → wp_X10_isFrom μ_5 p2 1 20 (fun r_7 μ_8 => ((¬ r_7 = 0) → (0 ≤ p0 ∧ p0 < 2) ∧ (((μ_8 86 p0.toNat) < 6) → wp_X8_add μ_8 p0 p1 p2 (fun r_12 μ_13 => Post r_12 μ_13)) ∧ ((¬ ((μ_8 86 p0.toNat) < 6)) → Post (-4) μ_8)) ∧ ((r_7 = 0) → Post (-2) μ_8))))))
def wp_X10_step (μ : Mem) (p0 : Int) (p1 : Int) (p2 : Int) (Post : Pst) : Prop := b_X10_step_e Post μ p0 p1 p2
def b_X8_fewestTo_112 (Post : Pst) (μ : Mem) (x1 : Int) (x2 : Int) (x4 : Nat) (x5 : Int) : Prop :=
  ((x1 ≤ 0) → Post x5 μ) ∧ ((¬ (x1 ≤ 0)) → ((x2 ≤ 0) → Post x5 μ) ∧ ((¬ (x2 ≤ 0)) → (0 ≤ (wrap (x1 - 1)) ∧ (wrap (x1 - 1)) < 120) ∧ (0 ≤ (wrap (x2 - 1)) ∧ (wrap (x2 - 1)) < 120) ∧ (((μ 68 (wrap (x1 - 1)).toNat) = (μ 69 (wrap (x2 - 1)).toNat)) → Post x5 μ) ∧ ((¬ (μ 68 (wrap (x1 - 1)).toNat) = (μ 69 (wrap (x2 - 1)).toNat)) → (24 ≤ x4 ∧ x4 < 112 ∧ 0 ≤ (wrap (x2 - 1)) ∧ (wrap (x2 - 1)) < len x4) ∧ ∀ x_7 : Int, x_7 = imin x5 (wrap ((μ x4 (wrap (x2 - 1)).toNat) + 1)) → Post x_7 μ)))
def b_X8_fewestTo_73 (Post : Pst) (μ : Mem) (x1 : Int) (x2 : Int) (x3 : Nat) (x4 : Nat) (x5 : Int) : Prop :=
  ((x2 ≤ 0) → b_X8_fewestTo_112 Post μ x1 x2 x4 x5) ∧ ((¬ (x2 ≤ 0)) → (0 ≤ (wrap (x2 - 1)) ∧ (wrap (x2 - 1)) < 120) ∧ (0 ≤ x1 ∧ x1 < 121) ∧ (((μ 69 (wrap (x2 - 1)).toNat) = (μ 70 x1.toNat)) → b_X8_fewestTo_112 Post μ x1 x2 x4 x5) ∧ ((¬ (μ 69 (wrap (x2 - 1)).toNat) = (μ 70 x1.toNat)) → (24 ≤ x3 ∧ x3 < 112 ∧ 0 ≤ (wrap (x2 - 1)) ∧ (wrap (x2 - 1)) < len x3) ∧ ∀ x_13 : Int, x_13 = imin x5 (wrap ((μ x3 (wrap (x2 - 1)).toNat) + 1)) → b_X8_fewestTo_112 Post μ x1 x2 x4 x_13))
def b_X8_fewestTo_10 (Post : Pst) (μ : Mem) (x1 : Int) (x2 : Int) : Prop :=
  (0 ≤ (iand x1 1) ∧ (iand x1 1) < 2) ∧ (0 ≤ (iand (wrap (x1 + 1)) 1) ∧ (iand (wrap (x1 + 1)) 1) < 2) ∧ ((x1 ≤ 0) → b_X8_fewestTo_73 Post μ x1 x2 (72 + (iand x1 1).toNat) (72 + (iand (wrap (x1 + 1)) 1).toNat) 1000000000) ∧ ((¬ (x1 ≤ 0)) → (0 ≤ (wrap (x1 - 1)) ∧ (wrap (x1 - 1)) < 120) ∧ (0 ≤ x2 ∧ x2 < 121) ∧ (((μ 68 (wrap (x1 - 1)).toNat) = (μ 71 x2.toNat)) → b_X8_fewestTo_73 Post μ x1 x2 (72 + (iand x1 1).toNat) (72 + (iand (wrap (x1 + 1)) 1).toNat) 1000000000) ∧ ((¬ (μ 68 (wrap (x1 - 1)).toNat) = (μ 71 x2.toNat)) → (0 ≤ x2 ∧ x2 < 121) ∧ ∀ x_21 : Int, x_21 = imin 1000000000 (wrap ((μ (72 + (iand (wrap (x1 + 1)) 1).toNat) x2.toNat) + 1)) → b_X8_fewestTo_73 Post μ x1 x2 (72 + (iand x1 1).toNat) (72 + (iand (wrap (x1 + 1)) 1).toNat) x_21))
def b_X8_fewestTo_e (Post : Pst) (μ : Mem) (p0 : Int) (p1 : Int) : Prop :=
  ((¬ p0 = 0) → b_X8_fewestTo_10 Post μ p0 p1) ∧ ((p0 = 0) → ((¬ p1 = 0) → b_X8_fewestTo_10 Post μ p0 p1) ∧ ((p1 = 0) → Post 0 μ))
def wp_X8_fewestTo (μ : Mem) (p0 : Int) (p1 : Int) (Post : Pst) : Prop := b_X8_fewestTo_e Post μ p0 p1
def b_X8_layOut_13 (G13 : Mem → Int → Int → Int → Prop) (G26 : Mem → Int → Int → Int → Int → Prop) (Post : Pst) (μ : Mem) (x1 : Int) (x2 : Int) (x3 : Int) : Prop :=
  (0 ≤ x1 ∧ x1 < 2) ∧ (((μ 86 x1.toNat) ≤ x3) → Post x2 μ) ∧ ((¬ ((μ 86 x1.toNat) ≤ x3)) → G26 μ x1 x2 x3 0)
def b_X8_layOut_26 (G13 : Mem → Int → Int → Int → Prop) (G26 : Mem → Int → Int → Int → Int → Prop) (Post : Pst) (μ : Mem) (x1 : Int) (x2 : Int) (x3 : Int) (x4 : Int) : Prop :=
  (0 ≤ x1 ∧ x1 < 2) ∧ (0 ≤ x3 ∧ x3 < 6) ∧ (((μ (66 + x1.toNat) x3.toNat) ≤ x4) → (0 ≤ x1 ∧ x1 < 2) ∧ (0 ≤ x2 ∧ x2 < 121) ∧ ∀ μ_8 : Mem, μ_8 = wr μ (70 + x1.toNat) x2.toNat (-1) → ∀ x_9 : Int, x_9 = wrap (x3 + 1) → G13 μ_8 x1 x2 x_9) ∧ ((¬ ((μ (66 + x1.toNat) x3.toNat) ≤ x4)) → (0 ≤ x1 ∧ x1 < 2) ∧ (0 ≤ x1 ∧ x1 < 2) ∧ (0 ≤ x3 ∧ x3 < 6) ∧ (0 ≤ x2 ∧ x2 < 120) ∧ ∀ μ_14 : Mem, μ_14 = wr μ (68 + x1.toNat) x2.toNat (μ (64 + x1.toNat) x3.toNat) → ∀ x_15 : Int, x_15 = wrap (x2 + 1) → (0 ≤ x1 ∧ x1 < 2) ∧ (0 ≤ x1 ∧ x1 < 2) ∧ (0 ≤ x3 ∧ x3 < 6) ∧ (0 ≤ x_15 ∧ x_15 < 121) ∧ ∀ μ_20 : Mem, μ_20 = wr μ_14 (70 + x1.toNat) x_15.toNat (μ_14 (64 + x1.toNat) x3.toNat) → ∀ x_21 : Int, x_21 = wrap (x4 + 1) → G26 μ_20 x1 x_15 x3 x_21)
def b_X8_layOut_e (G13 : Mem → Int → Int → Int → Prop) (G26 : Mem → Int → Int → Int → Int → Prop) (Post : Pst) (μ : Mem) (p0 : Int) : Prop :=
  (0 ≤ p0 ∧ p0 < 2) ∧ ∀ μ_23 : Mem, μ_23 = wr μ (70 + p0.toNat) 0 (-1) → G13 μ_23 p0 0 0
def wp_X8_layOut (μ : Mem) (p0 : Int) (Post : Pst) : Prop := ∀ (G13 : Mem → Int → Int → Int → Prop) (G26 : Mem → Int → Int → Int → Int → Prop), (∀ μ x1 x2 x3, b_X8_layOut_13 G13 G26 Post μ x1 x2 x3 → G13 μ x1 x2 x3) → (∀ μ x1 x2 x3 x4, b_X8_layOut_26 G13 G26 Post μ x1 x2 x3 x4 → G26 μ x1 x2 x3 x4) → b_X8_layOut_e G13 G26 Post μ p0
def b_X8_fewestMinutes_14 (G14 : Mem → Int → Int → Int → Prop) (G22 : Mem → Int → Int → Int → Int → Prop) (Post : Pst) (μ : Mem) (x1 : Int) (x2 : Int) (x3 : Int) : Prop :=
  ((x1 < x3) → (0 ≤ (iand x1 1) ∧ (iand x1 1) < 2) ∧ (0 ≤ x2 ∧ x2 < 121) ∧ Post (μ (72 + (iand x1 1).toNat) x2.toNat) μ) ∧ ((¬ (x1 < x3)) → G22 μ x1 x2 x3 0)
def b_X8_fewestMinutes_22 (G14 : Mem → Int → Int → Int → Prop) (G22 : Mem → Int → Int → Int → Int → Prop) (Post : Pst) (μ : Mem) (x1 : Int) (x2 : Int) (x3 : Int) (x4 : Int) : Prop :=
  ((x2 < x4) → ∀ x_5 : Int, x_5 = wrap (x3 + 1) → G14 μ x1 x2 x_5) ∧ ((¬ (x2 < x4)) → (0 ≤ (iand x3 1) ∧ (iand x3 1) < 2) ∧ wp_X8_fewestTo μ x3 x4 (fun r_7 μ_8 => (0 ≤ x4 ∧ x4 < 121) ∧ ∀ μ_10 : Mem, μ_10 = wr μ_8 (72 + (iand x3 1).toNat) x4.toNat r_7 → ∀ x_11 : Int, x_11 = wrap (x4 + 1) → G22 μ_10 x1 x2 x3 x_11))
def b_X8_fewestMinutes_e (G14 : Mem → Int → Int → Int → Prop) (G22 : Mem → Int → Int → Int → Int → Prop) (Post : Pst) (μ : Mem) : Prop :=
  wp_X8_layOut μ 0 (fun r_12 μ_13 => wp_X8_layOut μ_13 1 (fun r_14 μ_15 => G14 μ_15 r_12 r_14 0))
def wp_X8_fewestMinutes (μ : Mem) (Post : Pst) : Prop := ∀ (G14 : Mem → Int → Int → Int → Prop) (G22 : Mem → Int → Int → Int → Int → Prop), (∀ μ x1 x2 x3, b_X8_fewestMinutes_14 G14 G22 Post μ x1 x2 x3 → G14 μ x1 x2 x3) → (∀ μ x1 x2 x3 x4, b_X8_fewestMinutes_22 G14 G22 Post μ x1 x2 x3 x4 → G22 μ x1 x2 x3 x4) → b_X8_fewestMinutes_e G14 G22 Post μ
def b_X10_walk_e (Post : Pst) (μ : Mem) : Prop :=
  wp_X8_fewestMinutes μ (fun r_1 μ_2 => Post r_1 μ_2)
def wp_X10_walk (μ : Mem) (Post : Pst) : Prop := b_X10_walk_e Post μ
def b_X10_way_e (Post : Pst) (μ : Mem) (p0 : Int) (p1 : Int) : Prop :=
  wp_X10_isFrom μ p0 1 3 (fun r_1 μ_2 => ((r_1 = 0) → Post (-2) μ_2) ∧ ((¬ r_1 = 0) → wp_X10_isFrom μ_2 p1 0 9 (fun r_4 μ_5 => ((¬ r_4 = 0) → (0 ≤ p0 ∧ p0 < 4) ∧ ∀ x_8 : Int, x_8 = μ_5 82 p0.toNat → (0 ≤ p0 ∧ p0 < 4) ∧ ∀ μ_10 : Mem, μ_10 = wr μ_5 82 p0.toNat p1 → Post x_8 μ_10) ∧ ((r_4 = 0) → Post (-2) μ_5))))
def wp_X10_way (μ : Mem) (p0 : Int) (p1 : Int) (Post : Pst) : Prop := b_X10_way_e Post μ p0 p1
def b_X9_add_7 (G7 : Mem → Int → Int → Int → Prop) (Post : Pst) (μ : Mem) (x1 : Int) (x2 : Int) (x3 : Int) : Prop :=
  ((5 ≤ x3) → (0 ≤ x2 ∧ x2 < 8) ∧ ∀ μ_3 : Mem, μ_3 = wr μ 24 x2.toNat x1 → (0 ≤ x2 ∧ x2 < 8) ∧ wp_J7_fill_53178 μ_3 (32 + x2.toNat) 1 (fun _ μ_6 => (0 ≤ x2 ∧ x2 < 8) ∧ ∀ μ_8 : Mem, μ_8 = wr μ_6 (32 + x2.toNat) 0 x1 → ∀ μ_9 : Mem, μ_9 = wr μ_8 1 0 (wrap ((μ_8 1 0) + 1)) → Post x2 μ_9)) ∧ ((¬ (5 ≤ x3)) → (0 ≤ x3 ∧ x3 < 5) ∧ (0 ≤ x3 ∧ x3 < 5) ∧ (0 ≤ x2 ∧ x2 < 8) ∧ ∀ μ_12 : Mem, μ_12 = wr μ (24 + x3.toNat) x2.toNat (stv 2 x3.toNat) → ∀ x_13 : Int, x_13 = wrap (x3 + 1) → G7 μ_12 x1 x2 x_13)
def b_X9_add_e (G7 : Mem → Int → Int → Int → Prop) (Post : Pst) (μ : Mem) (p0 : Int) : Prop :=
  ∀ x_14 : Int, x_14 = μ 1 0 → G7 μ p0 x_14 0
def wp_X9_add (μ : Mem) (p0 : Int) (Post : Pst) : Prop := ∀ (G7 : Mem → Int → Int → Int → Prop), (∀ μ x1 x2 x3, b_X9_add_7 G7 Post μ x1 x2 x3 → G7 μ x1 x2 x3) → b_X9_add_e G7 Post μ p0
def b_X10_work_e (Post : Pst) (μ : Mem) (p0 : Int) : Prop :=
  wp_X10_isFrom μ p0 (stv 0 (0 : Int).toNat) (stv 1 (0 : Int).toNat) (fun r_1 μ_2 => ((¬ r_1 = 0) → (((μ_2 1 0) < 8) → wp_X9_add μ_2 p0 (fun r_5 μ_6 => Post r_5 μ_6)) ∧ ((¬ ((μ_2 1 0) < 8)) → Post (-4) μ_2)) ∧ ((r_1 = 0) → Post (-2) μ_2))
def wp_X10_work (μ : Mem) (p0 : Int) (Post : Pst) : Prop := b_X10_work_e Post μ p0
def b_X11_allAhead_49 (G9 : Mem → Int → Int → Prop) (G18 : Mem → Int → Int → Int → Prop) (Post : Pst) (μ : Mem) (x3 : Int) (x4 : Int) (s0 : Int) (s1 : Int) : Prop :=
  ∀ x_1 : Int, x_1 = ior s0 s1 → ∀ x_2 : Int, x_2 = wrap (x4 + 1) → G18 μ x_1 x3 x_2
def b_X11_allAhead_9 (G9 : Mem → Int → Int → Prop) (G18 : Mem → Int → Int → Int → Prop) (Post : Pst) (μ : Mem) (x2 : Int) (x3 : Int) : Prop :=
  ((8 ≤ x3) → Post x2 μ) ∧ ((¬ (8 ≤ x3)) → G18 μ x2 x3 0)
def b_X11_allAhead_18 (G9 : Mem → Int → Int → Prop) (G18 : Mem → Int → Int → Int → Prop) (Post : Pst) (μ : Mem) (x2 : Int) (x3 : Int) (x4 : Int) : Prop :=
  (((μ 11 0) ≤ x4) → ∀ x_5 : Int, x_5 = wrap (x3 + 1) → G9 μ x2 x_5) ∧ ((¬ ((μ 11 0) ≤ x4)) → ((¬ (iand (ishr x2 x4) 1) = 1) → b_X11_allAhead_49 G9 G18 Post μ x3 x4 x2 0) ∧ (((iand (ishr x2 x4) 1) = 1) → (0 ≤ x4 ∧ x4 < 8) ∧ b_X11_allAhead_49 G9 G18 Post μ x3 x4 x2 (μ 95 x4.toNat)))
def b_X11_allAhead_e (G9 : Mem → Int → Int → Prop) (G18 : Mem → Int → Int → Int → Prop) (Post : Pst) (μ : Mem) (p0 : Int) : Prop :=
  (0 ≤ p0 ∧ p0 < 8) ∧ ∀ x_9 : Int, x_9 = μ 95 p0.toNat → G9 μ x_9 0
def wp_X11_allAhead (μ : Mem) (p0 : Int) (Post : Pst) : Prop := ∀ (G9 : Mem → Int → Int → Prop) (G18 : Mem → Int → Int → Int → Prop), (∀ μ x2 x3, b_X11_allAhead_9 G9 G18 Post μ x2 x3 → G9 μ x2 x3) → (∀ μ x2 x3 x4, b_X11_allAhead_18 G9 G18 Post μ x2 x3 x4 → G18 μ x2 x3 x4) → b_X11_allAhead_e G9 G18 Post μ p0
def b_X11_in_e (Post : Pst) (μ : Mem) (p0 : Int) (p1 : Int) (p2 : Int) : Prop :=
  (((lcp p0 p1) < 0) → Post 0 μ) ∧ ((¬ ((lcp p0 p1) < 0)) → ((0 < (lcp p0 p2)) → Post 0 μ) ∧ ((¬ (0 < (lcp p0 p2))) → Post 1 μ))
def wp_X11_in (μ : Mem) (p0 : Int) (p1 : Int) (p2 : Int) (Post : Pst) : Prop := b_X11_in_e Post μ p0 p1 p2
def b_X11_isWork_e (Post : Pst) (μ : Mem) (p0 : Int) : Prop :=
  wp_X11_in μ p0 0 (wrap ((μ 11 0) - 1)) (fun r_1 μ_2 => ((r_1 = 0 ∨ r_1 = 1) ∧ Post r_1 μ_2))
def wp_X11_isWork (μ : Mem) (p0 : Int) (Post : Pst) : Prop := b_X11_isWork_e Post μ p0
def b_X11_ahead_71 (Post : Pst) (μ : Mem) (x1 : Int) (x2 : Int) : Prop :=
  (0 ≤ x2 ∧ x2 < 8) ∧ (0 ≤ x2 ∧ x2 < 8) ∧ ∀ μ_3 : Mem, μ_3 = wr μ 95 x2.toNat (ixor (μ 95 x2.toNat) (ishl 1 x1)) → Post 1 μ_3
def b_X11_ahead_43 (Post : Pst) (μ : Mem) (x1 : Int) (x2 : Int) (x3 : Int) (s0 : Int) : Prop :=
  ((s0 = x3) → Post (-3) μ) ∧ ((¬ s0 = x3) → ((x3 = 0) → b_X11_ahead_71 Post μ x1 x2) ∧ ((¬ x3 = 0) → wp_X11_allAhead μ x1 (fun r_6 μ_7 => ((¬ (iand (ishr r_6 x2) 1) = 1) → b_X11_ahead_71 Post μ_7 x1 x2) ∧ (((iand (ishr r_6 x2) 1) = 1) → Post (-3) μ_7))))
def b_X11_ahead_e (Post : Pst) (μ : Mem) (p0 : Int) (p1 : Int) (p2 : Int) : Prop :=
  wp_X11_isWork μ p0 (fun r_9 μ_10 => ((r_9 = 0) → Post (-2) μ_10) ∧ ((¬ r_9 = 0) → wp_X11_isWork μ_10 p1 (fun r_12 μ_13 => ((r_12 = 0) → Post (-2) μ_13) ∧ ((¬ r_12 = 0) → ((¬ p0 = p1) → (0 ≤ p1 ∧ p1 < 8) ∧ ((¬ (iand (ishr (μ_13 95 p1.toNat) p0) 1) = 1) → b_X11_ahead_43 Post μ_13 p0 p1 p2 0) ∧ (((iand (ishr (μ_13 95 p1.toNat) p0) 1) = 1) → b_X11_ahead_43 Post μ_13 p0 p1 p2 1)) ∧ ((p0 = p1) → Post (-2) μ_13)))))
def wp_X11_ahead (μ : Mem) (p0 : Int) (p1 : Int) (p2 : Int) (Post : Pst) : Prop := b_X11_ahead_e Post μ p0 p1 p2
def b_X11_allMinutes_4 (G4 : Mem → Int → Int → Int → Prop) (Post : Pst) (μ : Mem) (x1 : Int) (x2 : Int) (x3 : Int) : Prop :=
  (0 ≤ x1 ∧ x1 < 2) ∧ (((μ 101 x1.toNat) ≤ x3) → Post x2 μ) ∧ ((¬ ((μ 101 x1.toNat) ≤ x3)) → (0 ≤ (wrap ((wrap ((wrap (12 * x1)) + (wrap (2 * x3)))) + 1)) ∧ (wrap ((wrap ((wrap (12 * x1)) + (wrap (2 * x3)))) + 1)) < 24) ∧ ∀ x_4 : Int, x_4 = wrap (x2 + (μ 100 (wrap ((wrap ((wrap (12 * x1)) + (wrap (2 * x3)))) + 1)).toNat)) → ∀ x_5 : Int, x_5 = wrap (x3 + 1) → G4 μ x1 x_4 x_5)
def b_X11_allMinutes_e (G4 : Mem → Int → Int → Int → Prop) (Post : Pst) (μ : Mem) (p0 : Int) : Prop :=
  G4 μ p0 0 0
def wp_X11_allMinutes (μ : Mem) (p0 : Int) (Post : Pst) : Prop := ∀ (G4 : Mem → Int → Int → Int → Prop), (∀ μ x1 x2 x3, b_X11_allMinutes_4 G4 Post μ x1 x2 x3 → G4 μ x1 x2 x3) → b_X11_allMinutes_e G4 Post μ p0
def b_X11_anew_e (Post : Pst) (μ : Mem) : Prop :=
  ∀ x_1 : Int, x_1 = μ 11 12 → ∀ μ_2 : Mem, μ_2 = wr μ 11 12 0 → Post x_1 μ_2
def wp_X11_anew (μ : Mem) (Post : Pst) : Prop := b_X11_anew_e Post μ
def b_X11_any_79 (G9 : Mem → Int → Int → Int → Int → Prop) (Post : Pst) (μ : Mem) (x1 : Int) (x2 : Int) (x4 : Int) (s0 : Int) : Prop :=
  ∀ x_1 : Int, x_1 = wrap (x4 + 1) → G9 μ x1 x2 s0 x_1
def b_X11_any_96 (G9 : Mem → Int → Int → Int → Int → Prop) (Post : Pst) (μ : Mem) (x2 : Int) (s0 : Int) : Prop :=
  ((x2 ≤ s0) → Post s0 μ) ∧ ((¬ (x2 ≤ s0)) → Post x2 μ)
def b_X11_any_9 (G9 : Mem → Int → Int → Int → Int → Prop) (Post : Pst) (μ : Mem) (x1 : Int) (x2 : Int) (x3 : Int) (x4 : Int) : Prop :=
  (((μ 11 0) ≤ x4) → ((x1 ≤ x3) → b_X11_any_96 G9 Post μ x2 x3) ∧ ((¬ (x1 ≤ x3)) → b_X11_any_96 G9 Post μ x2 x1)) ∧ ((¬ ((μ 11 0) ≤ x4)) → (0 ≤ (wrap (4 * x4)) ∧ (wrap (4 * x4)) < 32) ∧ ∀ x_6 : Int, x_6 = wrap (x1 + (μ 97 (wrap (4 * x4)).toNat)) → (0 ≤ (wrap ((wrap (4 * x4)) + 1)) ∧ (wrap ((wrap (4 * x4)) + 1)) < 32) ∧ ∀ x_8 : Int, x_8 = wrap (x2 + (μ 97 (wrap ((wrap (4 * x4)) + 1)).toNat)) → (0 ≤ (wrap (4 * x4)) ∧ (wrap (4 * x4)) < 32) ∧ (0 ≤ (wrap ((wrap (4 * x4)) + 1)) ∧ (wrap ((wrap (4 * x4)) + 1)) < 32) ∧ ∀ x_11 : Int, x_11 = wrap ((μ 97 (wrap (4 * x4)).toNat) + (μ 97 (wrap ((wrap (4 * x4)) + 1)).toNat)) → ((x_11 ≤ x3) → b_X11_any_79 G9 Post μ x_6 x_8 x4 x3) ∧ ((¬ (x_11 ≤ x3)) → b_X11_any_79 G9 Post μ x_6 x_8 x4 x_11))
def b_X11_any_e (G9 : Mem → Int → Int → Int → Int → Prop) (Post : Pst) (μ : Mem) : Prop :=
  G9 μ 0 0 0 0
def wp_X11_any (μ : Mem) (Post : Pst) : Prop := ∀ (G9 : Mem → Int → Int → Int → Int → Prop), (∀ μ x1 x2 x3 x4, b_X11_any_9 G9 Post μ x1 x2 x3 x4 → G9 μ x1 x2 x3 x4) → b_X11_any_e G9 Post μ
def b_X11_benchAt_5 (G5 : Mem → Int → Int → Int → Prop) (Post : Pst) (μ : Mem) (x1 : Int) (x3 : Int) (x4 : Int) : Prop :=
  (0 ≤ (wrap ((wrap ((wrap (12 * x1)) + (wrap (2 * x4)))) + 1)) ∧ (wrap ((wrap ((wrap (12 * x1)) + (wrap (2 * x4)))) + 1)) < 24) ∧ ((x3 < (μ 100 (wrap ((wrap ((wrap (12 * x1)) + (wrap (2 * x4)))) + 1)).toNat)) → (0 ≤ (wrap ((wrap (12 * x1)) + (wrap (2 * x4)))) ∧ (wrap ((wrap (12 * x1)) + (wrap (2 * x4)))) < 24) ∧ Post (μ 100 (wrap ((wrap (12 * x1)) + (wrap (2 * x4)))).toNat) μ) ∧ ((¬ (x3 < (μ 100 (wrap ((wrap ((wrap (12 * x1)) + (wrap (2 * x4)))) + 1)).toNat))) → (0 ≤ (wrap ((wrap ((wrap (12 * x1)) + (wrap (2 * x4)))) + 1)) ∧ (wrap ((wrap ((wrap (12 * x1)) + (wrap (2 * x4)))) + 1)) < 24) ∧ ∀ x_5 : Int, x_5 = wrap (x3 - (μ 100 (wrap ((wrap ((wrap (12 * x1)) + (wrap (2 * x4)))) + 1)).toNat)) → ∀ x_6 : Int, x_6 = wrap (x4 + 1) → G5 μ x1 x_5 x_6)
def b_X11_benchAt_e (G5 : Mem → Int → Int → Int → Prop) (Post : Pst) (μ : Mem) (p0 : Int) (p1 : Int) : Prop :=
  G5 μ p0 p1 0
def wp_X11_benchAt (μ : Mem) (p0 : Int) (p1 : Int) (Post : Pst) : Prop := ∀ (G5 : Mem → Int → Int → Int → Prop), (∀ μ x1 x3 x4, b_X11_benchAt_5 G5 Post μ x1 x3 x4 → G5 μ x1 x3 x4) → b_X11_benchAt_e G5 Post μ p0 p1
def b_X11_benches_e (Post : Pst) (μ : Mem) (p0 : Int) : Prop :=
  wp_X11_in μ p0 2 4 (fun r_1 μ_2 => ((¬ r_1 = 0) → ∀ x_4 : Int, x_4 = μ_2 11 9 → ∀ μ_5 : Mem, μ_5 = wr μ_2 11 9 p0 → Post x_4 μ_5) ∧ ((r_1 = 0) → Post (-2) μ_2))
def wp_X11_benches (μ : Mem) (p0 : Int) (Post : Pst) : Prop := b_X11_benches_e Post μ p0
def b_X11_firstOrder_2 (G2 : Mem → Int → Prop) (Post : Pst) (μ : Mem) (x1 : Int) : Prop :=
  (((μ 11 0) ≤ x1) → Post 0 μ) ∧ ((¬ ((μ 11 0) ≤ x1)) → (0 ≤ x1 ∧ x1 < 8) ∧ ∀ μ_3 : Mem, μ_3 = wr μ 103 x1.toNat x1 → ∀ x_4 : Int, x_4 = wrap (x1 + 1) → G2 μ_3 x_4)
def b_X11_firstOrder_e (G2 : Mem → Int → Prop) (Post : Pst) (μ : Mem) : Prop :=
  G2 μ 0
def wp_X11_firstOrder (μ : Mem) (Post : Pst) : Prop := ∀ (G2 : Mem → Int → Prop), (∀ μ x1, b_X11_firstOrder_2 G2 Post μ x1 → G2 μ x1) → b_X11_firstOrder_e G2 Post μ
def b_X11_isLawful_4 (G4 : Mem → Int → Int → Prop) (Post : Pst) (μ : Mem) (x1 : Int) (x2 : Int) : Prop :=
  (((μ 11 0) ≤ x2) → Post 1 μ) ∧ ((¬ ((μ 11 0) ≤ x2)) → (0 ≤ x2 ∧ x2 < 8) ∧ (0 ≤ (μ 103 x2.toNat) ∧ (μ 103 x2.toNat) < 8) ∧ (((iand (μ 95 (μ 103 x2.toNat).toNat) (ixor x1 (-1))) = 0) → (0 ≤ x2 ∧ x2 < 8) ∧ ∀ x_6 : Int, x_6 = ior x1 (ishl 1 (μ 103 x2.toNat)) → ∀ x_7 : Int, x_7 = wrap (x2 + 1) → G4 μ x_6 x_7) ∧ ((¬ (iand (μ 95 (μ 103 x2.toNat).toNat) (ixor x1 (-1))) = 0) → Post 0 μ))
def b_X11_isLawful_e (G4 : Mem → Int → Int → Prop) (Post : Pst) (μ : Mem) : Prop :=
  G4 μ 0 0
def wp_X11_isLawful (μ : Mem) (Post : Pst) : Prop := ∀ (G4 : Mem → Int → Int → Prop), (∀ μ x1 x2, b_X11_isLawful_4 G4 Post μ x1 x2 → G4 μ x1 x2) → b_X11_isLawful_e G4 Post μ
def b_X11_makes_216 (G7 : Mem → Int → Int → Int → Int → Prop) (Post : Pst) (μ : Mem) (x1 : Int) (x2 : Int) (x3 : Int) (x4 : Int) : Prop :=
  ∀ x_1 : Int, x_1 = wrap (x4 + 1) → G7 μ x1 x2 x3 x_1
def b_X11_makes_188 (G7 : Mem → Int → Int → Int → Int → Prop) (Post : Pst) (μ : Mem) (x1 : Int) (x2 : Int) (x4 : Int) (s0 : Int) : Prop :=
  b_X11_makes_216 G7 Post μ x1 x2 s0 x4
def b_X11_makes_214 (G7 : Mem → Int → Int → Int → Int → Prop) (Post : Pst) (μ : Mem) (x1 : Int) (x2 : Int) (x4 : Int) (s0 : Int) (s1 : Int) : Prop :=
  ∀ x_2 : Int, x_2 = wrap (s0 + s1) → b_X11_makes_216 G7 Post μ x1 x2 x_2 x4
def b_X11_makes_128 (G7 : Mem → Int → Int → Int → Int → Prop) (Post : Pst) (μ : Mem) (x1 : Int) (x2 : Int) (x3 : Int) (x4 : Int) (x5 : Int) (s0 : Int) : Prop :=
  ((¬ x1 = 1) → ((¬ x1 = 2) → ((¬ x1 = 3) → ((¬ x1 = 4) → b_X11_makes_216 G7 Post μ x1 x2 x3 x4) ∧ ((x1 = 4) → ((s0 ≤ 0) → b_X11_makes_214 G7 Post μ x1 x2 x4 x3 0) ∧ ((¬ (s0 ≤ 0)) → (0 ≤ x5 ∧ x5 < 8) ∧ b_X11_makes_214 G7 Post μ x1 x2 x4 x3 (μ 93 x5.toNat)))) ∧ ((x1 = 3) → ((s0 ≤ x3) → b_X11_makes_188 G7 Post μ x1 x2 x4 x3) ∧ ((¬ (s0 ≤ x3)) → b_X11_makes_188 G7 Post μ x1 x2 x4 s0))) ∧ ((x1 = 2) → (0 ≤ x5 ∧ x5 < 8) ∧ ∀ x_11 : Int, x_11 = wrap (x3 + (wrap ((μ 93 x5.toNat) * s0))) → b_X11_makes_216 G7 Post μ x1 x2 x_11 x4)) ∧ ((x1 = 1) → (0 ≤ x5 ∧ x5 < 8) ∧ ∀ x_13 : Int, x_13 = wrap (x3 + (wrap ((μ 93 x5.toNat) * x2))) → b_X11_makes_216 G7 Post μ x1 x2 x_13 x4)
def b_X11_makes_91 (G7 : Mem → Int → Int → Int → Int → Prop) (Post : Pst) (μ : Mem) (x1 : Int) (x3 : Int) (x4 : Int) (x5 : Int) (s0 : Int) : Prop :=
  (0 ≤ x5 ∧ x5 < 8) ∧ ∀ x_15 : Int, x_15 = wrap (s0 + (μ 90 x5.toNat)) → (0 ≤ x5 ∧ x5 < 8) ∧ ((x_15 ≤ (μ 92 x5.toNat)) → b_X11_makes_128 G7 Post μ x1 x_15 x3 x4 x5 0) ∧ ((¬ (x_15 ≤ (μ 92 x5.toNat))) → (0 ≤ x5 ∧ x5 < 8) ∧ b_X11_makes_128 G7 Post μ x1 x_15 x3 x4 x5 (wrap (x_15 - (μ 92 x5.toNat))))
def b_X11_makes_65 (G7 : Mem → Int → Int → Int → Int → Prop) (Post : Pst) (μ : Mem) (x1 : Int) (x3 : Int) (x4 : Int) (x5 : Int) (s0 : Int) : Prop :=
  (0 ≤ x5 ∧ x5 < 8) ∧ (((μ 91 x5.toNat) ≤ s0) → b_X11_makes_91 G7 Post μ x1 x3 x4 x5 s0) ∧ ((¬ ((μ 91 x5.toNat) ≤ s0)) → (0 ≤ x5 ∧ x5 < 8) ∧ b_X11_makes_91 G7 Post μ x1 x3 x4 x5 (μ 91 x5.toNat))
def b_X11_makes_7 (G7 : Mem → Int → Int → Int → Int → Prop) (Post : Pst) (μ : Mem) (x1 : Int) (x2 : Int) (x3 : Int) (x4 : Int) : Prop :=
  (((μ 11 0) ≤ x4) → ((¬ x1 = 0) → Post x3 μ) ∧ ((x1 = 0) → Post x2 μ)) ∧ ((¬ ((μ 11 0) ≤ x4)) → (0 ≤ x4 ∧ x4 < 8) ∧ ∀ x_25 : Int, x_25 = μ 103 x4.toNat → ((¬ x4 = 0) → (0 ≤ (wrap (x4 - 1)) ∧ (wrap (x4 - 1)) < 8) ∧ (0 ≤ (μ 103 (wrap (x4 - 1)).toNat) ∧ (μ 103 (wrap (x4 - 1)).toNat) < 8) ∧ (0 ≤ x_25 ∧ x_25 < 8) ∧ (0 ≤ (wrap ((wrap (3 * (μ 94 (μ 103 (wrap (x4 - 1)).toNat).toNat))) + (μ 94 x_25.toNat))) ∧ (wrap ((wrap (3 * (μ 94 (μ 103 (wrap (x4 - 1)).toNat).toNat))) + (μ 94 x_25.toNat))) < 9) ∧ b_X11_makes_65 G7 Post μ x1 x3 x4 x_25 (wrap (x2 + (μ 96 (wrap ((wrap (3 * (μ 94 (μ 103 (wrap (x4 - 1)).toNat).toNat))) + (μ 94 x_25.toNat))).toNat)))) ∧ ((x4 = 0) → b_X11_makes_65 G7 Post μ x1 x3 x4 x_25 0))
def b_X11_makes_e (G7 : Mem → Int → Int → Int → Int → Prop) (Post : Pst) (μ : Mem) (p0 : Int) : Prop :=
  G7 μ p0 0 0 0
def wp_X11_makes (μ : Mem) (p0 : Int) (Post : Pst) : Prop := ∀ (G7 : Mem → Int → Int → Int → Int → Prop), (∀ μ x1 x2 x3 x4, b_X11_makes_7 G7 Post μ x1 x2 x3 x4 → G7 μ x1 x2 x3 x4) → b_X11_makes_e G7 Post μ p0
def b_X11_swap_e (Post : Pst) (μ : Mem) (p0 : Int) (p1 : Int) : Prop :=
  (0 ≤ p0 ∧ p0 < 8) ∧ ∀ x_2 : Int, x_2 = μ 103 p0.toNat → (0 ≤ p1 ∧ p1 < 8) ∧ (0 ≤ p0 ∧ p0 < 8) ∧ ∀ μ_5 : Mem, μ_5 = wr μ 103 p0.toNat (μ 103 p1.toNat) → (0 ≤ p1 ∧ p1 < 8) ∧ ∀ μ_7 : Mem, μ_7 = wr μ_5 103 p1.toNat x_2 → Post 0 μ_7
def wp_X11_swap (μ : Mem) (p0 : Int) (p1 : Int) (Post : Pst) : Prop := b_X11_swap_e Post μ p0 p1
def b_X11_nextOrder_34 (G7 : Mem → Int → Prop) (G47 : Mem → Int → Int → Prop) (G86 : Mem → Int → Int → Prop) (Post : Pst) (μ : Mem) (x1 : Int) : Prop :=
  ((0 ≤ x1) → ∀ x_2 : Int, x_2 = wrap ((μ 11 0) - 1) → G47 μ x1 x_2) ∧ ((¬ (0 ≤ x1)) → Post 0 μ)
def b_X11_nextOrder_7 (G7 : Mem → Int → Prop) (G47 : Mem → Int → Int → Prop) (G86 : Mem → Int → Int → Prop) (Post : Pst) (μ : Mem) (x1 : Int) : Prop :=
  ((x1 < 0) → b_X11_nextOrder_34 G7 G47 G86 Post μ x1) ∧ ((¬ (x1 < 0)) → (0 ≤ x1 ∧ x1 < 8) ∧ (0 ≤ (wrap (x1 + 1)) ∧ (wrap (x1 + 1)) < 8) ∧ (((μ 103 x1.toNat) ≤ (μ 103 (wrap (x1 + 1)).toNat)) → b_X11_nextOrder_34 G7 G47 G86 Post μ x1) ∧ ((¬ ((μ 103 x1.toNat) ≤ (μ 103 (wrap (x1 + 1)).toNat))) → ∀ x_7 : Int, x_7 = wrap (x1 + (-1)) → G7 μ x_7))
def b_X11_nextOrder_47 (G7 : Mem → Int → Prop) (G47 : Mem → Int → Int → Prop) (G86 : Mem → Int → Int → Prop) (Post : Pst) (μ : Mem) (x1 : Int) (x2 : Int) : Prop :=
  (0 ≤ x2 ∧ x2 < 8) ∧ (0 ≤ x1 ∧ x1 < 8) ∧ (((μ 103 x1.toNat) ≤ (μ 103 x2.toNat)) → wp_X11_swap μ x1 x2 (fun _ μ_12 => ∀ x_13 : Int, x_13 = wrap (x1 + 1) → ∀ x_14 : Int, x_14 = wrap ((μ_12 11 0) - 1) → G86 μ_12 x_13 x_14)) ∧ ((¬ ((μ 103 x1.toNat) ≤ (μ 103 x2.toNat))) → ∀ x_15 : Int, x_15 = wrap (x2 + (-1)) → G47 μ x1 x_15)
def b_X11_nextOrder_86 (G7 : Mem → Int → Prop) (G47 : Mem → Int → Int → Prop) (G86 : Mem → Int → Int → Prop) (Post : Pst) (μ : Mem) (x3 : Int) (x4 : Int) : Prop :=
  ((x4 ≤ x3) → Post 1 μ) ∧ ((¬ (x4 ≤ x3)) → wp_X11_swap μ x3 x4 (fun _ μ_18 => ∀ x_19 : Int, x_19 = wrap (x3 + 1) → ∀ x_20 : Int, x_20 = wrap (x4 + (-1)) → G86 μ_18 x_19 x_20))
def b_X11_nextOrder_e (G7 : Mem → Int → Prop) (G47 : Mem → Int → Int → Prop) (G86 : Mem → Int → Int → Prop) (Post : Pst) (μ : Mem) : Prop :=
  ∀ x_21 : Int, x_21 = wrap ((μ 11 0) - 2) → G7 μ x_21
def wp_X11_nextOrder (μ : Mem) (Post : Pst) : Prop := ∀ (G7 : Mem → Int → Prop) (G47 : Mem → Int → Int → Prop) (G86 : Mem → Int → Int → Prop), (∀ μ x1, b_X11_nextOrder_7 G7 G47 G86 Post μ x1 → G7 μ x1) → (∀ μ x1 x2, b_X11_nextOrder_47 G7 G47 G86 Post μ x1 x2 → G47 μ x1 x2) → (∀ μ x3 x4, b_X11_nextOrder_86 G7 G47 G86 Post μ x3 x4 → G86 μ x3 x4) → b_X11_nextOrder_e G7 G47 G86 Post μ
def b_X11_leaves_58 (Post : Pst) (μ : Mem) (x3 : Int) (x5 : Int) : Prop :=
  ((x3 ≤ x5) → Post x5 μ) ∧ ((¬ (x3 ≤ x5)) → Post x3 μ)
def b_X11_leaves_30 (Post : Pst) (μ : Mem) (x3 : Int) (s0 : Int) : Prop :=
  b_X11_leaves_58 Post μ x3 s0
def b_X11_leaves_e (Post : Pst) (μ : Mem) (p0 : Int) (p1 : Int) (p2 : Int) (p3 : Int) : Prop :=
  ((¬ p3 = 0) → ((p0 < p3) → b_X11_leaves_58 Post μ p2 0) ∧ ((¬ (p0 < p3)) → (0 ≤ (wrap ((wrap ((wrap (4 * (wrap (p0 - p3)))) + p1)) + 1)) ∧ (wrap ((wrap ((wrap (4 * (wrap (p0 - p3)))) + p1)) + 1)) < 32) ∧ ∀ x_5 : Int, x_5 = μ 107 (wrap ((wrap ((wrap (4 * (wrap (p0 - p3)))) + p1)) + 1)).toNat → b_X11_leaves_58 Post μ p2 x_5)) ∧ ((p3 = 0) → ((¬ p0 = 0) → (0 ≤ (wrap ((wrap ((wrap (4 * (wrap (p0 - 1)))) + p1)) + 1)) ∧ (wrap ((wrap ((wrap (4 * (wrap (p0 - 1)))) + p1)) + 1)) < 32) ∧ b_X11_leaves_30 Post μ p2 (μ 108 (wrap ((wrap ((wrap (4 * (wrap (p0 - 1)))) + p1)) + 1)).toNat)) ∧ ((p0 = 0) → b_X11_leaves_30 Post μ p2 0))
def wp_X11_leaves (μ : Mem) (p0 : Int) (p1 : Int) (p2 : Int) (p3 : Int) (Post : Pst) : Prop := b_X11_leaves_e Post μ p0 p1 p2 p3
def b_X11_rowEnd_177 (G5 : Mem → Int → Int → Int → Int → Prop) (G17 : Mem → Int → Int → Int → Int → Int → Prop) (Post : Pst) (μ : Mem) (x1 : Int) (x2 : Int) (x4 : Int) (x5 : Int) (x9 : Int) (s1 : Int) (s2 : Int) : Prop :=
  (0 ≤ s1 ∧ s1 < 32) ∧ ∀ μ_2 : Mem, μ_2 = wr μ 108 s1.toNat s2 → ∀ x_3 : Int, x_3 = wrap (x5 + 1) → G17 μ_2 x1 x2 x9 x4 x_3
def b_X11_rowEnd_174 (G5 : Mem → Int → Int → Int → Int → Prop) (G17 : Mem → Int → Int → Int → Int → Int → Prop) (Post : Pst) (μ : Mem) (x1 : Int) (x2 : Int) (x4 : Int) (x5 : Int) (x9 : Int) (s1 : Int) (s3 : Int) (s4 : Int) (s5 : Int) (s6 : Int) : Prop :=
  wp_X11_leaves μ s3 s4 s5 s6 (fun r_4 μ_5 => b_X11_rowEnd_177 G5 G17 Post μ_5 x1 x2 x4 x5 x9 s1 r_4)
def b_X11_rowEnd_87 (G5 : Mem → Int → Int → Int → Int → Prop) (G17 : Mem → Int → Int → Int → Int → Int → Prop) (Post : Pst) (μ : Mem) (x1 : Int) (x2 : Int) (x4 : Int) (x5 : Int) (s0 : Int) : Prop :=
  (0 ≤ x4 ∧ x4 < 8) ∧ (0 ≤ (wrap ((wrap (4 * (μ 103 x4.toNat))) + x5)) ∧ (wrap ((wrap (4 * (μ 103 x4.toNat))) + x5)) < 32) ∧ ∀ x_8 : Int, x_8 = wrap (s0 + (μ 97 (wrap ((wrap (4 * (μ 103 x4.toNat))) + x5)).toNat)) → (0 ≤ (wrap ((wrap (4 * x4)) + x5)) ∧ (wrap ((wrap (4 * x4)) + x5)) < 32) ∧ ∀ μ_10 : Mem, μ_10 = wr μ 107 (wrap ((wrap (4 * x4)) + x5)).toNat s0 → ((¬ x5 = (wrap (x1 - 1))) → ((x2 = 0) → (0 ≤ (wrap (x5 + 1)) ∧ (wrap (x5 + 1)) < 4) ∧ b_X11_rowEnd_174 G5 G17 Post μ_10 x1 x2 x4 x5 x_8 (wrap ((wrap (4 * x4)) + x5)) x4 x5 x_8 (μ_10 98 (wrap (x5 + 1)).toNat)) ∧ ((¬ x2 = 0) → b_X11_rowEnd_174 G5 G17 Post μ_10 x1 x2 x4 x5 x_8 (wrap ((wrap (4 * x4)) + x5)) x4 x5 x_8 9)) ∧ ((x5 = (wrap (x1 - 1))) → b_X11_rowEnd_177 G5 G17 Post μ_10 x1 x2 x4 x5 x_8 (wrap ((wrap (4 * x4)) + x5)) x_8)
def b_X11_rowEnd_71 (G5 : Mem → Int → Int → Int → Int → Prop) (G17 : Mem → Int → Int → Int → Int → Int → Prop) (Post : Pst) (μ : Mem) (x1 : Int) (x2 : Int) (x4 : Int) (x5 : Int) (x6 : Int) (s0 : Int) : Prop :=
  ((x6 ≤ s0) → b_X11_rowEnd_87 G5 G17 Post μ x1 x2 x4 x5 s0) ∧ ((¬ (x6 ≤ s0)) → b_X11_rowEnd_87 G5 G17 Post μ x1 x2 x4 x5 x6)
def b_X11_rowEnd_46 (G5 : Mem → Int → Int → Int → Int → Prop) (G17 : Mem → Int → Int → Int → Int → Int → Prop) (Post : Pst) (μ : Mem) (x1 : Int) (x2 : Int) (x4 : Int) (x5 : Int) (s0 : Int) : Prop :=
  ((¬ x4 = 0) → (0 ≤ (wrap ((wrap (4 * (wrap (x4 - 1)))) + x5)) ∧ (wrap ((wrap (4 * (wrap (x4 - 1)))) + x5)) < 32) ∧ b_X11_rowEnd_71 G5 G17 Post μ x1 x2 x4 x5 s0 (μ 108 (wrap ((wrap (4 * (wrap (x4 - 1)))) + x5)).toNat)) ∧ ((x4 = 0) → b_X11_rowEnd_71 G5 G17 Post μ x1 x2 x4 x5 s0 0)
def b_X11_rowEnd_5 (G5 : Mem → Int → Int → Int → Int → Prop) (G17 : Mem → Int → Int → Int → Int → Int → Prop) (Post : Pst) (μ : Mem) (x1 : Int) (x2 : Int) (x3 : Int) (x4 : Int) : Prop :=
  (((μ 11 0) ≤ x4) → Post x3 μ) ∧ ((¬ ((μ 11 0) ≤ x4)) → G17 μ x1 x2 x3 x4 0)
def b_X11_rowEnd_17 (G5 : Mem → Int → Int → Int → Int → Prop) (G17 : Mem → Int → Int → Int → Int → Int → Prop) (Post : Pst) (μ : Mem) (x1 : Int) (x2 : Int) (x3 : Int) (x4 : Int) (x5 : Int) : Prop :=
  ((x1 ≤ x5) → ∀ x_19 : Int, x_19 = wrap (x4 + 1) → G5 μ x1 x2 x3 x_19) ∧ ((¬ (x1 ≤ x5)) → ((¬ x5 = 0) → (0 ≤ (wrap ((wrap ((wrap (4 * x4)) + x5)) - 1)) ∧ (wrap ((wrap ((wrap (4 * x4)) + x5)) - 1)) < 32) ∧ b_X11_rowEnd_46 G5 G17 Post μ x1 x2 x4 x5 (μ 108 (wrap ((wrap ((wrap (4 * x4)) + x5)) - 1)).toNat)) ∧ ((x5 = 0) → b_X11_rowEnd_46 G5 G17 Post μ x1 x2 x4 x5 0))
def b_X11_rowEnd_e (G5 : Mem → Int → Int → Int → Int → Prop) (G17 : Mem → Int → Int → Int → Int → Int → Prop) (Post : Pst) (μ : Mem) (p0 : Int) (p1 : Int) : Prop :=
  G5 μ p0 p1 0 0
def wp_X11_rowEnd (μ : Mem) (p0 : Int) (p1 : Int) (Post : Pst) : Prop := ∀ (G5 : Mem → Int → Int → Int → Int → Prop) (G17 : Mem → Int → Int → Int → Int → Int → Prop), (∀ μ x1 x2 x3 x4, b_X11_rowEnd_5 G5 G17 Post μ x1 x2 x3 x4 → G5 μ x1 x2 x3 x4) → (∀ μ x1 x2 x3 x4 x5, b_X11_rowEnd_17 G5 G17 Post μ x1 x2 x3 x4 x5 → G17 μ x1 x2 x3 x4 x5) → b_X11_rowEnd_e G5 G17 Post μ p0 p1
def b_X11_goOver_58 (G8 : Mem → Int → Int → Int → Prop) (G64 : Mem → Int → Int → Int → Prop) (Post : Pst) (μ : Mem) (x1 : Int) (x4 : Int) : Prop :=
  G64 μ x1 x4 0
def b_X11_goOver_93 (G8 : Mem → Int → Int → Int → Prop) (G64 : Mem → Int → Int → Int → Prop) (Post : Pst) (μ : Mem) (x1 : Int) (x2 : Int) : Prop :=
  wp_X11_nextOrder μ (fun r_1 μ_2 => G8 μ_2 x1 x2 r_1)
def b_X11_goOver_46 (G8 : Mem → Int → Int → Int → Prop) (G64 : Mem → Int → Int → Int → Prop) (Post : Pst) (μ : Mem) (x1 : Int) (x2 : Int) (s0 : Int) : Prop :=
  ((x2 < 0) → b_X11_goOver_58 G8 G64 Post μ x1 s0) ∧ ((¬ (x2 < 0)) → ((x2 ≤ s0) → b_X11_goOver_93 G8 G64 Post μ x1 x2) ∧ ((¬ (x2 ≤ s0)) → b_X11_goOver_58 G8 G64 Post μ x1 s0))
def b_X11_goOver_24 (G8 : Mem → Int → Int → Int → Prop) (G64 : Mem → Int → Int → Int → Prop) (Post : Pst) (μ : Mem) (x1 : Int) (x2 : Int) : Prop :=
  ((¬ x1 = 5) → wp_X11_makes μ x1 (fun r_6 μ_7 => b_X11_goOver_46 G8 G64 Post μ_7 x1 x2 r_6)) ∧ ((x1 = 5) → wp_X11_rowEnd μ (μ 11 9) 0 (fun r_8 μ_9 => b_X11_goOver_46 G8 G64 Post μ_9 x1 x2 r_8))
def b_X11_goOver_8 (G8 : Mem → Int → Int → Int → Prop) (G64 : Mem → Int → Int → Int → Prop) (Post : Pst) (μ : Mem) (x1 : Int) (x2 : Int) (x3 : Int) : Prop :=
  ((x3 = 0) → Post x2 μ) ∧ ((¬ x3 = 0) → ((x1 = 5) → b_X11_goOver_24 G8 G64 Post μ x1 x2) ∧ ((¬ x1 = 5) → wp_X11_isLawful μ (fun r_12 μ_13 => ((r_12 = 0) → b_X11_goOver_93 G8 G64 Post μ_13 x1 x2) ∧ ((¬ r_12 = 0) → b_X11_goOver_24 G8 G64 Post μ_13 x1 x2))))
def b_X11_goOver_64 (G8 : Mem → Int → Int → Int → Prop) (G64 : Mem → Int → Int → Int → Prop) (Post : Pst) (μ : Mem) (x1 : Int) (x2 : Int) (x5 : Int) : Prop :=
  (((μ 11 0) ≤ x5) → b_X11_goOver_93 G8 G64 Post μ x1 x2) ∧ ((¬ ((μ 11 0) ≤ x5)) → (0 ≤ x5 ∧ x5 < 8) ∧ (0 ≤ x5 ∧ x5 < 8) ∧ ∀ μ_18 : Mem, μ_18 = wr μ 104 x5.toNat (μ 103 x5.toNat) → ∀ x_19 : Int, x_19 = wrap (x5 + 1) → G64 μ_18 x1 x2 x_19)
def b_X11_goOver_e (G8 : Mem → Int → Int → Int → Prop) (G64 : Mem → Int → Int → Int → Prop) (Post : Pst) (μ : Mem) (p0 : Int) : Prop :=
  wp_X11_firstOrder μ (fun _ μ_21 => G8 μ_21 p0 (-1) 1)
def wp_X11_goOver (μ : Mem) (p0 : Int) (Post : Pst) : Prop := ∀ (G8 : Mem → Int → Int → Int → Prop) (G64 : Mem → Int → Int → Int → Prop), (∀ μ x1 x2 x3, b_X11_goOver_8 G8 G64 Post μ x1 x2 x3 → G8 μ x1 x2 x3) → (∀ μ x1 x2 x5, b_X11_goOver_64 G8 G64 Post μ x1 x2 x5 → G64 μ x1 x2 x5) → b_X11_goOver_e G8 G64 Post μ p0
def b_X11_isPlace_e (Post : Pst) (μ : Mem) (p0 : Int) : Prop :=
  wp_X11_in μ p0 (-1) (wrap ((μ 11 0) - 1)) (fun r_1 μ_2 => ((r_1 = 0 ∨ r_1 = 1) ∧ Post r_1 μ_2))
def wp_X11_isPlace (μ : Mem) (p0 : Int) (Post : Pst) : Prop := b_X11_isPlace_e Post μ p0
def b_X11_best_e (Post : Pst) (μ : Mem) (p0 : Int) (p1 : Int) : Prop :=
  wp_X11_in μ p0 0 4 (fun r_1 μ_2 => ((r_1 = 0) → Post (-10) μ_2) ∧ ((¬ r_1 = 0) → wp_X11_isPlace μ_2 p1 (fun r_4 μ_5 => ((¬ r_4 = 0) → wp_X11_goOver μ_5 p0 (fun r_7 μ_8 => ((¬ p1 = (-1)) → (0 ≤ p1 ∧ p1 < 8) ∧ Post (μ_8 104 p1.toNat) μ_8) ∧ ((p1 = (-1)) → Post r_7 μ_8))) ∧ ((r_4 = 0) → Post (-10) μ_5))))
def wp_X11_best (μ : Mem) (p0 : Int) (p1 : Int) (Post : Pst) : Prop := b_X11_best_e Post μ p0 p1
def b_X11_bestRow_e (Post : Pst) (μ : Mem) (p0 : Int) : Prop :=
  wp_X11_isPlace μ p0 (fun r_1 μ_2 => ((¬ r_1 = 0) → wp_X11_goOver μ_2 5 (fun r_4 μ_5 => ((¬ p0 = (-1)) → (0 ≤ p0 ∧ p0 < 8) ∧ Post (μ_5 104 p0.toNat) μ_5) ∧ ((p0 = (-1)) → Post r_4 μ_5))) ∧ ((r_1 = 0) → Post (-10) μ_2))
def wp_X11_bestRow (μ : Mem) (p0 : Int) (Post : Pst) : Prop := b_X11_bestRow_e Post μ p0
def b_X11_bound_112 (G4 : Mem → Int → Int → Prop) (G34 : Mem → Int → Int → Int → Int → Int → Int → Prop) (G52 : Mem → Int → Int → Int → Int → Int → Int → Int → Int → Int → Prop) (Post : Pst) (μ : Mem) (x1 : Int) (x2 : Int) (x3 : Int) (x4 : Int) (x5 : Int) (x6 : Int) (x7 : Int) (x9 : Int) (s0 : Int) (s1 : Int) : Prop :=
  ∀ x_1 : Int, x_1 = wrap (s0 + s1) → ∀ x_2 : Int, x_2 = wrap (x9 + 1) → G52 μ x1 x2 x3 x4 x5 x6 x7 x_1 x_2
def b_X11_bound_85 (G4 : Mem → Int → Int → Prop) (G34 : Mem → Int → Int → Int → Int → Int → Int → Prop) (G52 : Mem → Int → Int → Int → Int → Int → Int → Int → Int → Int → Prop) (Post : Pst) (μ : Mem) (x1 : Int) (x2 : Int) (x3 : Int) (x4 : Int) (x5 : Int) (x6 : Int) (x8 : Int) (x9 : Int) (s0 : Int) (s1 : Int) : Prop :=
  ∀ x_3 : Int, x_3 = wrap (s0 + s1) → ((x9 ≤ x2) → b_X11_bound_112 G4 G34 G52 Post μ x1 x2 x3 x4 x5 x6 x_3 x9 x8 0) ∧ ((¬ (x9 ≤ x2)) → (0 ≤ (wrap ((wrap (4 * x6)) + x9)) ∧ (wrap ((wrap (4 * x6)) + x9)) < 32) ∧ b_X11_bound_112 G4 G34 G52 Post μ x1 x2 x3 x4 x5 x6 x_3 x9 x8 (μ 97 (wrap ((wrap (4 * x6)) + x9)).toNat))
def b_X11_bound_165 (G4 : Mem → Int → Int → Prop) (G34 : Mem → Int → Int → Int → Int → Int → Int → Prop) (G52 : Mem → Int → Int → Int → Int → Int → Int → Int → Int → Int → Prop) (Post : Pst) (μ : Mem) (x1 : Int) (x2 : Int) (x3 : Int) (x4 : Int) (x6 : Int) (s0 : Int) : Prop :=
  ∀ x_6 : Int, x_6 = wrap (x6 + 1) → G34 μ x1 x2 x3 x4 s0 x_6
def b_X11_bound_149 (G4 : Mem → Int → Int → Prop) (G34 : Mem → Int → Int → Int → Int → Int → Int → Prop) (G52 : Mem → Int → Int → Int → Int → Int → Int → Int → Int → Int → Prop) (Post : Pst) (μ : Mem) (x1 : Int) (x2 : Int) (x3 : Int) (x5 : Int) (x6 : Int) (x8 : Int) (s0 : Int) : Prop :=
  ((x5 ≤ x8) → b_X11_bound_165 G4 G34 G52 Post μ x1 x2 x3 s0 x6 x5) ∧ ((¬ (x5 ≤ x8)) → b_X11_bound_165 G4 G34 G52 Post μ x1 x2 x3 s0 x6 x8)
def b_X11_bound_195 (G4 : Mem → Int → Int → Prop) (G34 : Mem → Int → Int → Int → Int → Int → Int → Prop) (G52 : Mem → Int → Int → Int → Int → Int → Int → Int → Int → Int → Prop) (Post : Pst) (μ : Mem) (x2 : Int) (s0 : Int) : Prop :=
  ∀ x_8 : Int, x_8 = wrap (x2 + 1) → G4 μ s0 x_8
def b_X11_bound_4 (G4 : Mem → Int → Int → Prop) (G34 : Mem → Int → Int → Int → Int → Int → Int → Prop) (G52 : Mem → Int → Int → Int → Int → Int → Int → Int → Int → Int → Prop) (Post : Pst) (μ : Mem) (x1 : Int) (x2 : Int) : Prop :=
  (((μ 11 9) ≤ x2) → Post x1 μ) ∧ ((¬ ((μ 11 9) ≤ x2)) → (((μ 11 0) ≤ 0) → Post x1 μ) ∧ ((¬ ((μ 11 0) ≤ 0)) → G34 μ x1 x2 0 1000 1000 0))
def b_X11_bound_34 (G4 : Mem → Int → Int → Prop) (G34 : Mem → Int → Int → Int → Int → Int → Int → Prop) (G52 : Mem → Int → Int → Int → Int → Int → Int → Int → Int → Int → Prop) (Post : Pst) (μ : Mem) (x1 : Int) (x2 : Int) (x3 : Int) (x4 : Int) (x5 : Int) (x6 : Int) : Prop :=
  (((μ 11 0) ≤ x6) → (((wrap ((wrap (x3 + x4)) + x5)) ≤ x1) → b_X11_bound_195 G4 G34 G52 Post μ x2 x1) ∧ ((¬ ((wrap ((wrap (x3 + x4)) + x5)) ≤ x1)) → b_X11_bound_195 G4 G34 G52 Post μ x2 (wrap ((wrap (x3 + x4)) + x5)))) ∧ ((¬ ((μ 11 0) ≤ x6)) → G52 μ x1 x2 x3 x4 x5 x6 0 0 0)
def b_X11_bound_52 (G4 : Mem → Int → Int → Prop) (G34 : Mem → Int → Int → Int → Int → Int → Int → Prop) (G52 : Mem → Int → Int → Int → Int → Int → Int → Int → Int → Int → Prop) (Post : Pst) (μ : Mem) (x1 : Int) (x2 : Int) (x3 : Int) (x4 : Int) (x5 : Int) (x6 : Int) (x7 : Int) (x8 : Int) (x9 : Int) : Prop :=
  (((μ 11 9) ≤ x9) → (0 ≤ (wrap ((wrap (4 * x6)) + x2)) ∧ (wrap ((wrap (4 * x6)) + x2)) < 32) ∧ ∀ x_15 : Int, x_15 = wrap (x3 + (μ 97 (wrap ((wrap (4 * x6)) + x2)).toNat)) → ((x4 ≤ x7) → b_X11_bound_149 G4 G34 G52 Post μ x1 x2 x_15 x5 x6 x8 x4) ∧ ((¬ (x4 ≤ x7)) → b_X11_bound_149 G4 G34 G52 Post μ x1 x2 x_15 x5 x6 x8 x7)) ∧ ((¬ ((μ 11 9) ≤ x9)) → ((x2 ≤ x9) → b_X11_bound_85 G4 G34 G52 Post μ x1 x2 x3 x4 x5 x6 x8 x9 x7 0) ∧ ((¬ (x2 ≤ x9)) → (0 ≤ (wrap ((wrap (4 * x6)) + x9)) ∧ (wrap ((wrap (4 * x6)) + x9)) < 32) ∧ b_X11_bound_85 G4 G34 G52 Post μ x1 x2 x3 x4 x5 x6 x8 x9 x7 (μ 97 (wrap ((wrap (4 * x6)) + x9)).toNat)))
def b_X11_bound_e (G4 : Mem → Int → Int → Prop) (G34 : Mem → Int → Int → Int → Int → Int → Int → Prop) (G52 : Mem → Int → Int → Int → Int → Int → Int → Int → Int → Int → Prop) (Post : Pst) (μ : Mem) : Prop :=
  G4 μ 0 0
def wp_X11_bound (μ : Mem) (Post : Pst) : Prop := ∀ (G4 : Mem → Int → Int → Prop) (G34 : Mem → Int → Int → Int → Int → Int → Int → Prop) (G52 : Mem → Int → Int → Int → Int → Int → Int → Int → Int → Int → Prop), (∀ μ x1 x2, b_X11_bound_4 G4 G34 G52 Post μ x1 x2 → G4 μ x1 x2) → (∀ μ x1 x2 x3 x4 x5 x6, b_X11_bound_34 G4 G34 G52 Post μ x1 x2 x3 x4 x5 x6 → G34 μ x1 x2 x3 x4 x5 x6) → (∀ μ x1 x2 x3 x4 x5 x6 x7 x8 x9, b_X11_bound_52 G4 G34 G52 Post μ x1 x2 x3 x4 x5 x6 x7 x8 x9 → G52 μ x1 x2 x3 x4 x5 x6 x7 x8 x9) → b_X11_bound_e G4 G34 G52 Post μ
def b_X11_goBroken_113 (G4 : Mem → Int → Int → Prop) (G32 : Mem → Int → Int → Prop) (G44 : Mem → Int → Int → Int → Int → Prop) (Post : Pst) (μ : Mem) (x1 : Int) (x2 : Int) (x4 : Int) (s0 : Int) : Prop :=
  ∀ x_1 : Int, x_1 = wrap (x4 + 1) → G44 μ x1 x2 s0 x_1
def b_X11_goBroken_112 (G4 : Mem → Int → Int → Prop) (G32 : Mem → Int → Int → Prop) (G44 : Mem → Int → Int → Int → Int → Prop) (Post : Pst) (μ : Mem) (x1 : Int) (x2 : Int) (x3 : Int) (x4 : Int) : Prop :=
  b_X11_goBroken_113 G4 G32 G44 Post μ x1 x2 x4 x3
def b_X11_goBroken_107 (G4 : Mem → Int → Int → Prop) (G32 : Mem → Int → Int → Prop) (G44 : Mem → Int → Int → Int → Int → Prop) (Post : Pst) (μ : Mem) (x1 : Int) (x2 : Int) (x4 : Int) : Prop :=
  b_X11_goBroken_113 G4 G32 G44 Post μ x1 x2 x4 x4
def b_X11_goBroken_79 (G4 : Mem → Int → Int → Prop) (G32 : Mem → Int → Int → Prop) (G44 : Mem → Int → Int → Int → Int → Prop) (Post : Pst) (μ : Mem) (x1 : Int) (x2 : Int) (x3 : Int) (x4 : Int) (s0 : Int) : Prop :=
  ((s0 = 0) → b_X11_goBroken_112 G4 G32 G44 Post μ x1 x2 x3 x4) ∧ ((¬ s0 = 0) → ((x3 = (-1)) → b_X11_goBroken_107 G4 G32 G44 Post μ x1 x2 x4) ∧ ((¬ x3 = (-1)) → (0 ≤ x4 ∧ x4 < 8) ∧ (0 ≤ x3 ∧ x3 < 8) ∧ (((μ 92 x3.toNat) ≤ (μ 92 x4.toNat)) → b_X11_goBroken_112 G4 G32 G44 Post μ x1 x2 x3 x4) ∧ ((¬ ((μ 92 x3.toNat) ≤ (μ 92 x4.toNat))) → b_X11_goBroken_107 G4 G32 G44 Post μ x1 x2 x4)))
def b_X11_goBroken_78 (G4 : Mem → Int → Int → Prop) (G32 : Mem → Int → Int → Prop) (G44 : Mem → Int → Int → Int → Int → Prop) (Post : Pst) (μ : Mem) (x1 : Int) (x2 : Int) (x3 : Int) (x4 : Int) : Prop :=
  b_X11_goBroken_79 G4 G32 G44 Post μ x1 x2 x3 x4 0
def b_X11_goBroken_180 (G4 : Mem → Int → Int → Prop) (G32 : Mem → Int → Int → Prop) (G44 : Mem → Int → Int → Int → Int → Prop) (Post : Pst) (μ : Mem) (x1 : Int) (x2 : Int) : Prop :=
  ∀ x_7 : Int, x_7 = wrap (x2 + 1) → G32 μ x1 x_7
def b_X11_goBroken_179 (G4 : Mem → Int → Int → Prop) (G32 : Mem → Int → Int → Prop) (G44 : Mem → Int → Int → Int → Int → Prop) (Post : Pst) (μ : Mem) (x2 : Int) (s0 : Int) : Prop :=
  b_X11_goBroken_180 G4 G32 G44 Post μ s0 x2
def b_X11_goBroken_178 (G4 : Mem → Int → Int → Prop) (G32 : Mem → Int → Int → Prop) (G44 : Mem → Int → Int → Int → Int → Prop) (Post : Pst) (μ : Mem) (x1 : Int) (x2 : Int) : Prop :=
  b_X11_goBroken_179 G4 G32 G44 Post μ x2 x1
def b_X11_goBroken_4 (G4 : Mem → Int → Int → Prop) (G32 : Mem → Int → Int → Prop) (G44 : Mem → Int → Int → Int → Int → Prop) (Post : Pst) (μ : Mem) (x1 : Int) (x2 : Int) : Prop :=
  (((μ 11 0) ≤ x2) → G32 μ x1 0) ∧ ((¬ ((μ 11 0) ≤ x2)) → (0 ≤ x2 ∧ x2 < 8) ∧ (0 ≤ x2 ∧ x2 < 8) ∧ ∀ μ_11 : Mem, μ_11 = wr μ 106 x2.toNat (μ 90 x2.toNat) → ∀ x_12 : Int, x_12 = wrap (x2 + 1) → G4 μ_11 x1 x_12)
def b_X11_goBroken_32 (G4 : Mem → Int → Int → Prop) (G32 : Mem → Int → Int → Prop) (G44 : Mem → Int → Int → Int → Int → Prop) (Post : Pst) (μ : Mem) (x1 : Int) (x2 : Int) : Prop :=
  ((1000 ≤ x2) → Post x1 μ) ∧ ((¬ (1000 ≤ x2)) → G44 μ x1 x2 (-1) 0)
def b_X11_goBroken_44 (G4 : Mem → Int → Int → Prop) (G32 : Mem → Int → Int → Prop) (G44 : Mem → Int → Int → Int → Int → Prop) (Post : Pst) (μ : Mem) (x1 : Int) (x2 : Int) (x3 : Int) (x4 : Int) : Prop :=
  (((μ 11 0) ≤ x4) → (0 ≤ x2 ∧ x2 < 1000) ∧ ∀ μ_16 : Mem, μ_16 = wr μ 105 x2.toNat x3 → ((x3 = (-1)) → b_X11_goBroken_180 G4 G32 G44 Post μ_16 x1 x2) ∧ ((¬ x3 = (-1)) → (0 ≤ x3 ∧ x3 < 8) ∧ (0 ≤ x3 ∧ x3 < 8) ∧ ∀ μ_20 : Mem, μ_20 = wr μ_16 106 x3.toNat (wrap ((μ_16 106 x3.toNat) - 1)) → (0 ≤ x3 ∧ x3 < 8) ∧ ((¬ (μ_20 106 x3.toNat) = 0) → b_X11_goBroken_178 G4 G32 G44 Post μ_20 x1 x2) ∧ (((μ_20 106 x3.toNat) = 0) → (0 ≤ x3 ∧ x3 < 8) ∧ (((wrap ((wrap (x2 + 1)) - (μ_20 92 x3.toNat))) ≤ x1) → b_X11_goBroken_178 G4 G32 G44 Post μ_20 x1 x2) ∧ ((¬ ((wrap ((wrap (x2 + 1)) - (μ_20 92 x3.toNat))) ≤ x1)) → (0 ≤ x3 ∧ x3 < 8) ∧ b_X11_goBroken_179 G4 G32 G44 Post μ_20 x2 (wrap ((wrap (x2 + 1)) - (μ_20 92 x3.toNat))))))) ∧ ((¬ ((μ 11 0) ≤ x4)) → (0 ≤ x4 ∧ x4 < 8) ∧ ((x2 < (μ 91 x4.toNat)) → b_X11_goBroken_78 G4 G32 G44 Post μ x1 x2 x3 x4) ∧ ((¬ (x2 < (μ 91 x4.toNat))) → (0 ≤ x4 ∧ x4 < 8) ∧ (((μ 106 x4.toNat) ≤ 0) → b_X11_goBroken_78 G4 G32 G44 Post μ x1 x2 x3 x4) ∧ ((¬ ((μ 106 x4.toNat) ≤ 0)) → b_X11_goBroken_79 G4 G32 G44 Post μ x1 x2 x3 x4 1)))
def b_X11_goBroken_e (G4 : Mem → Int → Int → Prop) (G32 : Mem → Int → Int → Prop) (G44 : Mem → Int → Int → Int → Int → Prop) (Post : Pst) (μ : Mem) : Prop :=
  G4 μ 0 0
def wp_X11_goBroken (μ : Mem) (Post : Pst) : Prop := ∀ (G4 : Mem → Int → Int → Prop) (G32 : Mem → Int → Int → Prop) (G44 : Mem → Int → Int → Int → Int → Prop), (∀ μ x1 x2, b_X11_goBroken_4 G4 G32 G44 Post μ x1 x2 → G4 μ x1 x2) → (∀ μ x1 x2, b_X11_goBroken_32 G4 G32 G44 Post μ x1 x2 → G32 μ x1 x2) → (∀ μ x1 x2 x3 x4, b_X11_goBroken_44 G4 G32 G44 Post μ x1 x2 x3 x4 → G44 μ x1 x2 x3 x4) → b_X11_goBroken_e G4 G32 G44 Post μ
def b_X11_broken_115 (G45 : Mem → Int → Int → Int → Int → Int → Prop) (G55 : Mem → Int → Int → Int → Int → Int → Int → Prop) (G69 : Mem → Int → Int → Int → Int → Int → Int → Int → Int → Prop) (Post : Pst) (μ : Mem) (x1 : Int) (x3 : Int) (x4 : Int) (x5 : Int) (x6 : Int) (x7 : Int) (x9 : Int) (s0 : Int) (s1 : Int) : Prop :=
  ∀ x_1 : Int, x_1 = wrap (s0 + s1) → ∀ x_2 : Int, x_2 = wrap (x9 + 1) → G69 μ x1 x3 x4 x5 x6 x7 x_1 x_2
def b_X11_broken_114 (G45 : Mem → Int → Int → Int → Int → Int → Prop) (G55 : Mem → Int → Int → Int → Int → Int → Int → Prop) (G69 : Mem → Int → Int → Int → Int → Int → Int → Int → Int → Prop) (Post : Pst) (μ : Mem) (x1 : Int) (x3 : Int) (x4 : Int) (x5 : Int) (x6 : Int) (x7 : Int) (x9 : Int) (s0 : Int) : Prop :=
  b_X11_broken_115 G45 G55 G69 Post μ x1 x3 x4 x5 x6 x7 x9 s0 0
def b_X11_broken_158 (G45 : Mem → Int → Int → Int → Int → Int → Prop) (G55 : Mem → Int → Int → Int → Int → Int → Int → Prop) (G69 : Mem → Int → Int → Int → Int → Int → Int → Int → Int → Prop) (Post : Pst) (μ : Mem) (x1 : Int) (x3 : Int) (x4 : Int) (x5 : Int) (x6 : Int) (x7 : Int) : Prop :=
  ∀ x_3 : Int, x_3 = wrap (x7 + 1) → G55 μ x1 x3 x4 x5 x6 x_3
def b_X11_broken_45 (G45 : Mem → Int → Int → Int → Int → Int → Prop) (G55 : Mem → Int → Int → Int → Int → Int → Int → Prop) (G69 : Mem → Int → Int → Int → Int → Int → Int → Int → Int → Prop) (Post : Pst) (μ : Mem) (x1 : Int) (x3 : Int) (x4 : Int) (x5 : Int) (x6 : Int) : Prop :=
  ((100 ≤ x6) → ((¬ x1 = 1) → Post x5 μ) ∧ ((x1 = 1) → Post x4 μ)) ∧ ((¬ (100 ≤ x6)) → G55 μ x1 x3 x4 x5 x6 0)
def b_X11_broken_55 (G45 : Mem → Int → Int → Int → Int → Int → Prop) (G55 : Mem → Int → Int → Int → Int → Int → Int → Prop) (G69 : Mem → Int → Int → Int → Int → Int → Int → Int → Int → Prop) (Post : Pst) (μ : Mem) (x1 : Int) (x3 : Int) (x4 : Int) (x5 : Int) (x6 : Int) (x7 : Int) : Prop :=
  ((300 < x7) → ∀ x_7 : Int, x_7 = wrap (x6 + 1) → G45 μ x1 x3 x4 x5 x_7) ∧ ((¬ (300 < x7)) → G69 μ x1 x3 x4 x5 x6 x7 0 0)
def b_X11_broken_69 (G45 : Mem → Int → Int → Int → Int → Int → Prop) (G55 : Mem → Int → Int → Int → Int → Int → Int → Prop) (G69 : Mem → Int → Int → Int → Int → Int → Int → Int → Int → Prop) (Post : Pst) (μ : Mem) (x1 : Int) (x3 : Int) (x4 : Int) (x5 : Int) (x6 : Int) (x7 : Int) (x8 : Int) (x9 : Int) : Prop :=
  (((μ 11 0) ≤ x9) → ((x8 ≤ 0) → b_X11_broken_158 G45 G55 G69 Post μ x1 x3 x4 x5 x6 x7) ∧ ((¬ (x8 ≤ 0)) → (((wrap ((wrap (x6 + x8)) - x7)) ≤ x3) → b_X11_broken_158 G45 G55 G69 Post μ x1 x3 x4 x5 x6 x7) ∧ ((¬ ((wrap ((wrap (x6 + x8)) - x7)) ≤ x3)) → ∀ x_11 : Int, x_11 = wrap ((wrap (x6 + x8)) - x7) → b_X11_broken_158 G45 G55 G69 Post μ x1 x_11 x6 x7 x6 x7))) ∧ ((¬ ((μ 11 0) ≤ x9)) → (0 ≤ x9 ∧ x9 < 8) ∧ (((μ 91 x9.toNat) < x6) → b_X11_broken_114 G45 G55 G69 Post μ x1 x3 x4 x5 x6 x7 x9 x8) ∧ ((¬ ((μ 91 x9.toNat) < x6)) → (0 ≤ x9 ∧ x9 < 8) ∧ ((x7 < (μ 92 x9.toNat)) → b_X11_broken_114 G45 G55 G69 Post μ x1 x3 x4 x5 x6 x7 x9 x8) ∧ ((¬ (x7 < (μ 92 x9.toNat))) → (0 ≤ x9 ∧ x9 < 8) ∧ b_X11_broken_115 G45 G55 G69 Post μ x1 x3 x4 x5 x6 x7 x9 x8 (μ 90 x9.toNat))))
def b_X11_broken_e (G45 : Mem → Int → Int → Int → Int → Int → Prop) (G55 : Mem → Int → Int → Int → Int → Int → Int → Prop) (G69 : Mem → Int → Int → Int → Int → Int → Int → Int → Int → Prop) (Post : Pst) (μ : Mem) (p0 : Int) : Prop :=
  wp_X11_in μ p0 0 2 (fun r_17 μ_18 => ((¬ r_17 = 0) → wp_X11_goBroken μ_18 (fun r_20 μ_21 => ((¬ p0 = 0) → ((¬ r_20 = 0) → G45 μ_21 p0 (-1000) (-1) (-1) 0) ∧ ((r_20 = 0) → Post (-1) μ_21)) ∧ ((p0 = 0) → Post r_20 μ_21))) ∧ ((r_17 = 0) → Post (-2) μ_18))
def wp_X11_broken (μ : Mem) (p0 : Int) (Post : Pst) : Prop := ∀ (G45 : Mem → Int → Int → Int → Int → Int → Prop) (G55 : Mem → Int → Int → Int → Int → Int → Int → Prop) (G69 : Mem → Int → Int → Int → Int → Int → Int → Int → Int → Prop), (∀ μ x1 x3 x4 x5 x6, b_X11_broken_45 G45 G55 G69 Post μ x1 x3 x4 x5 x6 → G45 μ x1 x3 x4 x5 x6) → (∀ μ x1 x3 x4 x5 x6 x7, b_X11_broken_55 G45 G55 G69 Post μ x1 x3 x4 x5 x6 x7 → G55 μ x1 x3 x4 x5 x6 x7) → (∀ μ x1 x3 x4 x5 x6 x7 x8 x9, b_X11_broken_69 G45 G55 G69 Post μ x1 x3 x4 x5 x6 x7 x8 x9 → G69 μ x1 x3 x4 x5 x6 x7 x8 x9) → b_X11_broken_e G45 G55 G69 Post μ p0
def b_X11_byDue_61 (G6 : Mem → Int → Prop) (G16 : Mem → Int → Int → Prop) (Post : Pst) (μ : Mem) (x1 : Int) (x2 : Int) : Prop :=
  ∀ x_1 : Int, x_1 = wrap (x2 + 1) → G16 μ x1 x_1
def b_X11_byDue_6 (G6 : Mem → Int → Prop) (G16 : Mem → Int → Int → Prop) (Post : Pst) (μ : Mem) (x1 : Int) : Prop :=
  (((μ 11 0) ≤ x1) → Post 0 μ) ∧ ((¬ ((μ 11 0) ≤ x1)) → G16 μ x1 0)
def b_X11_byDue_16 (G6 : Mem → Int → Prop) (G16 : Mem → Int → Int → Prop) (Post : Pst) (μ : Mem) (x1 : Int) (x2 : Int) : Prop :=
  (((μ 11 0) ≤ (wrap (x2 + 1))) → ∀ x_4 : Int, x_4 = wrap (x1 + 1) → G6 μ x_4) ∧ ((¬ ((μ 11 0) ≤ (wrap (x2 + 1)))) → (0 ≤ x2 ∧ x2 < 8) ∧ (0 ≤ (μ 103 x2.toNat) ∧ (μ 103 x2.toNat) < 8) ∧ (0 ≤ (wrap (x2 + 1)) ∧ (wrap (x2 + 1)) < 8) ∧ (0 ≤ (μ 103 (wrap (x2 + 1)).toNat) ∧ (μ 103 (wrap (x2 + 1)).toNat) < 8) ∧ (((μ 92 (μ 103 x2.toNat).toNat) ≤ (μ 92 (μ 103 (wrap (x2 + 1)).toNat).toNat)) → b_X11_byDue_61 G6 G16 Post μ x1 x2) ∧ ((¬ ((μ 92 (μ 103 x2.toNat).toNat) ≤ (μ 92 (μ 103 (wrap (x2 + 1)).toNat).toNat))) → wp_X11_swap μ x2 (wrap (x2 + 1)) (fun _ μ_11 => b_X11_byDue_61 G6 G16 Post μ_11 x1 x2)))
def b_X11_byDue_e (G6 : Mem → Int → Prop) (G16 : Mem → Int → Int → Prop) (Post : Pst) (μ : Mem) : Prop :=
  wp_X11_firstOrder μ (fun _ μ_13 => G6 μ_13 0)
def wp_X11_byDue (μ : Mem) (Post : Pst) : Prop := ∀ (G6 : Mem → Int → Prop) (G16 : Mem → Int → Int → Prop), (∀ μ x1, b_X11_byDue_6 G6 G16 Post μ x1 → G6 μ x1) → (∀ μ x1 x2, b_X11_byDue_16 G6 G16 Post μ x1 x2 → G16 μ x1 x2) → b_X11_byDue_e G6 G16 Post μ
def b_X11_isSooner_108 (Post : Pst) (μ : Mem) (x1 : Int) (x2 : Int) (s0 : Int) : Prop :=
  ((s0 < 0) → Post 1 μ) ∧ ((¬ (s0 < 0)) → ((¬ s0 = 0) → Post 0 μ) ∧ ((s0 = 0) → ((x2 ≤ x1) → Post 0 μ) ∧ ((¬ (x2 ≤ x1)) → Post 1 μ)))
def b_X11_isSooner_53 (Post : Pst) (μ : Mem) (x1 : Int) (x2 : Int) (x3 : Int) (s0 : Int) : Prop :=
  ((x3 = s0) → ((x3 = 0) → (0 ≤ (wrap ((wrap (4 * x2)) + 1)) ∧ (wrap ((wrap (4 * x2)) + 1)) < 32) ∧ (0 ≤ (wrap ((wrap (4 * x1)) + 1)) ∧ (wrap ((wrap (4 * x1)) + 1)) < 32) ∧ b_X11_isSooner_108 Post μ x1 x2 (wrap ((μ 97 (wrap ((wrap (4 * x2)) + 1)).toNat) - (μ 97 (wrap ((wrap (4 * x1)) + 1)).toNat)))) ∧ ((¬ x3 = 0) → (0 ≤ (wrap (4 * x1)) ∧ (wrap (4 * x1)) < 32) ∧ (0 ≤ (wrap (4 * x2)) ∧ (wrap (4 * x2)) < 32) ∧ b_X11_isSooner_108 Post μ x1 x2 (wrap ((μ 97 (wrap (4 * x1)).toNat) - (μ 97 (wrap (4 * x2)).toNat))))) ∧ ((¬ x3 = s0) → ((x3 = 0 ∨ x3 = 1) ∧ Post x3 μ))
def b_X11_isSooner_26 (Post : Pst) (μ : Mem) (x1 : Int) (x2 : Int) (s0 : Int) : Prop :=
  (0 ≤ (wrap (4 * x2)) ∧ (wrap (4 * x2)) < 32) ∧ (0 ≤ (wrap ((wrap (4 * x2)) + 1)) ∧ (wrap ((wrap (4 * x2)) + 1)) < 32) ∧ (((μ 97 (wrap ((wrap (4 * x2)) + 1)).toNat) ≤ (μ 97 (wrap (4 * x2)).toNat)) → b_X11_isSooner_53 Post μ x1 x2 s0 0) ∧ ((¬ ((μ 97 (wrap ((wrap (4 * x2)) + 1)).toNat) ≤ (μ 97 (wrap (4 * x2)).toNat))) → b_X11_isSooner_53 Post μ x1 x2 s0 1)
def b_X11_isSooner_e (Post : Pst) (μ : Mem) (p0 : Int) (p1 : Int) : Prop :=
  (0 ≤ (wrap (4 * p0)) ∧ (wrap (4 * p0)) < 32) ∧ (0 ≤ (wrap ((wrap (4 * p0)) + 1)) ∧ (wrap ((wrap (4 * p0)) + 1)) < 32) ∧ (((μ 97 (wrap ((wrap (4 * p0)) + 1)).toNat) ≤ (μ 97 (wrap (4 * p0)).toNat)) → b_X11_isSooner_26 Post μ p0 p1 0) ∧ ((¬ ((μ 97 (wrap ((wrap (4 * p0)) + 1)).toNat) ≤ (μ 97 (wrap (4 * p0)).toNat))) → b_X11_isSooner_26 Post μ p0 p1 1)
def wp_X11_isSooner (μ : Mem) (p0 : Int) (p1 : Int) (Post : Pst) : Prop := b_X11_isSooner_e Post μ p0 p1
def b_X11_byRule_66 (G17 : Mem → Int → Int → Prop) (G27 : Mem → Int → Int → Int → Prop) (Post : Pst) (μ : Mem) (x1 : Int) (x2 : Int) (x3 : Int) : Prop :=
  ∀ x_1 : Int, x_1 = wrap (x3 + 1) → G27 μ x1 x2 x_1
def b_X11_byRule_17 (G17 : Mem → Int → Int → Prop) (G27 : Mem → Int → Int → Int → Prop) (Post : Pst) (μ : Mem) (x1 : Int) (x2 : Int) : Prop :=
  (((μ 11 0) ≤ x2) → ((¬ x1 = (-1)) → (0 ≤ x1 ∧ x1 < 8) ∧ Post (μ 103 x1.toNat) μ) ∧ ((x1 = (-1)) → wp_X11_rowEnd μ 2 1 (fun r_5 μ_6 => Post r_5 μ_6))) ∧ ((¬ ((μ 11 0) ≤ x2)) → G27 μ x1 x2 0)
def b_X11_byRule_27 (G17 : Mem → Int → Int → Prop) (G27 : Mem → Int → Int → Int → Prop) (Post : Pst) (μ : Mem) (x1 : Int) (x2 : Int) (x3 : Int) : Prop :=
  (((μ 11 0) ≤ (wrap (x3 + 1))) → ∀ x_8 : Int, x_8 = wrap (x2 + 1) → G17 μ x1 x_8) ∧ ((¬ ((μ 11 0) ≤ (wrap (x3 + 1)))) → (0 ≤ (wrap (x3 + 1)) ∧ (wrap (x3 + 1)) < 8) ∧ (0 ≤ x3 ∧ x3 < 8) ∧ wp_X11_isSooner μ (μ 103 (wrap (x3 + 1)).toNat) (μ 103 x3.toNat) (fun r_11 μ_12 => ((r_11 = 0) → b_X11_byRule_66 G17 G27 Post μ_12 x1 x2 x3) ∧ ((¬ r_11 = 0) → wp_X11_swap μ_12 x3 (wrap (x3 + 1)) (fun _ μ_15 => b_X11_byRule_66 G17 G27 Post μ_15 x1 x2 x3))))
def b_X11_byRule_e (G17 : Mem → Int → Int → Prop) (G27 : Mem → Int → Int → Int → Prop) (Post : Pst) (μ : Mem) (p0 : Int) : Prop :=
  wp_X11_isPlace μ p0 (fun r_16 μ_17 => ((¬ r_16 = 0) → wp_X11_firstOrder μ_17 (fun _ μ_20 => G17 μ_20 p0 0)) ∧ ((r_16 = 0) → Post (-10) μ_17))
def wp_X11_byRule (μ : Mem) (p0 : Int) (Post : Pst) : Prop := ∀ (G17 : Mem → Int → Int → Prop) (G27 : Mem → Int → Int → Int → Prop), (∀ μ x1 x2, b_X11_byRule_17 G17 G27 Post μ x1 x2 → G17 μ x1 x2) → (∀ μ x1 x2 x3, b_X11_byRule_27 G17 G27 Post μ x1 x2 x3 → G27 μ x1 x2 x3) → b_X11_byRule_e G17 G27 Post μ p0
def b_X11_isTool_e (Post : Pst) (μ : Mem) (p0 : Int) : Prop :=
  wp_X11_in μ p0 0 2 (fun r_1 μ_2 => ((r_1 = 0 ∨ r_1 = 1) ∧ Post r_1 μ_2))
def wp_X11_isTool (μ : Mem) (p0 : Int) (Post : Pst) : Prop := b_X11_isTool_e Post μ p0
def b_X11_change_e (Post : Pst) (μ : Mem) (p0 : Int) (p1 : Int) (p2 : Int) : Prop :=
  wp_X11_isTool μ p0 (fun r_1 μ_2 => ((r_1 = 0) → Post (-2) μ_2) ∧ ((¬ r_1 = 0) → wp_X11_isTool μ_2 p1 (fun r_4 μ_5 => ((r_4 = 0) → Post (-2) μ_5) ∧ ((¬ r_4 = 0) → ((p0 = p1) → Post (-2) μ_5) ∧ ((¬ p0 = p1) → wp_X11_in μ_5 p2 0 20 (fun r_8 μ_9 => ((¬ r_8 = 0) → (0 ≤ (wrap ((wrap (3 * p0)) + p1)) ∧ (wrap ((wrap (3 * p0)) + p1)) < 9) ∧ ∀ x_12 : Int, x_12 = μ_9 96 (wrap ((wrap (3 * p0)) + p1)).toNat → (0 ≤ (wrap ((wrap (3 * p0)) + p1)) ∧ (wrap ((wrap (3 * p0)) + p1)) < 9) ∧ ∀ μ_14 : Mem, μ_14 = wr μ_9 96 (wrap ((wrap (3 * p0)) + p1)).toNat p2 → Post x_12 μ_14) ∧ ((r_8 = 0) → Post (-2) μ_9)))))))
def wp_X11_change (μ : Mem) (p0 : Int) (p1 : Int) (p2 : Int) (Post : Pst) : Prop := b_X11_change_e Post μ p0 p1 p2
def b_X11_clear_e (Post : Pst) (μ : Mem) : Prop :=
  ∀ x_1 : Int, x_1 = wrap ((μ 101 0) + (μ 101 1)) → ∀ μ_2 : Mem, μ_2 = wr μ 101 0 0 → ∀ μ_3 : Mem, μ_3 = wr μ_2 101 1 0 → Post x_1 μ_3
def wp_X11_clear (μ : Mem) (Post : Pst) : Prop := b_X11_clear_e Post μ
def b_X11_count_46 (Post : Pst) (μ : Mem) (x1 : Int) : Prop :=
  (0 ≤ (wrap (x1 - 2)) ∧ (wrap (x1 - 2)) < 2) ∧ Post (μ 101 (wrap (x1 - 2)).toNat) μ
def b_X11_count_e (Post : Pst) (μ : Mem) (p0 : Int) : Prop :=
  ((p0 < 0 ∨ 4 < p0) → Post (-2) μ) ∧ ((p0 = 0) → Post (μ 11 0) μ) ∧ ((p0 = 1) → Post (μ 11 12) μ) ∧ ((p0 = 2) → b_X11_count_46 Post μ p0) ∧ ((p0 = 3) → b_X11_count_46 Post μ p0) ∧ ((p0 = 4) → Post (μ 11 15) μ)
def wp_X11_count (μ : Mem) (p0 : Int) (Post : Pst) : Prop := b_X11_count_e Post μ p0
def b_X11_sums_6 (G6 : Mem → Nat → Int → Int → Int → Int → Prop) (Post : Pst) (μ : Mem) (x2 : Nat) (x3 : Int) (x4 : Int) (x5 : Int) (x7 : Int) : Prop :=
  ((x4 ≤ x7) → Post x5 μ) ∧ ((¬ (x4 ≤ x7)) → (24 ≤ x2 ∧ x2 < 112 ∧ 0 ≤ (wrap (x3 + x7)) ∧ (wrap (x3 + x7)) < len x2) ∧ ∀ x_3 : Int, x_3 = wrapL ((wrapL (31 * x5)) + (μ x2 (wrap (x3 + x7)).toNat)) → ∀ x_4 : Int, x_4 = wrap (x7 + 1) → G6 μ x2 x3 x4 x_3 x_4)
def b_X11_sums_e (G6 : Mem → Nat → Int → Int → Int → Int → Prop) (Post : Pst) (μ : Mem) (p0 : Int) (p1 : Nat) (p2 : Int) (p3 : Int) : Prop :=
  G6 μ p1 p2 p3 p0 0
def wp_X11_sums (μ : Mem) (p0 : Int) (p1 : Nat) (p2 : Int) (p3 : Int) (Post : Pst) : Prop := ∀ (G6 : Mem → Nat → Int → Int → Int → Int → Prop), (∀ μ x2 x3 x4 x5 x7, b_X11_sums_6 G6 Post μ x2 x3 x4 x5 x7 → G6 μ x2 x3 x4 x5 x7) → b_X11_sums_e G6 Post μ p0 p1 p2 p3
def b_X11_digest_6 (G6 : Mem → Int → Int → Prop) (G32 : Mem → Int → Int → Prop) (Post : Pst) (μ : Mem) (x1 : Int) (x3 : Int) : Prop :=
  ((5 ≤ x3) → G32 μ x1 0) ∧ ((¬ (5 ≤ x3)) → wp_X11_count μ x3 (fun r_2 μ_3 => ∀ x_4 : Int, x_4 = wrapL ((wrapL (31 * x1)) + r_2) → ∀ x_5 : Int, x_5 = wrap (x3 + 1) → G6 μ_3 x_4 x_5))
def b_X11_digest_32 (G6 : Mem → Int → Int → Prop) (G32 : Mem → Int → Int → Prop) (Post : Pst) (μ : Mem) (x1 : Int) (x3 : Int) : Prop :=
  (((μ 11 0) ≤ x3) → wp_X11_sums μ x1 96 0 9 (fun r_7 μ_8 => wp_X11_sums μ_8 r_7 99 0 (μ_8 11 12) (fun r_9 μ_10 => wp_X11_sums μ_10 (wrapL ((wrapL (31 * r_9)) + (μ_10 11 9))) 98 1 3 (fun r_11 μ_12 => wp_X11_sums μ_12 r_11 100 0 (wrap (2 * (μ_12 101 0))) (fun r_13 μ_14 => wp_X11_sums μ_14 r_13 100 12 (wrap (2 * (μ_14 101 1))) (fun r_15 μ_16 => wp_X11_sums μ_16 r_15 102 0 (μ_16 11 15) (fun r_17 μ_18 => Post (wrapL ((wrapL (31 * r_17)) + (μ_18 11 17))) μ_18))))))) ∧ ((¬ ((μ 11 0) ≤ x3)) → (0 ≤ x3 ∧ x3 < 8) ∧ (0 ≤ x3 ∧ x3 < 8) ∧ (0 ≤ x3 ∧ x3 < 8) ∧ ∀ x_22 : Int, x_22 = wrapL ((wrapL (31 * (wrapL ((wrapL (31 * (wrapL ((wrapL (31 * x1)) + (μ 90 x3.toNat))))) + (μ 91 x3.toNat))))) + (μ 92 x3.toNat)) → (0 ≤ x3 ∧ x3 < 8) ∧ (0 ≤ x3 ∧ x3 < 8) ∧ (0 ≤ x3 ∧ x3 < 8) ∧ ∀ x_26 : Int, x_26 = wrapL ((wrapL (31 * (wrapL ((wrapL (31 * (wrapL ((wrapL (31 * x_22)) + (μ 93 x3.toNat))))) + (μ 94 x3.toNat))))) + (μ 95 x3.toNat)) → wp_X11_sums μ x_26 97 (wrap (4 * x3)) 4 (fun r_27 μ_28 => ∀ x_29 : Int, x_29 = wrap (x3 + 1) → G32 μ_28 r_27 x_29))
def b_X11_digest_e (G6 : Mem → Int → Int → Prop) (G32 : Mem → Int → Int → Prop) (Post : Pst) (μ : Mem) : Prop :=
  G6 μ 401 0
def wp_X11_digest (μ : Mem) (Post : Pst) : Prop := ∀ (G6 : Mem → Int → Int → Prop) (G32 : Mem → Int → Int → Prop), (∀ μ x1 x3, b_X11_digest_6 G6 G32 Post μ x1 x3 → G6 μ x1 x3) → (∀ μ x1 x3, b_X11_digest_32 G6 G32 Post μ x1 x3 → G32 μ x1 x3) → b_X11_digest_e G6 G32 Post μ
def b_X11_fell_e (Post : Pst) (μ : Mem) : Prop :=
  ∀ x_1 : Int, x_1 = μ 11 15 → ∀ μ_2 : Mem, μ_2 = wr μ 11 15 0 → Post x_1 μ_2
def wp_X11_fell (μ : Mem) (Post : Pst) : Prop := b_X11_fell_e Post μ
def b_X11_freeBehind_25 (G4 : Mem → Int → Int → Int → Prop) (G30 : Mem → Int → Int → Int → Int → Int → Prop) (Post : Pst) (μ : Mem) (x1 : Int) (x2 : Int) (x3 : Int) (s0 : Int) : Prop :=
  G30 μ x1 x2 x3 s0 0
def b_X11_freeBehind_70 (G4 : Mem → Int → Int → Int → Prop) (G30 : Mem → Int → Int → Int → Int → Int → Prop) (Post : Pst) (μ : Mem) (x1 : Int) (x2 : Int) (x3 : Int) (x5 : Int) (s0 : Int) : Prop :=
  ∀ x_1 : Int, x_1 = wrap (x5 + 1) → G30 μ x1 x2 x3 s0 x_1
def b_X11_freeBehind_65 (G4 : Mem → Int → Int → Int → Prop) (G30 : Mem → Int → Int → Int → Int → Int → Prop) (Post : Pst) (μ : Mem) (x1 : Int) (x2 : Int) (x3 : Int) (x5 : Int) : Prop :=
  b_X11_freeBehind_70 G4 G30 Post μ x1 x2 x3 x5 1
def b_X11_freeBehind_69 (G4 : Mem → Int → Int → Int → Prop) (G30 : Mem → Int → Int → Int → Int → Int → Prop) (Post : Pst) (μ : Mem) (x1 : Int) (x2 : Int) (x3 : Int) (x5 : Int) : Prop :=
  b_X11_freeBehind_70 G4 G30 Post μ x1 x2 x3 x5 0
def b_X11_freeBehind_91 (G4 : Mem → Int → Int → Int → Prop) (G30 : Mem → Int → Int → Int → Int → Int → Prop) (Post : Pst) (μ : Mem) (x1 : Int) (x3 : Int) (s0 : Int) (s1 : Int) : Prop :=
  ∀ x_2 : Int, x_2 = ior s0 s1 → ∀ x_3 : Int, x_3 = wrap (x3 + 1) → G4 μ x1 x_2 x_3
def b_X11_freeBehind_4 (G4 : Mem → Int → Int → Int → Prop) (G30 : Mem → Int → Int → Int → Int → Int → Prop) (Post : Pst) (μ : Mem) (x1 : Int) (x2 : Int) (x3 : Int) : Prop :=
  (((μ 11 15) ≤ x3) → Post x2 μ) ∧ ((¬ ((μ 11 15) ≤ x3)) → ((¬ (iand (ishr x1 x3) 1) = 0) → b_X11_freeBehind_25 G4 G30 Post μ x1 x2 x3 0) ∧ (((iand (ishr x1 x3) 1) = 0) → b_X11_freeBehind_25 G4 G30 Post μ x1 x2 x3 1))
def b_X11_freeBehind_30 (G4 : Mem → Int → Int → Int → Prop) (G30 : Mem → Int → Int → Int → Int → Int → Prop) (Post : Pst) (μ : Mem) (x1 : Int) (x2 : Int) (x3 : Int) (x4 : Int) (x5 : Int) : Prop :=
  (((μ 11 15) ≤ x5) → ((x4 = 0) → b_X11_freeBehind_91 G4 G30 Post μ x1 x3 x2 0) ∧ ((¬ x4 = 0) → b_X11_freeBehind_91 G4 G30 Post μ x1 x3 x2 (ishl 1 x3))) ∧ ((¬ ((μ 11 15) ≤ x5)) → ((x4 = 0) → b_X11_freeBehind_69 G4 G30 Post μ x1 x2 x3 x5) ∧ ((¬ x4 = 0) → (0 ≤ x5 ∧ x5 < 12) ∧ ((¬ (μ 102 x5.toNat) = x3) → b_X11_freeBehind_65 G4 G30 Post μ x1 x2 x3 x5) ∧ (((μ 102 x5.toNat) = x3) → ((¬ (iand (ishr x1 x5) 1) = 1) → b_X11_freeBehind_69 G4 G30 Post μ x1 x2 x3 x5) ∧ (((iand (ishr x1 x5) 1) = 1) → b_X11_freeBehind_65 G4 G30 Post μ x1 x2 x3 x5))))
def b_X11_freeBehind_e (G4 : Mem → Int → Int → Int → Prop) (G30 : Mem → Int → Int → Int → Int → Int → Prop) (Post : Pst) (μ : Mem) (p0 : Int) : Prop :=
  G4 μ p0 0 0
def wp_X11_freeBehind (μ : Mem) (p0 : Int) (Post : Pst) : Prop := ∀ (G4 : Mem → Int → Int → Int → Prop) (G30 : Mem → Int → Int → Int → Int → Int → Prop), (∀ μ x1 x2 x3, b_X11_freeBehind_4 G4 G30 Post μ x1 x2 x3 → G4 μ x1 x2 x3) → (∀ μ x1 x2 x3 x4 x5, b_X11_freeBehind_30 G4 G30 Post μ x1 x2 x3 x4 x5 → G30 μ x1 x2 x3 x4 x5) → b_X11_freeBehind_e G4 G30 Post μ p0
def b_X11_heldAt_62 (G5 : Mem → Int → Int → Int → Int → Prop) (Post : Pst) (μ : Mem) (x1 : Int) (x2 : Int) (x4 : Int) (x5 : Int) : Prop :=
  ∀ x_1 : Int, x_1 = wrap (x4 + 1) → G5 μ x1 x2 x5 x_1
def b_X11_heldAt_5 (G5 : Mem → Int → Int → Int → Int → Prop) (Post : Pst) (μ : Mem) (x1 : Int) (x2 : Int) (x3 : Int) (x4 : Int) : Prop :=
  (0 ≤ x1 ∧ x1 < 2) ∧ (((μ 101 x1.toNat) ≤ x4) → Post (-1) μ) ∧ ((¬ ((μ 101 x1.toNat) ≤ x4)) → (0 ≤ (wrap ((wrap ((wrap (12 * x1)) + (wrap (2 * x4)))) + 1)) ∧ (wrap ((wrap ((wrap (12 * x1)) + (wrap (2 * x4)))) + 1)) < 24) ∧ ∀ x_5 : Int, x_5 = wrap (x3 + (μ 100 (wrap ((wrap ((wrap (12 * x1)) + (wrap (2 * x4)))) + 1)).toNat)) → ((x2 ≤ x3) → b_X11_heldAt_62 G5 Post μ x1 x2 x4 x_5) ∧ ((¬ (x2 ≤ x3)) → ((x_5 ≤ x2) → b_X11_heldAt_62 G5 Post μ x1 x2 x4 x_5) ∧ ((¬ (x_5 ≤ x2)) → (0 ≤ (wrap ((wrap (12 * x1)) + (wrap (2 * x4)))) ∧ (wrap ((wrap (12 * x1)) + (wrap (2 * x4)))) < 24) ∧ Post (μ 100 (wrap ((wrap (12 * x1)) + (wrap (2 * x4)))).toNat) μ)))
def b_X11_heldAt_e (G5 : Mem → Int → Int → Int → Int → Prop) (Post : Pst) (μ : Mem) (p0 : Int) (p1 : Int) : Prop :=
  G5 μ p0 p1 0 0
def wp_X11_heldAt (μ : Mem) (p0 : Int) (p1 : Int) (Post : Pst) : Prop := ∀ (G5 : Mem → Int → Int → Int → Int → Prop), (∀ μ x1 x2 x3 x4, b_X11_heldAt_5 G5 Post μ x1 x2 x3 x4 → G5 μ x1 x2 x3 x4) → b_X11_heldAt_e G5 Post μ p0 p1
def b_X11_judge_31 (G31 : Mem → Int → Int → Prop) (Post : Pst) (μ : Mem) (x1 : Int) (x2 : Int) : Prop :=
  (((μ 11 0) ≤ x2) → ((¬ x1 = 5) → wp_X11_isLawful μ (fun r_3 μ_4 => ((r_3 = 0) → Post (-20) μ_4) ∧ ((¬ r_3 = 0) → wp_X11_makes μ_4 x1 (fun r_6 μ_7 => Post r_6 μ_7)))) ∧ ((x1 = 5) → wp_X11_rowEnd μ (μ 11 9) 0 (fun r_8 μ_9 => Post r_8 μ_9))) ∧ ((¬ ((μ 11 0) ≤ x2)) → (0 ≤ x2 ∧ x2 < 8) ∧ (0 ≤ x2 ∧ x2 < 8) ∧ ∀ μ_12 : Mem, μ_12 = wr μ 103 x2.toNat (μ 99 x2.toNat) → ∀ x_13 : Int, x_13 = wrap (x2 + 1) → G31 μ_12 x1 x_13)
def b_X11_judge_e (G31 : Mem → Int → Int → Prop) (Post : Pst) (μ : Mem) (p0 : Int) : Prop :=
  wp_X11_in μ p0 0 5 (fun r_14 μ_15 => ((¬ r_14 = 0) → (((μ_15 11 0) ≤ (μ_15 11 12)) → G31 μ_15 p0 0) ∧ ((¬ ((μ_15 11 0) ≤ (μ_15 11 12))) → Post (-20) μ_15)) ∧ ((r_14 = 0) → Post (-10) μ_15))
def wp_X11_judge (μ : Mem) (p0 : Int) (Post : Pst) : Prop := ∀ (G31 : Mem → Int → Int → Prop), (∀ μ x1 x2, b_X11_judge_31 G31 Post μ x1 x2 → G31 μ x1 x2) → b_X11_judge_e G31 Post μ p0
def b_X11_lastFirst_99 (G25 : Mem → Int → Int → Int → Int → Prop) (G61 : Mem → Int → Int → Int → Int → Int → Prop) (G75 : Mem → Int → Int → Int → Int → Int → Int → Int → Int → Prop) (G104 : Mem → Int → Int → Int → Int → Int → Int → Int → Int → Int → Int → Prop) (Post : Pst) (μ : Mem) (x1 : Int) (x2 : Int) (x3 : Int) (x4 : Int) (x5 : Int) (x6 : Int) (x7 : Int) (x8 : Int) (s0 : Int) : Prop :=
  G104 μ x1 x2 x3 x4 x5 x6 x7 x8 s0 0
def b_X11_lastFirst_147 (G25 : Mem → Int → Int → Int → Int → Prop) (G61 : Mem → Int → Int → Int → Int → Int → Prop) (G75 : Mem → Int → Int → Int → Int → Int → Int → Int → Int → Prop) (G104 : Mem → Int → Int → Int → Int → Int → Int → Int → Int → Int → Int → Prop) (Post : Pst) (μ : Mem) (x1 : Int) (x2 : Int) (x3 : Int) (x4 : Int) (x5 : Int) (x6 : Int) (x7 : Int) (x8 : Int) (x10 : Int) (s0 : Int) : Prop :=
  ∀ x_1 : Int, x_1 = wrap (x10 + 1) → G104 μ x1 x2 x3 x4 x5 x6 x7 x8 s0 x_1
def b_X11_lastFirst_142 (G25 : Mem → Int → Int → Int → Int → Prop) (G61 : Mem → Int → Int → Int → Int → Int → Prop) (G75 : Mem → Int → Int → Int → Int → Int → Int → Int → Int → Prop) (G104 : Mem → Int → Int → Int → Int → Int → Int → Int → Int → Int → Int → Prop) (Post : Pst) (μ : Mem) (x1 : Int) (x2 : Int) (x3 : Int) (x4 : Int) (x5 : Int) (x6 : Int) (x7 : Int) (x8 : Int) (x10 : Int) : Prop :=
  b_X11_lastFirst_147 G25 G61 G75 G104 Post μ x1 x2 x3 x4 x5 x6 x7 x8 x10 1
def b_X11_lastFirst_146 (G25 : Mem → Int → Int → Int → Int → Prop) (G61 : Mem → Int → Int → Int → Int → Int → Prop) (G75 : Mem → Int → Int → Int → Int → Int → Int → Int → Int → Prop) (G104 : Mem → Int → Int → Int → Int → Int → Int → Int → Int → Int → Int → Prop) (Post : Pst) (μ : Mem) (x1 : Int) (x2 : Int) (x3 : Int) (x4 : Int) (x5 : Int) (x6 : Int) (x7 : Int) (x8 : Int) (x10 : Int) : Prop :=
  b_X11_lastFirst_147 G25 G61 G75 G104 Post μ x1 x2 x3 x4 x5 x6 x7 x8 x10 0
def b_X11_lastFirst_207 (G25 : Mem → Int → Int → Int → Int → Prop) (G61 : Mem → Int → Int → Int → Int → Int → Prop) (G75 : Mem → Int → Int → Int → Int → Int → Int → Int → Int → Prop) (G104 : Mem → Int → Int → Int → Int → Int → Int → Int → Int → Int → Int → Prop) (Post : Pst) (μ : Mem) (x1 : Int) (x2 : Int) (x3 : Int) (x4 : Int) (x5 : Int) (x6 : Int) (x7 : Int) (x8 : Int) : Prop :=
  ∀ x_2 : Int, x_2 = wrap (x8 + 1) → G75 μ x1 x2 x3 x4 x5 x6 x7 x_2
def b_X11_lastFirst_199 (G25 : Mem → Int → Int → Int → Int → Prop) (G61 : Mem → Int → Int → Int → Int → Int → Prop) (G75 : Mem → Int → Int → Int → Int → Int → Int → Int → Int → Prop) (G104 : Mem → Int → Int → Int → Int → Int → Int → Int → Int → Int → Int → Prop) (Post : Pst) (μ : Mem) (x1 : Int) (x2 : Int) (x3 : Int) (x4 : Int) (x5 : Int) (x8 : Int) (x10 : Int) : Prop :=
  b_X11_lastFirst_207 G25 G61 G75 G104 Post μ x1 x2 x3 x4 x5 x8 x10 x8
def b_X11_lastFirst_179 (G25 : Mem → Int → Int → Int → Int → Prop) (G61 : Mem → Int → Int → Int → Int → Int → Prop) (G75 : Mem → Int → Int → Int → Int → Int → Int → Int → Int → Prop) (G104 : Mem → Int → Int → Int → Int → Int → Int → Int → Int → Int → Int → Prop) (Post : Pst) (μ : Mem) (x1 : Int) (x2 : Int) (x3 : Int) (x4 : Int) (x5 : Int) (x6 : Int) (x7 : Int) (x8 : Int) (x9 : Int) (s0 : Int) : Prop :=
  ((x9 = 0) → b_X11_lastFirst_207 G25 G61 G75 G104 Post μ x1 x2 x3 x4 x5 x6 x7 x8) ∧ ((¬ x9 = 0) → ((x6 = (-1)) → b_X11_lastFirst_199 G25 G61 G75 G104 Post μ x1 x2 x3 x4 x5 x8 s0) ∧ ((¬ x6 = (-1)) → ((x7 < s0) → b_X11_lastFirst_207 G25 G61 G75 G104 Post μ x1 x2 x3 x4 x5 x6 x7 x8) ∧ ((¬ (x7 < s0)) → b_X11_lastFirst_199 G25 G61 G75 G104 Post μ x1 x2 x3 x4 x5 x8 s0)))
def b_X11_lastFirst_236 (G25 : Mem → Int → Int → Int → Int → Prop) (G61 : Mem → Int → Int → Int → Int → Int → Prop) (G75 : Mem → Int → Int → Int → Int → Int → Int → Int → Int → Prop) (G104 : Mem → Int → Int → Int → Int → Int → Int → Int → Int → Int → Int → Prop) (Post : Pst) (μ : Mem) (x1 : Int) (x2 : Int) (x3 : Int) (x5 : Int) (x6 : Int) (s0 : Int) : Prop :=
  ∀ x_6 : Int, x_6 = iand x2 (ixor (ishl 1 x6) (-1)) → (0 ≤ x6 ∧ x6 < 8) ∧ ∀ x_8 : Int, x_8 = wrap (x3 - (μ 90 x6.toNat)) → ∀ x_9 : Int, x_9 = wrap (x5 + (-1)) → G61 μ x1 x_6 x_8 s0 x_9
def b_X11_lastFirst_25 (G25 : Mem → Int → Int → Int → Int → Prop) (G61 : Mem → Int → Int → Int → Int → Int → Prop) (G75 : Mem → Int → Int → Int → Int → Int → Int → Int → Int → Prop) (G104 : Mem → Int → Int → Int → Int → Int → Int → Int → Int → Int → Int → Prop) (Post : Pst) (μ : Mem) (x1 : Int) (x2 : Int) (x3 : Int) (x4 : Int) : Prop :=
  (((μ 11 0) ≤ x4) → ∀ x_11 : Int, x_11 = wrap ((μ 11 0) - 1) → G61 μ x1 x2 x3 0 x_11) ∧ ((¬ ((μ 11 0) ≤ x4)) → (0 ≤ x4 ∧ x4 < 8) ∧ ∀ x_13 : Int, x_13 = wrap (x3 + (μ 90 x4.toNat)) → ∀ x_14 : Int, x_14 = wrap (x4 + 1) → G25 μ x1 x2 x_13 x_14)
def b_X11_lastFirst_61 (G25 : Mem → Int → Int → Int → Int → Prop) (G61 : Mem → Int → Int → Int → Int → Int → Prop) (G75 : Mem → Int → Int → Int → Int → Int → Int → Int → Int → Prop) (G104 : Mem → Int → Int → Int → Int → Int → Int → Int → Int → Int → Int → Prop) (Post : Pst) (μ : Mem) (x1 : Int) (x2 : Int) (x3 : Int) (x4 : Int) (x5 : Int) : Prop :=
  ((x5 < 0) → ((¬ x1 = (-1)) → (0 ≤ x1 ∧ x1 < 8) ∧ Post (μ 104 x1.toNat) μ) ∧ ((x1 = (-1)) → Post x4 μ)) ∧ ((¬ (x5 < 0)) → G75 μ x1 x2 x3 x4 x5 (-1) 0 0)
def b_X11_lastFirst_75 (G25 : Mem → Int → Int → Int → Int → Prop) (G61 : Mem → Int → Int → Int → Int → Int → Prop) (G75 : Mem → Int → Int → Int → Int → Int → Int → Int → Int → Prop) (G104 : Mem → Int → Int → Int → Int → Int → Int → Int → Int → Int → Int → Prop) (Post : Pst) (μ : Mem) (x1 : Int) (x2 : Int) (x3 : Int) (x4 : Int) (x5 : Int) (x6 : Int) (x7 : Int) (x8 : Int) : Prop :=
  (((μ 11 0) ≤ x8) → (0 ≤ x5 ∧ x5 < 8) ∧ ∀ μ_20 : Mem, μ_20 = wr μ 104 x5.toNat x6 → ((x7 ≤ x4) → b_X11_lastFirst_236 G25 G61 G75 G104 Post μ_20 x1 x2 x3 x5 x6 x4) ∧ ((¬ (x7 ≤ x4)) → b_X11_lastFirst_236 G25 G61 G75 G104 Post μ_20 x1 x2 x3 x5 x6 x7)) ∧ ((¬ ((μ 11 0) ≤ x8)) → ((¬ (iand (ishr x2 x8) 1) = 1) → b_X11_lastFirst_99 G25 G61 G75 G104 Post μ x1 x2 x3 x4 x5 x6 x7 x8 0) ∧ (((iand (ishr x2 x8) 1) = 1) → b_X11_lastFirst_99 G25 G61 G75 G104 Post μ x1 x2 x3 x4 x5 x6 x7 x8 1))
def b_X11_lastFirst_104 (G25 : Mem → Int → Int → Int → Int → Prop) (G61 : Mem → Int → Int → Int → Int → Int → Prop) (G75 : Mem → Int → Int → Int → Int → Int → Int → Int → Int → Prop) (G104 : Mem → Int → Int → Int → Int → Int → Int → Int → Int → Int → Int → Prop) (Post : Pst) (μ : Mem) (x1 : Int) (x2 : Int) (x3 : Int) (x4 : Int) (x5 : Int) (x6 : Int) (x7 : Int) (x8 : Int) (x9 : Int) (x10 : Int) : Prop :=
  (((μ 11 0) ≤ x10) → (0 ≤ x8 ∧ x8 < 8) ∧ ((x3 ≤ (μ 92 x8.toNat)) → b_X11_lastFirst_179 G25 G61 G75 G104 Post μ x1 x2 x3 x4 x5 x6 x7 x8 x9 0) ∧ ((¬ (x3 ≤ (μ 92 x8.toNat))) → (0 ≤ x8 ∧ x8 < 8) ∧ b_X11_lastFirst_179 G25 G61 G75 G104 Post μ x1 x2 x3 x4 x5 x6 x7 x8 x9 (wrap (x3 - (μ 92 x8.toNat))))) ∧ ((¬ ((μ 11 0) ≤ x10)) → ((x9 = 0) → b_X11_lastFirst_146 G25 G61 G75 G104 Post μ x1 x2 x3 x4 x5 x6 x7 x8 x10) ∧ ((¬ x9 = 0) → (((iand (ishr x2 x10) 1) = 0) → b_X11_lastFirst_142 G25 G61 G75 G104 Post μ x1 x2 x3 x4 x5 x6 x7 x8 x10) ∧ ((¬ (iand (ishr x2 x10) 1) = 0) → (0 ≤ x10 ∧ x10 < 8) ∧ ((¬ (iand (ishr (μ 95 x10.toNat) x8) 1) = 0) → b_X11_lastFirst_146 G25 G61 G75 G104 Post μ x1 x2 x3 x4 x5 x6 x7 x8 x10) ∧ (((iand (ishr (μ 95 x10.toNat) x8) 1) = 0) → b_X11_lastFirst_142 G25 G61 G75 G104 Post μ x1 x2 x3 x4 x5 x6 x7 x8 x10))))
def b_X11_lastFirst_e (G25 : Mem → Int → Int → Int → Int → Prop) (G61 : Mem → Int → Int → Int → Int → Int → Prop) (G75 : Mem → Int → Int → Int → Int → Int → Int → Int → Int → Prop) (G104 : Mem → Int → Int → Int → Int → Int → Int → Int → Int → Int → Int → Prop) (Post : Pst) (μ : Mem) (p0 : Int) : Prop :=
  wp_X11_isPlace μ p0 (fun r_31 μ_32 => ((¬ r_31 = 0) → ∀ x_34 : Int, x_34 = wrap ((ishl 1 (μ_32 11 0)) - 1) → G25 μ_32 p0 x_34 0 0) ∧ ((r_31 = 0) → Post (-10) μ_32))
def wp_X11_lastFirst (μ : Mem) (p0 : Int) (Post : Pst) : Prop := ∀ (G25 : Mem → Int → Int → Int → Int → Prop) (G61 : Mem → Int → Int → Int → Int → Int → Prop) (G75 : Mem → Int → Int → Int → Int → Int → Int → Int → Int → Prop) (G104 : Mem → Int → Int → Int → Int → Int → Int → Int → Int → Int → Int → Prop), (∀ μ x1 x2 x3 x4, b_X11_lastFirst_25 G25 G61 G75 G104 Post μ x1 x2 x3 x4 → G25 μ x1 x2 x3 x4) → (∀ μ x1 x2 x3 x4 x5, b_X11_lastFirst_61 G25 G61 G75 G104 Post μ x1 x2 x3 x4 x5 → G61 μ x1 x2 x3 x4 x5) → (∀ μ x1 x2 x3 x4 x5 x6 x7 x8, b_X11_lastFirst_75 G25 G61 G75 G104 Post μ x1 x2 x3 x4 x5 x6 x7 x8 → G75 μ x1 x2 x3 x4 x5 x6 x7 x8) → (∀ μ x1 x2 x3 x4 x5 x6 x7 x8 x9 x10, b_X11_lastFirst_104 G25 G61 G75 G104 Post μ x1 x2 x3 x4 x5 x6 x7 x8 x9 x10 → G104 μ x1 x2 x3 x4 x5 x6 x7 x8 x9 x10) → b_X11_lastFirst_e G25 G61 G75 G104 Post μ p0
def b_X11_leaf_e (Post : Pst) (μ : Mem) (p0 : Int) : Prop :=
  wp_X11_in μ p0 (-1) (wrap ((μ 11 15) - 1)) (fun r_1 μ_2 => ((¬ r_1 = 0) → ((¬ (μ_2 11 15) = 12) → (0 ≤ (μ_2 11 15) ∧ (μ_2 11 15) < 12) ∧ ∀ μ_6 : Mem, μ_6 = wr μ_2 102 (μ_2 11 15).toNat p0 → ∀ μ_7 : Mem, μ_7 = wr μ_6 11 15 (wrap ((μ_6 11 15) + 1)) → Post (wrap ((μ_7 11 15) - 1)) μ_7) ∧ (((μ_2 11 15) = 12) → Post (-4) μ_2)) ∧ ((r_1 = 0) → Post (-2) μ_2))
def wp_X11_leaf (μ : Mem) (p0 : Int) (Post : Pst) : Prop := b_X11_leaf_e Post μ p0
def b_X11_size_4 (G4 : Mem → Int → Int → Int → Prop) (Post : Pst) (μ : Mem) (x0 : Int) (x1 : Int) (x2 : Int) : Prop :=
  ((12 ≤ x2) → Post x1 μ) ∧ ((¬ (12 ≤ x2)) → ∀ x_2 : Int, x_2 = wrap (x1 + (iand (ishr x0 x2) 1)) → ∀ x_3 : Int, x_3 = wrap (x2 + 1) → G4 μ x0 x_2 x_3)
def b_X11_size_e (G4 : Mem → Int → Int → Int → Prop) (Post : Pst) (μ : Mem) (p0 : Int) : Prop :=
  G4 μ p0 0 0
def wp_X11_size (μ : Mem) (p0 : Int) (Post : Pst) : Prop := ∀ (G4 : Mem → Int → Int → Int → Prop), (∀ μ x0 x1 x2, b_X11_size_4 G4 Post μ x0 x1 x2 → G4 μ x0 x1 x2) → b_X11_size_e G4 Post μ p0
def b_X11_leastMinutes_31 (G11 : Mem → Int → Int → Prop) (G40 : Mem → Int → Int → Prop) (G65 : Mem → Int → Int → Int → Int → Prop) (Post : Pst) (μ : Mem) (x1 : Int) (x2 : Int) (s1 : Int) (s2 : Int) : Prop :=
  (0 ≤ s1 ∧ s1 < 4096) ∧ ∀ μ_2 : Mem, μ_2 = wr μ 111 s1.toNat s2 → ∀ x_3 : Int, x_3 = wrap (x2 + 1) → G11 μ_2 x1 x_3
def b_X11_leastMinutes_119 (G11 : Mem → Int → Int → Prop) (G40 : Mem → Int → Int → Prop) (G65 : Mem → Int → Int → Int → Int → Prop) (Post : Pst) (μ : Mem) (x1 : Int) (x2 : Int) (x3 : Int) (x4 : Int) : Prop :=
  ∀ x_4 : Int, x_4 = iand (wrap (x4 - 1)) x3 → G65 μ x1 x2 x3 x_4
def b_X11_leastMinutes_130 (G11 : Mem → Int → Int → Prop) (G40 : Mem → Int → Int → Prop) (G65 : Mem → Int → Int → Int → Int → Prop) (Post : Pst) (μ : Mem) (x1 : Int) (x2 : Int) : Prop :=
  ∀ x_5 : Int, x_5 = wrap (x2 + 1) → G40 μ x1 x_5
def b_X11_leastMinutes_11 (G11 : Mem → Int → Int → Prop) (G40 : Mem → Int → Int → Prop) (G65 : Mem → Int → Int → Int → Int → Prop) (Post : Pst) (μ : Mem) (x1 : Int) (x2 : Int) : Prop :=
  ((x1 < x2) → G40 μ x1 0) ∧ ((¬ (x1 < x2)) → ((¬ x2 = 0) → b_X11_leastMinutes_31 G11 G40 G65 Post μ x1 x2 x2 100) ∧ ((x2 = 0) → b_X11_leastMinutes_31 G11 G40 G65 Post μ x1 x2 x2 0))
def b_X11_leastMinutes_40 (G11 : Mem → Int → Int → Prop) (G40 : Mem → Int → Int → Prop) (G65 : Mem → Int → Int → Int → Int → Prop) (Post : Pst) (μ : Mem) (x1 : Int) (x2 : Int) : Prop :=
  ((x1 ≤ x2) → (0 ≤ x1 ∧ x1 < 4096) ∧ Post (μ 111 x1.toNat) μ) ∧ ((¬ (x1 ≤ x2)) → (0 ≤ x2 ∧ x2 < 4096) ∧ ((100 ≤ (μ 111 x2.toNat)) → b_X11_leastMinutes_130 G11 G40 G65 Post μ x1 x2) ∧ ((¬ (100 ≤ (μ 111 x2.toNat))) → wp_X11_freeBehind μ x2 (fun r_12 μ_13 => G65 μ_13 x1 x2 r_12 r_12)))
def b_X11_leastMinutes_65 (G11 : Mem → Int → Int → Prop) (G40 : Mem → Int → Int → Prop) (G65 : Mem → Int → Int → Int → Int → Prop) (Post : Pst) (μ : Mem) (x1 : Int) (x2 : Int) (x3 : Int) (x4 : Int) : Prop :=
  ((x4 ≤ 0) → b_X11_leastMinutes_130 G11 G40 G65 Post μ x1 x2) ∧ ((¬ (x4 ≤ 0)) → wp_X11_size μ x4 (fun r_15 μ_16 => (((μ_16 11 17) < r_15) → b_X11_leastMinutes_119 G11 G40 G65 Post μ_16 x1 x2 x3 x4) ∧ ((¬ ((μ_16 11 17) < r_15)) → (0 ≤ x2 ∧ x2 < 4096) ∧ (0 ≤ (ior x2 x4) ∧ (ior x2 x4) < 4096) ∧ (((μ_16 111 (ior x2 x4).toNat) ≤ (wrap ((μ_16 111 x2.toNat) + 1))) → b_X11_leastMinutes_119 G11 G40 G65 Post μ_16 x1 x2 x3 x4) ∧ ((¬ ((μ_16 111 (ior x2 x4).toNat) ≤ (wrap ((μ_16 111 x2.toNat) + 1)))) → (0 ≤ x2 ∧ x2 < 4096) ∧ (0 ≤ (ior x2 x4) ∧ (ior x2 x4) < 4096) ∧ ∀ μ_23 : Mem, μ_23 = wr μ_16 111 (ior x2 x4).toNat (wrap ((μ_16 111 x2.toNat) + 1)) → b_X11_leastMinutes_119 G11 G40 G65 Post μ_23 x1 x2 x3 x4))))
def b_X11_leastMinutes_e (G11 : Mem → Int → Int → Prop) (G40 : Mem → Int → Int → Prop) (G65 : Mem → Int → Int → Int → Int → Prop) (Post : Pst) (μ : Mem) : Prop :=
  ∀ x_24 : Int, x_24 = wrap ((ishl 1 (μ 11 15)) - 1) → G11 μ x_24 0
def wp_X11_leastMinutes (μ : Mem) (Post : Pst) : Prop := ∀ (G11 : Mem → Int → Int → Prop) (G40 : Mem → Int → Int → Prop) (G65 : Mem → Int → Int → Int → Int → Prop), (∀ μ x1 x2, b_X11_leastMinutes_11 G11 G40 G65 Post μ x1 x2 → G11 μ x1 x2) → (∀ μ x1 x2, b_X11_leastMinutes_40 G11 G40 G65 Post μ x1 x2 → G40 μ x1 x2) → (∀ μ x1 x2 x3 x4, b_X11_leastMinutes_65 G11 G40 G65 Post μ x1 x2 x3 x4 → G65 μ x1 x2 x3 x4) → b_X11_leastMinutes_e G11 G40 G65 Post μ
def b_X11_levelOf_4 (G4 : Mem → Int → Int → Prop) (Post : Pst) (μ : Mem) (x2 : Int) (x3 : Int) : Prop :=
  (0 ≤ x3 ∧ x3 < 12) ∧ (((μ 102 x3.toNat) = (-1)) → Post x2 μ) ∧ ((¬ (μ 102 x3.toNat) = (-1)) → (0 ≤ x3 ∧ x3 < 12) ∧ ∀ x_4 : Int, x_4 = μ 102 x3.toNat → ∀ x_5 : Int, x_5 = wrap (x2 + 1) → G4 μ x_5 x_4)
def b_X11_levelOf_e (G4 : Mem → Int → Int → Prop) (Post : Pst) (μ : Mem) (p0 : Int) : Prop :=
  G4 μ 1 p0
def wp_X11_levelOf (μ : Mem) (p0 : Int) (Post : Pst) : Prop := ∀ (G4 : Mem → Int → Int → Prop), (∀ μ x2 x3, b_X11_levelOf_4 G4 Post μ x2 x3 → G4 μ x2 x3) → b_X11_levelOf_e G4 Post μ p0
def b_X11_least_66 (G26 : Mem → Int → Int → Prop) (G40 : Mem → Int → Int → Int → Int → Prop) (Post : Pst) (μ : Mem) (x2 : Int) (x3 : Int) (x5 : Int) (s0 : Int) (s1 : Int) : Prop :=
  ∀ x_1 : Int, x_1 = wrap (s0 + s1) → ∀ x_2 : Int, x_2 = wrap (x5 + 1) → G40 μ x2 x3 x_1 x_2
def b_X11_least_116 (G26 : Mem → Int → Int → Prop) (G40 : Mem → Int → Int → Int → Int → Prop) (Post : Pst) (μ : Mem) (x3 : Int) (s0 : Int) : Prop :=
  ∀ x_3 : Int, x_3 = wrap (x3 + 1) → G26 μ s0 x_3
def b_X11_least_102 (G26 : Mem → Int → Int → Prop) (G40 : Mem → Int → Int → Int → Int → Prop) (Post : Pst) (μ : Mem) (x2 : Int) (x3 : Int) (s0 : Int) : Prop :=
  ((s0 ≤ x2) → b_X11_least_116 G26 G40 Post μ x3 x2) ∧ ((¬ (s0 ≤ x2)) → b_X11_least_116 G26 G40 Post μ x3 s0)
def b_X11_least_26 (G26 : Mem → Int → Int → Prop) (G40 : Mem → Int → Int → Int → Int → Prop) (Post : Pst) (μ : Mem) (x2 : Int) (x3 : Int) : Prop :=
  (((μ 11 15) < x3) → Post x2 μ) ∧ ((¬ ((μ 11 15) < x3)) → G40 μ x2 x3 0 0)
def b_X11_least_40 (G26 : Mem → Int → Int → Prop) (G40 : Mem → Int → Int → Int → Int → Prop) (Post : Pst) (μ : Mem) (x2 : Int) (x3 : Int) (x4 : Int) (x5 : Int) : Prop :=
  (((μ 11 15) ≤ x5) → ((¬ x4 = 0) → ¬ (μ 11 17) = 0 ∧ b_X11_least_102 G26 G40 Post μ x2 x3 (wrap ((wrap (x3 - 1)) + (idv (wrap ((wrap (x4 + (μ 11 17))) - 1)) (μ 11 17))))) ∧ ((x4 = 0) → b_X11_least_102 G26 G40 Post μ x2 x3 0)) ∧ ((¬ ((μ 11 15) ≤ x5)) → wp_X11_levelOf μ x5 (fun r_8 μ_9 => ((r_8 < x3) → b_X11_least_66 G26 G40 Post μ_9 x2 x3 x5 x4 0) ∧ ((¬ (r_8 < x3)) → b_X11_least_66 G26 G40 Post μ_9 x2 x3 x5 x4 1)))
def b_X11_least_e (G26 : Mem → Int → Int → Prop) (G40 : Mem → Int → Int → Int → Int → Prop) (Post : Pst) (μ : Mem) (p0 : Int) : Prop :=
  wp_X11_in μ p0 0 1 (fun r_11 μ_12 => ((¬ r_11 = 0) → ((¬ p0 = 0) → G26 μ_12 0 1) ∧ ((p0 = 0) → wp_X11_leastMinutes μ_12 (fun r_15 μ_16 => Post r_15 μ_16))) ∧ ((r_11 = 0) → Post (-2) μ_12))
def wp_X11_least (μ : Mem) (p0 : Int) (Post : Pst) : Prop := ∀ (G26 : Mem → Int → Int → Prop) (G40 : Mem → Int → Int → Int → Int → Prop), (∀ μ x2 x3, b_X11_least_26 G26 G40 Post μ x2 x3 → G26 μ x2 x3) → (∀ μ x2 x3 x4 x5, b_X11_least_40 G26 G40 Post μ x2 x3 x4 x5 → G40 μ x2 x3 x4 x5) → b_X11_least_e G26 G40 Post μ p0
def b_X11_levels_115 (G25 : Mem → Int → Int → Int → Prop) (G47 : Mem → Int → Int → Int → Int → Int → Prop) (G67 : Mem → Int → Int → Int → Int → Int → Int → Int → Prop) (Post : Pst) (μ : Mem) (x1 : Int) (x2 : Int) (x3 : Int) (x4 : Int) (x5 : Int) (x7 : Int) (s0 : Int) : Prop :=
  ∀ x_1 : Int, x_1 = wrap (x7 + 1) → G67 μ x1 x2 x3 x4 x5 s0 x_1
def b_X11_levels_108 (G25 : Mem → Int → Int → Int → Prop) (G47 : Mem → Int → Int → Int → Int → Int → Prop) (G67 : Mem → Int → Int → Int → Int → Int → Int → Int → Prop) (Post : Pst) (μ : Mem) (x1 : Int) (x2 : Int) (x3 : Int) (x4 : Int) (x5 : Int) (x7 : Int) : Prop :=
  b_X11_levels_115 G25 G47 G67 Post μ x1 x2 x3 x4 x5 x7 x7
def b_X11_levels_113 (G25 : Mem → Int → Int → Int → Prop) (G47 : Mem → Int → Int → Int → Int → Int → Prop) (G67 : Mem → Int → Int → Int → Int → Int → Int → Int → Prop) (Post : Pst) (μ : Mem) (x1 : Int) (x2 : Int) (x3 : Int) (x4 : Int) (x5 : Int) (x6 : Int) (x7 : Int) : Prop :=
  b_X11_levels_115 G25 G47 G67 Post μ x1 x2 x3 x4 x5 x7 x6
def b_X11_levels_155 (G25 : Mem → Int → Int → Int → Prop) (G47 : Mem → Int → Int → Int → Int → Int → Prop) (G67 : Mem → Int → Int → Int → Int → Int → Int → Int → Prop) (Post : Pst) (μ : Mem) (x1 : Int) (x2 : Int) (x3 : Int) : Prop :=
  ∀ x_2 : Int, x_2 = wrap (x3 + 1) → G25 μ x1 x2 x_2
def b_X11_levels_25 (G25 : Mem → Int → Int → Int → Prop) (G47 : Mem → Int → Int → Int → Int → Int → Prop) (G67 : Mem → Int → Int → Int → Int → Int → Int → Int → Prop) (Post : Pst) (μ : Mem) (x1 : Int) (x2 : Int) (x3 : Int) : Prop :=
  ((x2 = (wrap ((ishl 1 (μ 11 15)) - 1))) → ((¬ x1 = (-1)) → (0 ≤ x1 ∧ x1 < 12) ∧ Post (μ 110 x1.toNat) μ) ∧ ((x1 = (-1)) → Post x3 μ)) ∧ ((¬ x2 = (wrap ((ishl 1 (μ 11 15)) - 1))) → wp_X11_freeBehind μ x2 (fun r_6 μ_7 => G47 μ_7 x1 x2 x3 r_6 0))
def b_X11_levels_47 (G25 : Mem → Int → Int → Int → Prop) (G47 : Mem → Int → Int → Int → Int → Int → Prop) (G67 : Mem → Int → Int → Int → Int → Int → Int → Int → Prop) (Post : Pst) (μ : Mem) (x1 : Int) (x2 : Int) (x3 : Int) (x4 : Int) (x5 : Int) : Prop :=
  (((μ 11 17) ≤ x5) → b_X11_levels_155 G25 G47 G67 Post μ x1 x2 x3) ∧ ((¬ ((μ 11 17) ≤ x5)) → ((x4 = 0) → b_X11_levels_155 G25 G47 G67 Post μ x1 x2 x3) ∧ ((¬ x4 = 0) → G67 μ x1 x2 x3 x4 x5 (-1) 0))
def b_X11_levels_67 (G25 : Mem → Int → Int → Int → Prop) (G47 : Mem → Int → Int → Int → Int → Int → Prop) (G67 : Mem → Int → Int → Int → Int → Int → Int → Int → Prop) (Post : Pst) (μ : Mem) (x1 : Int) (x2 : Int) (x3 : Int) (x4 : Int) (x5 : Int) (x6 : Int) (x7 : Int) : Prop :=
  (((μ 11 15) ≤ x7) → (0 ≤ x6 ∧ x6 < 12) ∧ ∀ μ_12 : Mem, μ_12 = wr μ 110 x6.toNat x3 → ∀ x_13 : Int, x_13 = iand x4 (ixor (ishl 1 x6) (-1)) → ∀ x_14 : Int, x_14 = ior x2 (ishl 1 x6) → ∀ x_15 : Int, x_15 = wrap (x5 + 1) → G47 μ_12 x1 x_14 x3 x_13 x_15) ∧ ((¬ ((μ 11 15) ≤ x7)) → ((¬ (iand (ishr x4 x7) 1) = 1) → b_X11_levels_113 G25 G47 G67 Post μ x1 x2 x3 x4 x5 x6 x7) ∧ (((iand (ishr x4 x7) 1) = 1) → ((x6 = (-1)) → b_X11_levels_108 G25 G47 G67 Post μ x1 x2 x3 x4 x5 x7) ∧ ((¬ x6 = (-1)) → wp_X11_levelOf μ x7 (fun r_18 μ_19 => wp_X11_levelOf μ_19 x6 (fun r_20 μ_21 => ((r_18 ≤ r_20) → b_X11_levels_113 G25 G47 G67 Post μ_21 x1 x2 x3 x4 x5 x6 x7) ∧ ((¬ (r_18 ≤ r_20)) → b_X11_levels_108 G25 G47 G67 Post μ_21 x1 x2 x3 x4 x5 x7))))))
def b_X11_levels_e (G25 : Mem → Int → Int → Int → Prop) (G47 : Mem → Int → Int → Int → Int → Int → Prop) (G67 : Mem → Int → Int → Int → Int → Int → Int → Int → Prop) (Post : Pst) (μ : Mem) (p0 : Int) : Prop :=
  wp_X11_in μ p0 (-1) (wrap ((μ 11 15) - 1)) (fun r_23 μ_24 => ((¬ r_23 = 0) → G25 μ_24 p0 0 0) ∧ ((r_23 = 0) → Post (-10) μ_24))
def wp_X11_levels (μ : Mem) (p0 : Int) (Post : Pst) : Prop := ∀ (G25 : Mem → Int → Int → Int → Prop) (G47 : Mem → Int → Int → Int → Int → Int → Prop) (G67 : Mem → Int → Int → Int → Int → Int → Int → Int → Prop), (∀ μ x1 x2 x3, b_X11_levels_25 G25 G47 G67 Post μ x1 x2 x3 → G25 μ x1 x2 x3) → (∀ μ x1 x2 x3 x4 x5, b_X11_levels_47 G25 G47 G67 Post μ x1 x2 x3 x4 x5 → G47 μ x1 x2 x3 x4 x5) → (∀ μ x1 x2 x3 x4 x5 x6 x7, b_X11_levels_67 G25 G47 G67 Post μ x1 x2 x3 x4 x5 x6 x7 → G67 μ x1 x2 x3 x4 x5 x6 x7) → b_X11_levels_e G25 G47 G67 Post μ p0
def b_X11_likes_e (Post : Pst) (μ : Mem) (p0 : Int) : Prop :=
  wp_X11_in μ p0 1 4 (fun r_1 μ_2 => ((¬ r_1 = 0) → ∀ x_4 : Int, x_4 = μ_2 11 17 → ∀ μ_5 : Mem, μ_5 = wr μ_2 11 17 p0 → Post x_4 μ_5) ∧ ((r_1 = 0) → Post (-2) μ_2))
def wp_X11_likes (μ : Mem) (p0 : Int) (Post : Pst) : Prop := b_X11_likes_e Post μ p0
def b_X11_minute_e (Post : Pst) (μ : Mem) (p0 : Int) : Prop :=
  wp_X11_in μ p0 0 999 (fun r_1 μ_2 => ((¬ r_1 = 0) → wp_X11_goBroken μ_2 (fun r_4 μ_5 => (0 ≤ p0 ∧ p0 < 1000) ∧ Post (μ_5 105 p0.toNat) μ_5)) ∧ ((r_1 = 0) → Post (-10) μ_2))
def wp_X11_minute (μ : Mem) (p0 : Int) (Post : Pst) : Prop := b_X11_minute_e Post μ p0
def b_X11_needs_e (Post : Pst) (μ : Mem) (p0 : Int) (p1 : Int) (p2 : Int) : Prop :=
  wp_X11_isWork μ p0 (fun r_1 μ_2 => ((r_1 = 0) → Post (-2) μ_2) ∧ ((¬ r_1 = 0) → wp_X11_in μ_2 p1 0 3 (fun r_4 μ_5 => ((r_4 = 0) → Post (-2) μ_5) ∧ ((¬ r_4 = 0) → wp_X11_in μ_5 p2 1 40 (fun r_7 μ_8 => ((¬ r_7 = 0) → (0 ≤ (wrap ((wrap (4 * p0)) + p1)) ∧ (wrap ((wrap (4 * p0)) + p1)) < 32) ∧ ∀ x_11 : Int, x_11 = μ_8 97 (wrap ((wrap (4 * p0)) + p1)).toNat → (0 ≤ (wrap ((wrap (4 * p0)) + p1)) ∧ (wrap ((wrap (4 * p0)) + p1)) < 32) ∧ ∀ μ_13 : Mem, μ_13 = wr μ_8 97 (wrap ((wrap (4 * p0)) + p1)).toNat p2 → Post x_11 μ_13) ∧ ((r_7 = 0) → Post (-2) μ_8))))))
def wp_X11_needs (μ : Mem) (p0 : Int) (p1 : Int) (p2 : Int) (Post : Pst) : Prop := b_X11_needs_e Post μ p0 p1 p2
def b_X11_next_31 (G4 : Mem → Int → Int → Int → Prop) (Post : Pst) (μ : Mem) (x1 : Int) (x3 : Int) (s0 : Int) : Prop :=
  ∀ x_1 : Int, x_1 = wrap (x3 + 1) → G4 μ x1 s0 x_1
def b_X11_next_26 (G4 : Mem → Int → Int → Int → Prop) (Post : Pst) (μ : Mem) (x1 : Int) (x3 : Int) : Prop :=
  b_X11_next_31 G4 Post μ x1 x3 1
def b_X11_next_4 (G4 : Mem → Int → Int → Int → Prop) (Post : Pst) (μ : Mem) (x1 : Int) (x2 : Int) (x3 : Int) : Prop :=
  (((μ 11 12) ≤ x3) → wp_X11_isWork μ x1 (fun r_3 μ_4 => ((r_3 = 0) → Post (-2) μ_4) ∧ ((¬ r_3 = 0) → ((x2 = 0) → (0 ≤ (μ_4 11 12) ∧ (μ_4 11 12) < 8) ∧ ∀ μ_8 : Mem, μ_8 = wr μ_4 99 (μ_4 11 12).toNat x1 → ∀ μ_9 : Mem, μ_9 = wr μ_8 11 12 (wrap ((μ_8 11 12) + 1)) → Post (μ_9 11 12) μ_9) ∧ ((¬ x2 = 0) → Post (-2) μ_4)))) ∧ ((¬ ((μ 11 12) ≤ x3)) → ((¬ x2 = 0) → b_X11_next_26 G4 Post μ x1 x3) ∧ ((x2 = 0) → (0 ≤ x3 ∧ x3 < 8) ∧ ((¬ (μ 99 x3.toNat) = x1) → b_X11_next_31 G4 Post μ x1 x3 0) ∧ (((μ 99 x3.toNat) = x1) → b_X11_next_26 G4 Post μ x1 x3)))
def b_X11_next_e (G4 : Mem → Int → Int → Int → Prop) (Post : Pst) (μ : Mem) (p0 : Int) : Prop :=
  G4 μ p0 0 0
def wp_X11_next (μ : Mem) (p0 : Int) (Post : Pst) : Prop := ∀ (G4 : Mem → Int → Int → Int → Prop), (∀ μ x1 x2 x3, b_X11_next_4 G4 Post μ x1 x2 x3 → G4 μ x1 x2 x3) → b_X11_next_e G4 Post μ p0
def b_X11_onTime_137 (G10 : Mem → Int → Int → Int → Prop) (G64 : Mem → Int → Int → Int → Int → Int → Prop) (Post : Pst) (μ : Mem) (x1 : Int) (x2 : Int) (x3 : Int) (x5 : Int) (s0 : Int) : Prop :=
  ∀ x_1 : Int, x_1 = wrap (x5 + 1) → G64 μ x1 x2 x3 s0 x_1
def b_X11_onTime_118 (G10 : Mem → Int → Int → Int → Prop) (G64 : Mem → Int → Int → Int → Int → Int → Prop) (Post : Pst) (μ : Mem) (x1 : Int) (x2 : Int) (x3 : Int) (x4 : Int) (x5 : Int) (s0 : Int) : Prop :=
  ((s0 = 0) → b_X11_onTime_137 G10 G64 Post μ x1 x2 x3 x5 x4) ∧ ((¬ s0 = 0) → (0 ≤ x5 ∧ x5 < 8) ∧ b_X11_onTime_137 G10 G64 Post μ x1 x2 x3 x5 (μ 103 x5.toNat))
def b_X11_onTime_113 (G10 : Mem → Int → Int → Int → Prop) (G64 : Mem → Int → Int → Int → Int → Int → Prop) (Post : Pst) (μ : Mem) (x1 : Int) (x2 : Int) (x3 : Int) (x4 : Int) (x5 : Int) : Prop :=
  b_X11_onTime_118 G10 G64 Post μ x1 x2 x3 x4 x5 1
def b_X11_onTime_117 (G10 : Mem → Int → Int → Int → Prop) (G64 : Mem → Int → Int → Int → Int → Int → Prop) (Post : Pst) (μ : Mem) (x1 : Int) (x2 : Int) (x3 : Int) (x4 : Int) (x5 : Int) : Prop :=
  b_X11_onTime_118 G10 G64 Post μ x1 x2 x3 x4 x5 0
def b_X11_onTime_164 (G10 : Mem → Int → Int → Int → Prop) (G64 : Mem → Int → Int → Int → Int → Int → Prop) (Post : Pst) (μ : Mem) (x1 : Int) (x2 : Int) (x3 : Int) : Prop :=
  ∀ x_4 : Int, x_4 = wrap (x3 + 1) → G10 μ x1 x2 x_4
def b_X11_onTime_10 (G10 : Mem → Int → Int → Int → Prop) (G64 : Mem → Int → Int → Int → Int → Int → Prop) (Post : Pst) (μ : Mem) (x1 : Int) (x2 : Int) (x3 : Int) : Prop :=
  (((μ 11 0) ≤ x3) → Post x1 μ) ∧ ((¬ ((μ 11 0) ≤ x3)) → (0 ≤ x3 ∧ x3 < 8) ∧ ∀ x_7 : Int, x_7 = ior x1 (ishl 1 (μ 103 x3.toNat)) → (0 ≤ x3 ∧ x3 < 8) ∧ (0 ≤ (μ 103 x3.toNat) ∧ (μ 103 x3.toNat) < 8) ∧ ∀ x_10 : Int, x_10 = wrap (x2 + (μ 90 (μ 103 x3.toNat).toNat)) → (0 ≤ x3 ∧ x3 < 8) ∧ (0 ≤ (μ 103 x3.toNat) ∧ (μ 103 x3.toNat) < 8) ∧ ((x_10 ≤ (μ 92 (μ 103 x3.toNat).toNat)) → b_X11_onTime_164 G10 G64 Post μ x_7 x_10 x3) ∧ ((¬ (x_10 ≤ (μ 92 (μ 103 x3.toNat).toNat))) → G64 μ x_7 x_10 x3 (-1) 0))
def b_X11_onTime_64 (G10 : Mem → Int → Int → Int → Prop) (G64 : Mem → Int → Int → Int → Int → Int → Prop) (Post : Pst) (μ : Mem) (x1 : Int) (x2 : Int) (x3 : Int) (x4 : Int) (x5 : Int) : Prop :=
  ((x3 < x5) → ∀ x_15 : Int, x_15 = iand x1 (ixor (ishl 1 x4) (-1)) → (0 ≤ x4 ∧ x4 < 8) ∧ ∀ x_17 : Int, x_17 = wrap (x2 - (μ 90 x4.toNat)) → b_X11_onTime_164 G10 G64 Post μ x_15 x_17 x3) ∧ ((¬ (x3 < x5)) → (0 ≤ x5 ∧ x5 < 8) ∧ ((¬ (iand (ishr x1 (μ 103 x5.toNat)) 1) = 1) → b_X11_onTime_117 G10 G64 Post μ x1 x2 x3 x4 x5) ∧ (((iand (ishr x1 (μ 103 x5.toNat)) 1) = 1) → ((x4 = (-1)) → b_X11_onTime_113 G10 G64 Post μ x1 x2 x3 x4 x5) ∧ ((¬ x4 = (-1)) → (0 ≤ x5 ∧ x5 < 8) ∧ (0 ≤ (μ 103 x5.toNat) ∧ (μ 103 x5.toNat) < 8) ∧ (0 ≤ x4 ∧ x4 < 8) ∧ (((μ 90 (μ 103 x5.toNat).toNat) < (μ 90 x4.toNat)) → b_X11_onTime_117 G10 G64 Post μ x1 x2 x3 x4 x5) ∧ ((¬ ((μ 90 (μ 103 x5.toNat).toNat) < (μ 90 x4.toNat))) → b_X11_onTime_113 G10 G64 Post μ x1 x2 x3 x4 x5))))
def b_X11_onTime_e (G10 : Mem → Int → Int → Int → Prop) (G64 : Mem → Int → Int → Int → Int → Int → Prop) (Post : Pst) (μ : Mem) : Prop :=
  wp_X11_byDue μ (fun _ μ_26 => G10 μ_26 0 0 0)
def wp_X11_onTime (μ : Mem) (Post : Pst) : Prop := ∀ (G10 : Mem → Int → Int → Int → Prop) (G64 : Mem → Int → Int → Int → Int → Int → Prop), (∀ μ x1 x2 x3, b_X11_onTime_10 G10 G64 Post μ x1 x2 x3 → G10 μ x1 x2 x3) → (∀ μ x1 x2 x3 x4 x5, b_X11_onTime_64 G10 G64 Post μ x1 x2 x3 x4 x5 → G64 μ x1 x2 x3 x4 x5) → b_X11_onTime_e G10 G64 Post μ
def b_X11_put_166 (Post : Pst) (μ : Mem) (x1 : Int) (x2 : Int) (x3 : Int) (x4 : Int) : Prop :=
  ((¬ x2 = 4) → Post x4 μ) ∧ ((x2 = 4) → wp_X11_in μ x3 0 2 (fun r_2 μ_3 => ((r_2 = 0) → Post x4 μ_3) ∧ ((¬ r_2 = 0) → (0 ≤ x1 ∧ x1 < 8) ∧ ∀ x_6 : Int, x_6 = μ_3 94 x1.toNat → (0 ≤ x1 ∧ x1 < 8) ∧ ∀ μ_8 : Mem, μ_8 = wr μ_3 94 x1.toNat x3 → Post x_6 μ_8)))
def b_X11_put_131 (Post : Pst) (μ : Mem) (x1 : Int) (x2 : Int) (x3 : Int) (x4 : Int) : Prop :=
  ((¬ x2 = 3) → b_X11_put_166 Post μ x1 x2 x3 x4) ∧ ((x2 = 3) → wp_X11_in μ x3 0 20 (fun r_10 μ_11 => ((r_10 = 0) → b_X11_put_166 Post μ_11 x1 x2 x3 x4) ∧ ((¬ r_10 = 0) → (0 ≤ x1 ∧ x1 < 8) ∧ ∀ x_14 : Int, x_14 = μ_11 93 x1.toNat → (0 ≤ x1 ∧ x1 < 8) ∧ ∀ μ_16 : Mem, μ_16 = wr μ_11 93 x1.toNat x3 → Post x_14 μ_16)))
def b_X11_put_96 (Post : Pst) (μ : Mem) (x1 : Int) (x2 : Int) (x3 : Int) (x4 : Int) : Prop :=
  ((¬ x2 = 2) → b_X11_put_131 Post μ x1 x2 x3 x4) ∧ ((x2 = 2) → wp_X11_in μ x3 0 300 (fun r_18 μ_19 => ((r_18 = 0) → b_X11_put_131 Post μ_19 x1 x2 x3 x4) ∧ ((¬ r_18 = 0) → (0 ≤ x1 ∧ x1 < 8) ∧ ∀ x_22 : Int, x_22 = μ_19 92 x1.toNat → (0 ≤ x1 ∧ x1 < 8) ∧ ∀ μ_24 : Mem, μ_24 = wr μ_19 92 x1.toNat x3 → Post x_22 μ_24)))
def b_X11_put_61 (Post : Pst) (μ : Mem) (x1 : Int) (x2 : Int) (x3 : Int) (x4 : Int) : Prop :=
  ((¬ x2 = 1) → b_X11_put_96 Post μ x1 x2 x3 x4) ∧ ((x2 = 1) → wp_X11_in μ x3 0 99 (fun r_26 μ_27 => ((r_26 = 0) → b_X11_put_96 Post μ_27 x1 x2 x3 x4) ∧ ((¬ r_26 = 0) → (0 ≤ x1 ∧ x1 < 8) ∧ ∀ x_30 : Int, x_30 = μ_27 91 x1.toNat → (0 ≤ x1 ∧ x1 < 8) ∧ ∀ μ_32 : Mem, μ_32 = wr μ_27 91 x1.toNat x3 → Post x_30 μ_32)))
def b_X11_put_e (Post : Pst) (μ : Mem) (p0 : Int) (p1 : Int) (p2 : Int) : Prop :=
  wp_X11_isWork μ p0 (fun r_33 μ_34 => ((r_33 = 0) → Post (-2) μ_34) ∧ ((¬ r_33 = 0) → wp_X11_in μ_34 p1 0 4 (fun r_36 μ_37 => ((¬ r_36 = 0) → ((¬ p1 = 0) → b_X11_put_61 Post μ_37 p0 p1 p2 (-2)) ∧ ((p1 = 0) → wp_X11_in μ_37 p2 1 40 (fun r_40 μ_41 => ((r_40 = 0) → b_X11_put_61 Post μ_41 p0 p1 p2 (-2)) ∧ ((¬ r_40 = 0) → (0 ≤ p0 ∧ p0 < 8) ∧ ∀ x_44 : Int, x_44 = μ_41 90 p0.toNat → (0 ≤ p0 ∧ p0 < 8) ∧ ∀ μ_46 : Mem, μ_46 = wr μ_41 90 p0.toNat p2 → Post x_44 μ_46)))) ∧ ((r_36 = 0) → Post (-2) μ_37))))
def wp_X11_put (μ : Mem) (p0 : Int) (p1 : Int) (p2 : Int) (Post : Pst) : Prop := b_X11_put_e Post μ p0 p1 p2
def b_X11_step_e (Post : Pst) (μ : Mem) (p0 : Int) (p1 : Int) (p2 : Int) : Prop :=
  wp_X11_in μ p0 0 1 (fun r_1 μ_2 => ((r_1 = 0) → Post (-2) μ_2) ∧ ((¬ r_1 = 0) → wp_X11_in μ_2 p1 0 5 (fun r_4 μ_5 => ((r_4 = 0) → Post (-2) μ_5) ∧ ((¬ r_4 = 0) → wp_X11_in μ_5 p2 1 20 (fun r_7 μ_8 => ((¬ r_7 = 0) → (0 ≤ p0 ∧ p0 < 2) ∧ ∀ x_11 : Int, x_11 = μ_8 101 p0.toNat → ((¬ x_11 = 6) → (0 ≤ (wrap ((wrap (12 * p0)) + (wrap (2 * x_11)))) ∧ (wrap ((wrap (12 * p0)) + (wrap (2 * x_11)))) < 24) ∧ ∀ μ_14 : Mem, μ_14 = wr μ_8 100 (wrap ((wrap (12 * p0)) + (wrap (2 * x_11)))).toNat p1 → (0 ≤ (wrap ((wrap ((wrap (12 * p0)) + (wrap (2 * x_11)))) + 1)) ∧ (wrap ((wrap ((wrap (12 * p0)) + (wrap (2 * x_11)))) + 1)) < 24) ∧ ∀ μ_16 : Mem, μ_16 = wr μ_14 100 (wrap ((wrap ((wrap (12 * p0)) + (wrap (2 * x_11)))) + 1)).toNat p2 → (0 ≤ p0 ∧ p0 < 2) ∧ (0 ≤ p0 ∧ p0 < 2) ∧ ∀ μ_19 : Mem, μ_19 = wr μ_16 101 p0.toNat (wrap ((μ_16 101 p0.toNat) + 1)) → Post (wrap (x_11 + 1)) μ_19) ∧ ((x_11 = 6) → Post (-4) μ_8)) ∧ ((r_7 = 0) → Post (-2) μ_8))))))
def wp_X11_step (μ : Mem) (p0 : Int) (p1 : Int) (p2 : Int) (Post : Pst) : Prop := b_X11_step_e Post μ p0 p1 p2
def b_X11_walk_52 (G14 : Mem → Int → Int → Int → Prop) (G22 : Mem → Int → Int → Int → Int → Prop) (G67 : Mem → Int → Int → Int → Prop) (G75 : Mem → Int → Int → Int → Int → Prop) (Post : Pst) (μ : Mem) (x1 : Int) (x2 : Int) (x3 : Int) (x4 : Int) (s1 : Int) (s2 : Int) : Prop :=
  (0 ≤ s1 ∧ s1 < 14641) ∧ ∀ μ_2 : Mem, μ_2 = wr μ 109 s1.toNat s2 → ∀ x_3 : Int, x_3 = wrap (x4 + 1) → G22 μ_2 x1 x2 x3 x_3
def b_X11_walk_311 (G14 : Mem → Int → Int → Int → Prop) (G22 : Mem → Int → Int → Int → Int → Prop) (G67 : Mem → Int → Int → Int → Prop) (G75 : Mem → Int → Int → Int → Int → Prop) (Post : Pst) (μ : Mem) (x1 : Int) (x2 : Int) (x3 : Int) (x4 : Int) : Prop :=
  ∀ x_4 : Int, x_4 = wrap (x4 + 1) → G75 μ x1 x2 x3 x_4
def b_X11_walk_269 (G14 : Mem → Int → Int → Int → Prop) (G22 : Mem → Int → Int → Int → Int → Prop) (G67 : Mem → Int → Int → Int → Prop) (G75 : Mem → Int → Int → Int → Int → Prop) (Post : Pst) (μ : Mem) (x1 : Int) (x2 : Int) (x3 : Int) (x4 : Int) (x5 : Int) (x8 : Int) : Prop :=
  ((x8 = 0) → b_X11_walk_311 G14 G22 G67 G75 Post μ x1 x2 x3 x4) ∧ ((¬ x8 = 0) → (0 ≤ (wrap ((wrap ((wrap (121 * x3)) + 122)) + x4)) ∧ (wrap ((wrap ((wrap (121 * x3)) + 122)) + x4)) < 14641) ∧ (((μ 109 (wrap ((wrap ((wrap (121 * x3)) + 122)) + x4)).toNat) ≤ x5) → b_X11_walk_311 G14 G22 G67 G75 Post μ x1 x2 x3 x4) ∧ ((¬ ((μ 109 (wrap ((wrap ((wrap (121 * x3)) + 122)) + x4)).toNat) ≤ x5)) → (0 ≤ (wrap ((wrap ((wrap (121 * x3)) + 122)) + x4)) ∧ (wrap ((wrap ((wrap (121 * x3)) + 122)) + x4)) < 14641) ∧ ∀ μ_9 : Mem, μ_9 = wr μ 109 (wrap ((wrap ((wrap (121 * x3)) + 122)) + x4)).toNat x5 → b_X11_walk_311 G14 G22 G67 G75 Post μ_9 x1 x2 x3 x4))
def b_X11_walk_229 (G14 : Mem → Int → Int → Int → Prop) (G22 : Mem → Int → Int → Int → Int → Prop) (G67 : Mem → Int → Int → Int → Prop) (G75 : Mem → Int → Int → Int → Int → Prop) (Post : Pst) (μ : Mem) (x1 : Int) (x2 : Int) (x3 : Int) (x4 : Int) (x5 : Int) (x7 : Int) (x8 : Int) : Prop :=
  ((x7 = 0) → b_X11_walk_269 G14 G22 G67 G75 Post μ x1 x2 x3 x4 x5 x8) ∧ ((¬ x7 = 0) → (0 ≤ (wrap ((wrap ((wrap (121 * x3)) + x4)) + 1)) ∧ (wrap ((wrap ((wrap (121 * x3)) + x4)) + 1)) < 14641) ∧ (((μ 109 (wrap ((wrap ((wrap (121 * x3)) + x4)) + 1)).toNat) ≤ x5) → b_X11_walk_269 G14 G22 G67 G75 Post μ x1 x2 x3 x4 x5 x8) ∧ ((¬ ((μ 109 (wrap ((wrap ((wrap (121 * x3)) + x4)) + 1)).toNat) ≤ x5)) → (0 ≤ (wrap ((wrap ((wrap (121 * x3)) + x4)) + 1)) ∧ (wrap ((wrap ((wrap (121 * x3)) + x4)) + 1)) < 14641) ∧ ∀ μ_14 : Mem, μ_14 = wr μ 109 (wrap ((wrap ((wrap (121 * x3)) + x4)) + 1)).toNat x5 → b_X11_walk_269 G14 G22 G67 G75 Post μ_14 x1 x2 x3 x4 x5 x8))
def b_X11_walk_185 (G14 : Mem → Int → Int → Int → Prop) (G22 : Mem → Int → Int → Int → Int → Prop) (G67 : Mem → Int → Int → Int → Prop) (G75 : Mem → Int → Int → Int → Int → Prop) (Post : Pst) (μ : Mem) (x1 : Int) (x2 : Int) (x3 : Int) (x4 : Int) (x5 : Int) (x6 : Int) (x7 : Int) (s0 : Int) : Prop :=
  ((x6 = 0) → b_X11_walk_229 G14 G22 G67 G75 Post μ x1 x2 x3 x4 x5 x7 s0) ∧ ((¬ x6 = 0) → (0 ≤ (wrap ((wrap ((wrap (121 * x3)) + 121)) + x4)) ∧ (wrap ((wrap ((wrap (121 * x3)) + 121)) + x4)) < 14641) ∧ (((μ 109 (wrap ((wrap ((wrap (121 * x3)) + 121)) + x4)).toNat) ≤ x5) → b_X11_walk_229 G14 G22 G67 G75 Post μ x1 x2 x3 x4 x5 x7 s0) ∧ ((¬ ((μ 109 (wrap ((wrap ((wrap (121 * x3)) + 121)) + x4)).toNat) ≤ x5)) → (0 ≤ (wrap ((wrap ((wrap (121 * x3)) + 121)) + x4)) ∧ (wrap ((wrap ((wrap (121 * x3)) + 121)) + x4)) < 14641) ∧ ∀ μ_19 : Mem, μ_19 = wr μ 109 (wrap ((wrap ((wrap (121 * x3)) + 121)) + x4)).toNat x5 → b_X11_walk_229 G14 G22 G67 G75 Post μ_19 x1 x2 x3 x4 x5 x7 s0))
def b_X11_walk_184 (G14 : Mem → Int → Int → Int → Prop) (G22 : Mem → Int → Int → Int → Int → Prop) (G67 : Mem → Int → Int → Int → Prop) (G75 : Mem → Int → Int → Int → Int → Prop) (Post : Pst) (μ : Mem) (x1 : Int) (x2 : Int) (x3 : Int) (x4 : Int) (x5 : Int) (x6 : Int) (x7 : Int) : Prop :=
  b_X11_walk_185 G14 G22 G67 G75 Post μ x1 x2 x3 x4 x5 x6 x7 0
def b_X11_walk_152 (G14 : Mem → Int → Int → Int → Prop) (G22 : Mem → Int → Int → Int → Int → Prop) (G67 : Mem → Int → Int → Int → Prop) (G75 : Mem → Int → Int → Int → Int → Prop) (Post : Pst) (μ : Mem) (x1 : Int) (x2 : Int) (x3 : Int) (x4 : Int) (x5 : Int) (x6 : Int) (s0 : Int) : Prop :=
  ((x6 = 0) → b_X11_walk_184 G14 G22 G67 G75 Post μ x1 x2 x3 x4 x5 x6 s0) ∧ ((¬ x6 = 0) → ((s0 = 0) → b_X11_walk_184 G14 G22 G67 G75 Post μ x1 x2 x3 x4 x5 x6 s0) ∧ ((¬ s0 = 0) → wp_X11_benchAt μ 0 x3 (fun r_22 μ_23 => wp_X11_benchAt μ_23 1 x4 (fun r_24 μ_25 => ((r_22 = r_24) → b_X11_walk_184 G14 G22 G67 G75 Post μ_25 x1 x2 x3 x4 x5 x6 s0) ∧ ((¬ r_22 = r_24) → b_X11_walk_185 G14 G22 G67 G75 Post μ_25 x1 x2 x3 x4 x5 x6 s0 1)))))
def b_X11_walk_151 (G14 : Mem → Int → Int → Int → Prop) (G22 : Mem → Int → Int → Int → Int → Prop) (G67 : Mem → Int → Int → Int → Prop) (G75 : Mem → Int → Int → Int → Int → Prop) (Post : Pst) (μ : Mem) (x1 : Int) (x2 : Int) (x3 : Int) (x4 : Int) (x5 : Int) (x6 : Int) : Prop :=
  b_X11_walk_152 G14 G22 G67 G75 Post μ x1 x2 x3 x4 x5 x6 0
def b_X11_walk_123 (G14 : Mem → Int → Int → Int → Prop) (G22 : Mem → Int → Int → Int → Int → Prop) (G67 : Mem → Int → Int → Int → Prop) (G75 : Mem → Int → Int → Int → Int → Prop) (Post : Pst) (μ : Mem) (x1 : Int) (x2 : Int) (x3 : Int) (x4 : Int) (x5 : Int) (s0 : Int) : Prop :=
  ((x2 ≤ x4) → b_X11_walk_151 G14 G22 G67 G75 Post μ x1 x2 x3 x4 x5 s0) ∧ ((¬ (x2 ≤ x4)) → wp_X11_benchAt μ 1 x4 (fun r_28 μ_29 => wp_X11_heldAt μ_29 0 x3 (fun r_30 μ_31 => ((r_28 = r_30) → b_X11_walk_151 G14 G22 G67 G75 Post μ_31 x1 x2 x3 x4 x5 s0) ∧ ((¬ r_28 = r_30) → b_X11_walk_152 G14 G22 G67 G75 Post μ_31 x1 x2 x3 x4 x5 s0 1))))
def b_X11_walk_122 (G14 : Mem → Int → Int → Int → Prop) (G22 : Mem → Int → Int → Int → Int → Prop) (G67 : Mem → Int → Int → Int → Prop) (G75 : Mem → Int → Int → Int → Int → Prop) (Post : Pst) (μ : Mem) (x1 : Int) (x2 : Int) (x3 : Int) (x4 : Int) (x5 : Int) : Prop :=
  b_X11_walk_123 G14 G22 G67 G75 Post μ x1 x2 x3 x4 x5 0
def b_X11_walk_14 (G14 : Mem → Int → Int → Int → Prop) (G22 : Mem → Int → Int → Int → Int → Prop) (G67 : Mem → Int → Int → Int → Prop) (G75 : Mem → Int → Int → Int → Int → Prop) (Post : Pst) (μ : Mem) (x1 : Int) (x2 : Int) (x3 : Int) : Prop :=
  ((x1 < x3) → G67 μ x1 x2 0) ∧ ((¬ (x1 < x3)) → G22 μ x1 x2 x3 0)
def b_X11_walk_22 (G14 : Mem → Int → Int → Int → Prop) (G22 : Mem → Int → Int → Int → Int → Prop) (G67 : Mem → Int → Int → Int → Prop) (G75 : Mem → Int → Int → Int → Int → Prop) (Post : Pst) (μ : Mem) (x1 : Int) (x2 : Int) (x3 : Int) (x4 : Int) : Prop :=
  ((x2 < x4) → ∀ x_35 : Int, x_35 = wrap (x3 + 1) → G14 μ x1 x2 x_35) ∧ ((¬ (x2 < x4)) → ((¬ (wrap (x3 + x4)) = 0) → b_X11_walk_52 G14 G22 G67 G75 Post μ x1 x2 x3 x4 (wrap ((wrap (121 * x3)) + x4)) 100000) ∧ (((wrap (x3 + x4)) = 0) → b_X11_walk_52 G14 G22 G67 G75 Post μ x1 x2 x3 x4 (wrap ((wrap (121 * x3)) + x4)) 0))
def b_X11_walk_67 (G14 : Mem → Int → Int → Int → Prop) (G22 : Mem → Int → Int → Int → Int → Prop) (G67 : Mem → Int → Int → Int → Prop) (G75 : Mem → Int → Int → Int → Int → Prop) (Post : Pst) (μ : Mem) (x1 : Int) (x2 : Int) (x3 : Int) : Prop :=
  ((x1 < x3) → (0 ≤ (wrap ((wrap (121 * x1)) + x2)) ∧ (wrap ((wrap (121 * x1)) + x2)) < 14641) ∧ Post (μ 109 (wrap ((wrap (121 * x1)) + x2)).toNat) μ) ∧ ((¬ (x1 < x3)) → G75 μ x1 x2 x3 0)
def b_X11_walk_75 (G14 : Mem → Int → Int → Int → Prop) (G22 : Mem → Int → Int → Int → Int → Prop) (G67 : Mem → Int → Int → Int → Prop) (G75 : Mem → Int → Int → Int → Int → Prop) (Post : Pst) (μ : Mem) (x1 : Int) (x2 : Int) (x3 : Int) (x4 : Int) : Prop :=
  ((x2 < x4) → ∀ x_40 : Int, x_40 = wrap (x3 + 1) → G67 μ x1 x2 x_40) ∧ ((¬ (x2 < x4)) → (0 ≤ (wrap ((wrap (121 * x3)) + x4)) ∧ (wrap ((wrap (121 * x3)) + x4)) < 14641) ∧ ∀ x_42 : Int, x_42 = wrap ((μ 109 (wrap ((wrap (121 * x3)) + x4)).toNat) + 1) → ((x1 ≤ x3) → b_X11_walk_122 G14 G22 G67 G75 Post μ x1 x2 x3 x4 x_42) ∧ ((¬ (x1 ≤ x3)) → wp_X11_benchAt μ 0 x3 (fun r_44 μ_45 => wp_X11_heldAt μ_45 1 x4 (fun r_46 μ_47 => ((r_44 = r_46) → b_X11_walk_122 G14 G22 G67 G75 Post μ_47 x1 x2 x3 x4 x_42) ∧ ((¬ r_44 = r_46) → b_X11_walk_123 G14 G22 G67 G75 Post μ_47 x1 x2 x3 x4 x_42 1)))))
def b_X11_walk_e (G14 : Mem → Int → Int → Int → Prop) (G22 : Mem → Int → Int → Int → Int → Prop) (G67 : Mem → Int → Int → Int → Prop) (G75 : Mem → Int → Int → Int → Int → Prop) (Post : Pst) (μ : Mem) : Prop :=
  wp_X11_allMinutes μ 0 (fun r_49 μ_50 => wp_X11_allMinutes μ_50 1 (fun r_51 μ_52 => G14 μ_52 r_49 r_51 0))
def wp_X11_walk (μ : Mem) (Post : Pst) : Prop := ∀ (G14 : Mem → Int → Int → Int → Prop) (G22 : Mem → Int → Int → Int → Int → Prop) (G67 : Mem → Int → Int → Int → Prop) (G75 : Mem → Int → Int → Int → Int → Prop), (∀ μ x1 x2 x3, b_X11_walk_14 G14 G22 G67 G75 Post μ x1 x2 x3 → G14 μ x1 x2 x3) → (∀ μ x1 x2 x3 x4, b_X11_walk_22 G14 G22 G67 G75 Post μ x1 x2 x3 x4 → G22 μ x1 x2 x3 x4) → (∀ μ x1 x2 x3, b_X11_walk_67 G14 G22 G67 G75 Post μ x1 x2 x3 → G67 μ x1 x2 x3) → (∀ μ x1 x2 x3 x4, b_X11_walk_75 G14 G22 G67 G75 Post μ x1 x2 x3 x4 → G75 μ x1 x2 x3 x4) → b_X11_walk_e G14 G22 G67 G75 Post μ
def b_X11_way_e (Post : Pst) (μ : Mem) (p0 : Int) (p1 : Int) : Prop :=
  wp_X11_in μ p0 1 3 (fun r_1 μ_2 => ((r_1 = 0) → Post (-2) μ_2) ∧ ((¬ r_1 = 0) → wp_X11_in μ_2 p1 0 9 (fun r_4 μ_5 => ((¬ r_4 = 0) → (0 ≤ p0 ∧ p0 < 4) ∧ ∀ x_8 : Int, x_8 = μ_5 98 p0.toNat → (0 ≤ p0 ∧ p0 < 4) ∧ ∀ μ_10 : Mem, μ_10 = wr μ_5 98 p0.toNat p1 → Post x_8 μ_10) ∧ ((r_4 = 0) → Post (-2) μ_5))))
def wp_X11_way (μ : Mem) (p0 : Int) (p1 : Int) (Post : Pst) : Prop := b_X11_way_e Post μ p0 p1
def b_X11_work_117 (G91 : Mem → Int → Int → Prop) (Post : Pst) (μ : Mem) (x1 : Int) (x2 : Int) (s1 : Int) (s2 : Int) : Prop :=
  (0 ≤ s1 ∧ s1 < 32) ∧ ∀ μ_2 : Mem, μ_2 = wr μ 97 s1.toNat s2 → ∀ x_3 : Int, x_3 = wrap (x2 + 1) → G91 μ_2 x1 x_3
def b_X11_work_91 (G91 : Mem → Int → Int → Prop) (Post : Pst) (μ : Mem) (x1 : Int) (x2 : Int) : Prop :=
  ((4 ≤ x2) → ∀ μ_5 : Mem, μ_5 = wr μ 11 0 (wrap ((μ 11 0) + 1)) → Post (wrap ((μ_5 11 0) - 1)) μ_5) ∧ ((¬ (4 ≤ x2)) → ((¬ x2 = 0) → b_X11_work_117 G91 Post μ x1 x2 (wrap ((wrap (4 * (μ 11 0))) + x2)) 1) ∧ ((x2 = 0) → b_X11_work_117 G91 Post μ x1 x2 (wrap ((wrap (4 * (μ 11 0))) + x2)) x1))
def b_X11_work_e (G91 : Mem → Int → Int → Prop) (Post : Pst) (μ : Mem) (p0 : Int) : Prop :=
  wp_X11_in μ p0 1 40 (fun r_7 μ_8 => ((¬ r_7 = 0) → ((¬ (μ_8 11 0) = 8) → (0 ≤ (μ_8 11 0) ∧ (μ_8 11 0) < 8) ∧ ∀ μ_12 : Mem, μ_12 = wr μ_8 90 (μ_8 11 0).toNat p0 → (0 ≤ (μ_12 11 0) ∧ (μ_12 11 0) < 8) ∧ ∀ μ_14 : Mem, μ_14 = wr μ_12 91 (μ_12 11 0).toNat 0 → (0 ≤ (μ_14 11 0) ∧ (μ_14 11 0) < 8) ∧ ∀ μ_16 : Mem, μ_16 = wr μ_14 92 (μ_14 11 0).toNat 300 → (0 ≤ (μ_16 11 0) ∧ (μ_16 11 0) < 8) ∧ ∀ μ_18 : Mem, μ_18 = wr μ_16 93 (μ_16 11 0).toNat 1 → (0 ≤ (μ_18 11 0) ∧ (μ_18 11 0) < 8) ∧ ∀ μ_20 : Mem, μ_20 = wr μ_18 94 (μ_18 11 0).toNat 0 → (0 ≤ (μ_20 11 0) ∧ (μ_20 11 0) < 8) ∧ ∀ μ_22 : Mem, μ_22 = wr μ_20 95 (μ_20 11 0).toNat 0 → G91 μ_22 p0 0) ∧ (((μ_8 11 0) = 8) → Post (-4) μ_8)) ∧ ((r_7 = 0) → Post (-2) μ_8))
def wp_X11_work (μ : Mem) (p0 : Int) (Post : Pst) : Prop := ∀ (G91 : Mem → Int → Int → Prop), (∀ μ x1 x2, b_X11_work_91 G91 Post μ x1 x2 → G91 μ x1 x2) → b_X11_work_e G91 Post μ p0
