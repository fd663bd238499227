/-! least(1) -/
def abv (lv : Nat → Int) (N : Nat) (level : Int) : Int := sumTo (fun w => if level ≤ lv w then 1 else 0) N
theorem abv_bd {lv : Nat → Int} {i : Nat} {level : Int} : 0 ≤ abv lv i level ∧ abv lv i level ≤ 1 * i := sumTo_bd (fun w _ => by
  show 0 ≤ (if level ≤ lv w then (1 : Int) else 0) ∧ (if level ≤ lv w then (1 : Int) else 0) ≤ 1
  split <;> omega)
def lvV (lv : Nat → Int) (N : Nat) (q : Int) (i : Nat) : Int := if abv lv N ((i : Int) + 1) = 0 then 0 else wrap (wrap ((i : Int) + 1 - 1) + idv (wrap (wrap (abv lv N ((i : Int) + 1) + q) - 1)) q)
theorem maxTo_nn {f : Nat → Int} (n : Nat) : 0 ≤ maxTo f n := by
  induction n with
  | zero => exact Int.le_refl 0
  | succ n ih => unfold maxTo; have := imax_d (maxTo f n) (f n); omega
theorem k_above {μ : Mem} {N : Nat} (hN : μ 10 0 = N) (h12 : N ≤ 12) {level : Int} {Post : Pst} (hp : Post (abv (μ 89) N level) μ) : wp_X7_atOrAbove μ level Post := by
  unfold wp_X7_atOrAbove b_X7_atOrAbove_e
  intro G hG
  refine upTo (P := fun i => G μ level (abv (μ 89) i level) (i : Int)) (n := N) ?_ ?_
  · exact hG _ _ _ _ ⟨fun _ => hp, fun h' => absurd h' (by omega)⟩
  · intro i hi ih
    have b := abv_bd (lv := μ 89) (i := i) (level := level)
    have e : abv (μ 89) (i + 1) level = abv (μ 89) i level + (if level ≤ μ 89 i then 1 else 0) := rfl
    rw [e, cs] at ih
    refine hG _ _ _ _ ⟨fun h' => absurd h' (by omega), fun _ => ⟨by omega, ?_⟩⟩
    unfold b_X7_atOrAbove_25
    rw [tn, wrap_id (x := (i : Int) + 1) (by omega) (by omega), wrap_id (x := abv (μ 89) i level + 1) (by omega) (by omega)]
    refine ⟨fun c => ?_, fun c => ?_⟩
    · rw [if_neg (by omega), Int.add_zero] at ih
      rintro _ rfl
      exact ih
    · rw [if_pos (by omega)] at ih
      rintro _ rfl _ rfl
      exact ih
theorem k_least1 {μ : Mem} {N q : Nat} (hN : μ 10 0 = N) (h12 : N ≤ 12) (hq : μ 10 1 = q) (q1 : 1 ≤ q) {Post : Pst} (hp : Post (maxTo (lvV (μ 89) N q) N) μ) : wp_X7_notSooner μ Post := by
  unfold wp_X7_notSooner b_X7_notSooner_e
  intro G hG
  have key : G μ (maxTo (lvV (μ 89) N q) 0) (((0 : Nat) : Int) + 1) := by
    refine upTo (P := fun i => G μ (maxTo (lvV (μ 89) N q) i) ((i : Int) + 1)) (n := N) ?_ ?_
    · exact hG _ _ _ ⟨fun _ => hp, fun h' => absurd h' (by omega)⟩
    · intro i hi ih
      have b := abv_bd (lv := μ 89) (i := N) (level := (i : Int) + 1)
      have nn := maxTo_nn (f := lvV (μ 89) N q) i
      have e : maxTo (lvV (μ 89) N q) (i + 1) = imax (maxTo (lvV (μ 89) N q) i) (lvV (μ 89) N q i) := rfl
      rw [e, cs] at ih
      unfold lvV at ih
      refine hG _ _ _ ⟨fun h' => absurd h' (by omega), fun _ => k_above hN h12 ?_⟩
      unfold b_X7_notSooner_36
      rw [wrap_id (x := (i : Int) + 1 + 1) (by omega) (by omega)]
      refine ⟨fun c => ?_, fun c => ?_⟩
      · rw [if_pos (by omega)] at ih
        have d := imax_d (maxTo (lvV (μ 89) N q) i) 0
        have e2 : imax (maxTo (lvV (μ 89) N q) i) 0 = maxTo (lvV (μ 89) N q) i := by omega
        unfold lvV at e2
        rw [e2] at ih
        rintro _ rfl
        exact ih
      · rw [if_neg (by omega)] at ih
        unfold wp_X7_cutUp b_X7_cutUp_e
        rw [hq]
        refine ⟨fun _ => ⟨by omega, ?_⟩, fun h' => absurd h' (by omega)⟩
        rintro _ rfl _ rfl
        exact ih
  exact key
theorem m_least1 {μ : Mem} {N q : Nat} {h lv : Nat → Int} {Post : Pst} {G26 : Mem → Int → Int → Prop} {G40 : Mem → Int → Int → Int → Int → Prop} (hN : μ 11 15 = N) (h12 : N ≤ 12) (hq : μ 11 17 = q) (q1 : 1 ≤ q) (hh : ∀ i, i < N → μ 102 i = h i) (hb : ∀ i : Nat, i < N → -1 ≤ h i ∧ h i < i) (hl : ∀ i, i < N → lv i = if h i = -1 then 1 else lv (h i).toNat + 1) (hlb : ∀ i : Nat, i < N → 1 ≤ lv i ∧ lv i ≤ i + 1) (h26 : ∀ μ x2 x3, b_X11_least_26 G26 G40 Post μ x2 x3 → G26 μ x2 x3) (h40 : ∀ μ x2 x3 x4 x5, b_X11_least_40 G26 G40 Post μ x2 x3 x4 x5 → G40 μ x2 x3 x4 x5) (hp : Post (maxTo (lvV lv N q) N) μ) : G26 μ 0 1 := by
  have key : G26 μ (maxTo (lvV lv N q) 0) (((0 : Nat) : Int) + 1) := by
    refine upTo (P := fun i => G26 μ (maxTo (lvV lv N q) i) ((i : Int) + 1)) (n := N) ?_ ?_
    · exact h26 _ _ _ ⟨fun _ => hp, fun h' => absurd h' (by omega)⟩
    · intro i hi ih
      have nn := maxTo_nn (f := lvV lv N q) i
      have e : maxTo (lvV lv N q) (i + 1) = imax (maxTo (lvV lv N q) i) (lvV lv N q i) := rfl
      rw [e, cs] at ih
      refine h26 _ _ _ ⟨fun h' => absurd h' (by omega), fun _ => ?_⟩
      refine upTo (P := fun w => G40 μ (maxTo (lvV lv N q) i) ((i : Int) + 1) (abv lv w ((i : Int) + 1)) (w : Int)) (n := N) ?_ ?_
      · have fin : ∀ v, v = lvV lv N q i → b_X11_least_102 G26 G40 Post μ (maxTo (lvV lv N q) i) ((i : Int) + 1) v := by
          intro v hv
          unfold b_X11_least_102 b_X11_least_116
          rw [wrap_id (by omega) (by omega)]
          rw [← hv] at ih
          have d := imax_d (maxTo (lvV lv N q) i) v
          refine ⟨fun c => ?_, fun c => ?_⟩
          · rw [show imax (maxTo (lvV lv N q) i) v = maxTo (lvV lv N q) i by omega] at ih
            rintro _ rfl
            exact ih
          · rw [show imax (maxTo (lvV lv N q) i) v = v by omega] at ih
            rintro _ rfl
            exact ih
        refine h40 _ _ _ _ _ ⟨fun _ => ⟨fun c => ⟨by omega, fin _ ?_⟩, fun c => fin 0 ?_⟩, fun h' => absurd h' (by omega)⟩
        · unfold lvV
          rw [if_neg c, hq]
        · unfold lvV
          rw [if_pos c]
      · intro w hw ihw
        have b := abv_bd (lv := lv) (i := w) (level := (i : Int) + 1)
        have e : abv lv (w + 1) ((i : Int) + 1) = abv lv w ((i : Int) + 1) + (if (i : Int) + 1 ≤ lv w then 1 else 0) := rfl
        rw [e, cs] at ihw
        refine h40 _ _ _ _ _ ⟨fun h' => absurd h' (by omega), fun _ => m_level h12 hw hh hb hl hlb ?_⟩
        unfold b_X11_least_66
        rw [wrap_id (x := (w : Int) + 1) (by omega) (by omega), wrap_id (x := abv lv w ((i : Int) + 1) + 1) (by omega) (by omega), Int.add_zero, wrap_id (x := abv lv w ((i : Int) + 1)) (by omega) (by omega)]
        refine ⟨fun c => ?_, fun c => ?_⟩
        · rw [if_neg (by omega), Int.add_zero] at ihw
          rintro _ rfl _ rfl
          exact ihw
        · rw [if_pos (by omega)] at ihw
          rintro _ rfl _ rfl
          exact ihw
  exact key
