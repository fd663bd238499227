/-! levels -/
def inn (lv : Nat → Int) (N : Nat) (m : Int) (F D : Nat) (mo : Nat → Int) : Nat → Nat × Nat × (Nat → Int)
  | 0 => (F, D, mo)
  | k + 1 => if (inn lv N m F D mo k).1 = 0 then inn lv N m F D mo k else (ndf (inn lv N m F D mo k).1 (2 ^ (hgo lv (inn lv N m F D mo k).1 N).toNat), (inn lv N m F D mo k).2.1 ||| 2 ^ (hgo lv (inn lv N m F D mo k).1 N).toNat, fun w => if w = (hgo lv (inn lv N m F D mo k).1 N).toNat then m else (inn lv N m F D mo k).2.2 w)
def lvs (h lv : Nat → Int) (N q : Nat) : Nat → Nat × (Nat → Int)
  | 0 => (0, fun _ => 0)
  | m + 1 => (inn lv N m (FB h N (lvs h lv N q m).1) (lvs h lv N q m).1 (lvs h lv N q m).2 q).2
theorem inn_lt {lv : Nat → Int} {N : Nat} {m : Int} {F D : Nat} {mo : Nat → Int} (hF : F < 2 ^ N) (hD : D < 2 ^ N) (k : Nat) : (inn lv N m F D mo k).1 < 2 ^ N ∧ (inn lv N m F D mo k).2.1 < 2 ^ N := by
  induction k with
  | zero => exact ⟨hF, hD⟩
  | succ k ih =>
    unfold inn
    by_cases c : (inn lv N m F D mo k).1 = 0
    · rw [if_pos c]; exact ih
    · rw [if_neg c]
      obtain ⟨x, e, h1, h2⟩ := hgo_some (lv := lv) ih.1 c
      rw [e, tn]
      exact ⟨Nat.lt_of_le_of_lt (ndf_le _ _) ih.1, Nat.or_lt_two_pow ih.2 (Nat.pow_lt_pow_right (by decide) h1)⟩
theorem inn_stay {lv : Nat → Int} {N : Nat} {m : Int} {F D : Nat} {mo : Nat → Int} {k : Nat} (h0 : (inn lv N m F D mo k).1 = 0) (j : Nat) : inn lv N m F D mo (k + j) = inn lv N m F D mo k := by
  induction j with
  | zero => rfl
  | succ j ih =>
    show (if (inn lv N m F D mo (k + j)).1 = 0 then inn lv N m F D mo (k + j) else _) = _
    rw [ih, if_pos h0]
theorem inn_ge {lv : Nat → Int} {N : Nat} {m : Int} {F D : Nat} {mo : Nat → Int} (k : Nat) : ∀ u, D.testBit u = true → ((inn lv N m F D mo k).2.1).testBit u = true := by
  induction k with
  | zero => exact fun _ h => h
  | succ k ih =>
    intro u hu
    unfold inn
    split
    · exact ih u hu
    · show (_ ||| _ : Nat).testBit u = true
      rw [Nat.testBit_or, ih u hu, Bool.true_or]
theorem lvs_lt {h lv : Nat → Int} {N q : Nat} (m : Nat) : (lvs h lv N q m).1 < 2 ^ N := by
  induction m with
  | zero => exact Nat.pow_pos (by decide)
  | succ m ih => exact (inn_lt FB_lt ih q).2
theorem free_some {h : Nat → Int} {N D : Nat} (hb : ∀ i : Nat, i < N → -1 ≤ h i ∧ h i < i) (hD : D < 2 ^ N) (hne : D ≠ 2 ^ N - 1) : FB h N D ≠ 0 := by
  have hex : ∃ i, i < N ∧ D.testBit i = false := Classical.byContradiction fun hx => hne (Nat.eq_of_testBit_eq (fun u => by
    rw [all_bit]
    by_cases c : u < N
    · cases hc : D.testBit u with
      | true => simp [c]
      | false => exact absurd ⟨u, c, hc⟩ hx
    · rw [Nat.testBit_lt_two_pow (Nat.lt_of_lt_of_le hD (Nat.pow_le_pow_right (by decide) (by omega)))]
      simp [c]))
  obtain ⟨i, h1, h2, h3⟩ := argmin (f := fun i => - (i : Int)) hex
  intro h0
  have : (FB h N D).testBit i = true := (FB_bit (fun j hj => (hb j hj).1)).mpr ⟨h1, h2, fun j hj e => by
    cases hc : D.testBit j with
    | true => rfl
    | false =>
      have := h3 j hj hc
      have := (hb j hj).2
      omega⟩
  rw [h0, Nat.zero_testBit] at this
  cases this
theorem lvs_grow {h lv : Nat → Int} {N q m : Nat} (hq : 1 ≤ q) (hb : ∀ i : Nat, i < N → -1 ≤ h i ∧ h i < i) (hne : (lvs h lv N q m).1 ≠ 2 ^ N - 1) : cdn (lvs h lv N q m).1 N < cdn (lvs h lv N q (m + 1)).1 N := by
  have f0 := free_some hb (lvs_lt m) hne
  obtain ⟨x, e, h1, h2⟩ := hgo_some (lv := lv) (FB_lt (h := h) (N := N) (D := (lvs h lv N q m).1)) f0
  have hx := ((FB_bit (fun j hj => (hb j hj).1)).mp h2).2.1
  have up : ∀ k, ((inn lv N m (FB h N (lvs h lv N q m).1) (lvs h lv N q m).1 (lvs h lv N q m).2 k).2.1).testBit x = true → ((inn lv N m (FB h N (lvs h lv N q m).1) (lvs h lv N q m).1 (lvs h lv N q m).2 (k + 1)).2.1).testBit x = true := by
    intro k hk
    unfold inn
    split
    · exact hk
    · show (_ ||| _ : Nat).testBit x = true
      rw [Nat.testBit_or, hk, Bool.true_or]
  have e0 : inn lv N m (FB h N (lvs h lv N q m).1) (lvs h lv N q m).1 (lvs h lv N q m).2 (0 + 1) = (ndf (FB h N (lvs h lv N q m).1) (2 ^ (hgo lv (FB h N (lvs h lv N q m).1) N).toNat), (lvs h lv N q m).1 ||| 2 ^ (hgo lv (FB h N (lvs h lv N q m).1) N).toNat, fun w => if w = (hgo lv (FB h N (lvs h lv N q m).1) N).toNat then (m : Int) else (lvs h lv N q m).2 w) := if_neg f0
  have step1 : ((inn lv N m (FB h N (lvs h lv N q m).1) (lvs h lv N q m).1 (lvs h lv N q m).2 (0 + 1)).2.1).testBit x = true := by
    rw [e0]
    show ((lvs h lv N q m).1 ||| 2 ^ (hgo lv (FB h N (lvs h lv N q m).1) N).toNat).testBit x = true
    rw [e, tn, Nat.testBit_or, Nat.testBit_two_pow_self, Bool.or_true]
  have more : ∀ j, ((inn lv N m (FB h N (lvs h lv N q m).1) (lvs h lv N q m).1 (lvs h lv N q m).2 (j + 1)).2.1).testBit x = true := by
    intro j
    induction j with
    | zero => exact step1
    | succ j ih => exact up (j + 1) ih
  have last := more (q - 1)
  rw [show q - 1 + 1 = q by omega] at last
  exact cdn_lt (inn_ge q) h1 hx last
theorem lvs_end {h lv : Nat → Int} {N q : Nat} (hq : 1 ≤ q) (hb : ∀ i : Nat, i < N → -1 ≤ h i ∧ h i < i) : ∃ M, M ≤ N ∧ (lvs h lv N q M).1 = 2 ^ N - 1 ∧ ∀ m, m < M → (lvs h lv N q m).1 ≠ 2 ^ N - 1 := by
  have key : ∀ k, (∃ M, M ≤ k ∧ (lvs h lv N q M).1 = 2 ^ N - 1 ∧ ∀ m, m < M → (lvs h lv N q m).1 ≠ 2 ^ N - 1) ∨ ((∀ m, m ≤ k → (lvs h lv N q m).1 ≠ 2 ^ N - 1) ∧ k + 1 ≤ cdn (lvs h lv N q (k + 1)).1 N) := by
    intro k
    induction k with
    | zero =>
      by_cases c : (lvs h lv N q 0).1 = 2 ^ N - 1
      · exact Or.inl ⟨0, by omega, c, fun m hm => by omega⟩
      · refine Or.inr ⟨fun m hm => by rw [show m = 0 by omega]; exact c, ?_⟩
        have := lvs_grow (lv := lv) hq hb c
        omega
    | succ k ih =>
      rcases ih with ⟨M, h1, h2, h3⟩ | ⟨h1, h2⟩
      · exact Or.inl ⟨M, by omega, h2, h3⟩
      · by_cases c : (lvs h lv N q (k + 1)).1 = 2 ^ N - 1
        · exact Or.inl ⟨k + 1, by omega, c, fun m hm => h1 m (by omega)⟩
        · refine Or.inr ⟨fun m hm => ?_, ?_⟩
          · by_cases e : m = k + 1
            · rw [e]; exact c
            · exact h1 m (by omega)
          · have := lvs_grow (lv := lv) hq hb c
            omega
  rcases key N with h1 | ⟨-, h2⟩
  · exact h1
  · have := cdn_le (lvs h lv N q (N + 1)).1 N
    omega
theorem k_levels {μ : Mem} {N q M : Nat} (hN : μ 10 0 = N) (h12 : N ≤ 12) (hq : μ 10 1 = q) (hq4 : q ≤ 4) (hb : ∀ i : Nat, i < N → -1 ≤ μ 88 i ∧ μ 88 i < i) (hM : M ≤ N) (hM1 : (lvs (μ 88) (μ 89) N q M).1 = 2 ^ N - 1) (hM2 : ∀ m, m < M → (lvs (μ 88) (μ 89) N q m).1 ≠ 2 ^ N - 1) {Post : Pst} (hp : ∀ μ1 : Mem, (∀ c, c ≠ 87 → μ1 c = μ c) → (∀ w, w < N → μ1 87 w = (lvs (μ 88) (μ 89) N q M).2 w) → Post (M : Int) μ1) : wp_X7_goByLevels μ Post := by
  unfold wp_X7_goByLevels b_X7_goByLevels_e
  intro G4 G27 h4 h27
  have p8 := pow12 h12
  refine upTo (P := fun m => ∀ μ1 : Mem, (∀ c, c ≠ 87 → μ1 c = μ c) → (∀ w, ((lvs (μ 88) (μ 89) N q m).1).testBit w = true → μ1 87 w = (lvs (μ 88) (μ 89) N q m).2 w) → G4 μ1 ((lvs (μ 88) (μ 89) N q m).1 : Int) (m : Int)) (n := M) ?_ ?_ μ (fun _ _ => rfl) (fun w hw => by rw [show (lvs (μ 88) (μ 89) N q 0).1 = 0 from rfl, Nat.zero_testBit] at hw; cases hw)
  · intro μ1 fr c1
    have fin := hp μ1 fr (fun w hw => c1 w (by rw [hM1, all_bit]; simp [hw]))
    refine h4 _ _ _ ⟨fun _ => fin, fun _ => k_allL (by rw [fr 10 (by decide)]; exact hN) h12 ⟨fun _ => fin, fun h' => absurd (by rw [hM1]) h'⟩⟩
  · intro m hm ih μ1 fr c1
    have ll := lvs_lt (h := μ 88) (lv := μ 89) (N := N) (q := q) m
    have ne := hM2 m hm
    have ihx := ih
    have e1 : lvs (μ 88) (μ 89) N q (m + 1) = (inn (μ 89) N m (FB (μ 88) N (lvs (μ 88) (μ 89) N q m).1) (lvs (μ 88) (μ 89) N q m).1 (lvs (μ 88) (μ 89) N q m).2 q).2 := rfl
    rw [e1] at ihx
    obtain ⟨D, hD⟩ : ∃ D, D = (lvs (μ 88) (μ 89) N q m).1 := ⟨_, rfl⟩
    obtain ⟨mo, hmo⟩ : ∃ mo, mo = (lvs (μ 88) (μ 89) N q m).2 := ⟨_, rfl⟩
    rw [← hD] at ll ne c1 ihx ⊢
    rw [← hmo] at c1 ihx
    have e88 : μ1 88 = μ 88 := fr 88 (by decide)
    have p0 : 0 < 2 ^ N := Nat.pow_pos (by decide)
    refine h4 _ _ _ ⟨fun h' => absurd h' (by omega), fun _ => k_allL (by rw [fr 10 (by decide)]; exact hN) h12 ⟨fun h' => absurd h' (by omega), fun _ => ?_⟩⟩
    refine k_free (h := μ 88) (by rw [fr 10 (by decide)]; exact hN) h12 (by omega) (fun i _ => by rw [e88]) hb ?_
    have il := fun k => inn_lt (lv := μ 89) (m := m) (mo := mo) (FB_lt (h := μ 88) (N := N) (D := D)) ll k
    refine upTo (P := fun k => ∀ μ1 : Mem, (∀ c, c ≠ 87 → μ1 c = μ c) → (∀ w, ((inn (μ 89) N m (FB (μ 88) N D) D mo k).2.1).testBit w = true → μ1 87 w = (inn (μ 89) N m (FB (μ 88) N D) D mo k).2.2 w) → G27 μ1 ((inn (μ 89) N m (FB (μ 88) N D) D mo k).2.1 : Int) (m : Int) ((inn (μ 89) N m (FB (μ 88) N D) D mo k).1 : Int) (k : Int)) (n := q) ?_ ?_ μ1 fr c1
    · intro μ1 fr c1
      refine h27 _ _ _ _ _ ⟨fun _ => ?_, fun h' => absurd h' (by rw [fr 10 (by decide)]; omega)⟩
      unfold b_X7_goByLevels_77
      rw [wrap_id (by omega) (by omega)]
      rintro _ rfl
      rw [← cs]
      exact ihx μ1 fr c1
    · intro k hk ihk μ1 fr c1
      have ilk := il k
      refine h27 _ _ _ _ _ ⟨fun h' => absurd h' (by rw [fr 10 (by decide)]; omega), fun _ => ⟨fun c => ?_, fun c => ?_⟩⟩
      · have st := inn_stay (lv := μ 89) (N := N) (m := (m : Int)) (F := FB (μ 88) N D) (D := D) (mo := mo) (k := k) (by omega) (q - k)
        rw [show k + (q - k) = q by omega] at st
        unfold b_X7_goByLevels_77
        rw [wrap_id (by omega) (by omega)]
        rintro _ rfl
        rw [← cs]
        rw [st] at ihx
        exact ihx μ1 fr c1
      · have e2 : inn (μ 89) N m (FB (μ 88) N D) D mo (k + 1) = (ndf (inn (μ 89) N m (FB (μ 88) N D) D mo k).1 (2 ^ (hgo (μ 89) (inn (μ 89) N m (FB (μ 88) N D) D mo k).1 N).toNat), (inn (μ 89) N m (FB (μ 88) N D) D mo k).2.1 ||| 2 ^ (hgo (μ 89) (inn (μ 89) N m (FB (μ 88) N D) D mo k).1 N).toNat, fun w => if w = (hgo (μ 89) (inn (μ 89) N m (FB (μ 88) N D) D mo k).1 N).toNat then (m : Int) else (inn (μ 89) N m (FB (μ 88) N D) D mo k).2.2 w) := if_neg (by omega)
        rw [e2] at ihk
        obtain ⟨x, ex, hx1, hx2⟩ := hgo_some (lv := μ 89) ilk.1 (by omega)
        rw [ex, tn] at ihk
        refine k_highest (lv := μ 89) (by rw [fr 10 (by decide)]; exact hN) h12 ilk.1 (by omega) (fun i _ => by rw [fr 89 (by decide)]) ?_
        rw [ex]
        refine ⟨by omega, ?_⟩
        rw [tn, ishl_n (by omega), iandn_n (by omega) (pow_lt31 (by omega)), ior_n (by omega) (pow_lt31 (by omega)), wrap_id (by omega) (by omega)]
        intro μ2 h2
        rintro _ rfl _ rfl _ rfl
        rw [← cs]
        refine ihk μ2 (fun c hc => by rw [h2, wr_ne hc]; exact fr c hc) (fun w hw => ?_)
        rw [h2]
        show wr μ1 87 x (m : Int) 87 w = if w = x then (m : Int) else (inn (μ 89) N m (FB (μ 88) N D) D mo k).2.2 w
        by_cases e : w = x
        · rw [e, wr_s, if_pos rfl]
        · rw [wr_i e, if_neg e]
          refine c1 w ?_
          have hw' : ((inn (μ 89) N m (FB (μ 88) N D) D mo k).2.1 ||| 2 ^ x).testBit w = true := hw
          rw [Nat.testBit_or, Nat.testBit_two_pow, Bool.or_eq_true, decide_eq_true_eq] at hw'
          rcases hw' with h' | h'
          · exact h'
          · exact absurd h'.symm e
theorem m_levels {μ : Mem} {N q M : Nat} {p : Int} {h lv : Nat → Int} (hN : μ 11 15 = N) (h12 : N ≤ 12) (hq : μ 11 17 = q) (hq4 : q ≤ 4) (hp0 : -1 ≤ p ∧ p < N) (hh : ∀ i, i < N → μ 102 i = h i) (hb : ∀ i : Nat, i < N → -1 ≤ h i ∧ h i < i) (hl : ∀ i, i < N → lv i = if h i = -1 then 1 else lv (h i).toNat + 1) (hlb : ∀ i : Nat, i < N → 1 ≤ lv i ∧ lv i ≤ i + 1) (hM : M ≤ N) (hM1 : (lvs h lv N q M).1 = 2 ^ N - 1) (hM2 : ∀ m, m < M → (lvs h lv N q m).1 ≠ 2 ^ N - 1) {Post : Pst} (hp : ∀ μ1 : Mem, (∀ c, c ≠ 110 → μ1 c = μ c) → Post (if p = -1 then (M : Int) else (lvs h lv N q M).2 p.toNat) μ1) : wp_X11_levels μ p Post := by
  unfold wp_X11_levels
  intro G25 G47 G67 h25 h47 h67
  unfold b_X11_levels_e
  have p8 := pow12 h12
  have p0 : 0 < 2 ^ N := Nat.pow_pos (by decide)
  refine in_iff.mpr ⟨fun _ => ⟨fun _ => ?_, fun h' => absurd h' (by decide)⟩, fun h' => absurd (by rw [hN, wrap_id (by omega) (by omega)]; omega) h'⟩
  refine upTo (P := fun m => ∀ μ1 : Mem, (∀ c, c ≠ 110 → μ1 c = μ c) → (∀ w, ((lvs h lv N q m).1).testBit w = true → μ1 110 w = (lvs h lv N q m).2 w) → G25 μ1 p ((lvs h lv N q m).1 : Int) (m : Int)) (n := M) ?_ ?_ μ (fun _ _ => rfl) (fun w hw => by rw [show (lvs h lv N q 0).1 = 0 from rfl, Nat.zero_testBit] at hw; cases hw)
  · intro μ1 fr c1
    have fin := hp μ1 fr
    have eN : μ1 11 15 = N := by rw [fr 11 (by decide)]; exact hN
    have ea : wrap (ishl 1 (μ1 11 15) - 1) = ((2 ^ N - 1 : Nat) : Int) := by rw [eN, ishl_n (by omega), wrap_id (by omega) (by omega)]; omega
    refine h25 _ _ _ _ ⟨fun _ => ⟨fun c => ⟨by omega, ?_⟩, fun c => ?_⟩, fun h' => absurd (by rw [ea, hM1]) h'⟩
    · rw [if_neg c] at fin
      rw [c1 p.toNat (by rw [hM1, all_bit]; simp; omega)]
      exact fin
    · rw [if_pos c] at fin
      exact fin
  · intro m hm ih μ1 fr c1
    have ll := lvs_lt (h := h) (lv := lv) (N := N) (q := q) m
    have ne := hM2 m hm
    have ihx := ih
    have e1 : lvs h lv N q (m + 1) = (inn lv N m (FB h N (lvs h lv N q m).1) (lvs h lv N q m).1 (lvs h lv N q m).2 q).2 := rfl
    rw [e1] at ihx
    obtain ⟨D, hD⟩ : ∃ D, D = (lvs h lv N q m).1 := ⟨_, rfl⟩
    obtain ⟨mo, hmo⟩ : ∃ mo, mo = (lvs h lv N q m).2 := ⟨_, rfl⟩
    rw [← hD] at ll ne c1 ihx ⊢
    rw [← hmo] at c1 ihx
    have eN : μ1 11 15 = N := by rw [fr 11 (by decide)]; exact hN
    have ea : wrap (ishl 1 (μ1 11 15) - 1) = ((2 ^ N - 1 : Nat) : Int) := by rw [eN, ishl_n (by omega), wrap_id (by omega) (by omega)]; omega
    refine h25 _ _ _ _ ⟨fun h' => absurd h' (by rw [ea]; omega), fun _ => ?_⟩
    refine m_free eN h12 (by omega) (fun i hi => by rw [fr 102 (by decide)]; exact hh i hi) hb ?_
    have il := fun k => inn_lt (lv := lv) (m := m) (mo := mo) (FB_lt (h := h) (N := N) (D := D)) ll k
    refine upTo (P := fun k => ∀ μ1 : Mem, (∀ c, c ≠ 110 → μ1 c = μ c) → (∀ w, ((inn lv N m (FB h N D) D mo k).2.1).testBit w = true → μ1 110 w = (inn lv N m (FB h N D) D mo k).2.2 w) → G47 μ1 p ((inn lv N m (FB h N D) D mo k).2.1 : Int) (m : Int) ((inn lv N m (FB h N D) D mo k).1 : Int) (k : Int)) (n := q) ?_ ?_ μ1 fr c1
    · intro μ1 fr c1
      refine h47 _ _ _ _ _ _ ⟨fun _ => ?_, fun h' => absurd h' (by rw [fr 11 (by decide)]; omega)⟩
      unfold b_X11_levels_155
      rw [wrap_id (by omega) (by omega)]
      rintro _ rfl
      rw [← cs]
      exact ihx μ1 fr c1
    · intro k hk ihk μ1 fr c1
      have ilk := il k
      have eN : μ1 11 15 = N := by rw [fr 11 (by decide)]; exact hN
      refine h47 _ _ _ _ _ _ ⟨fun h' => absurd h' (by rw [fr 11 (by decide)]; omega), fun _ => ⟨fun c => ?_, fun c => ?_⟩⟩
      · have st := inn_stay (lv := lv) (N := N) (m := (m : Int)) (F := FB h N D) (D := D) (mo := mo) (k := k) (by omega) (q - k)
        rw [show k + (q - k) = q by omega] at st
        unfold b_X11_levels_155
        rw [wrap_id (by omega) (by omega)]
        rintro _ rfl
        rw [← cs]
        rw [st] at ihx
        exact ihx μ1 fr c1
      · have e2 : inn lv N m (FB h N D) D mo (k + 1) = (ndf (inn lv N m (FB h N D) D mo k).1 (2 ^ (hgo lv (inn lv N m (FB h N D) D mo k).1 N).toNat), (inn lv N m (FB h N D) D mo k).2.1 ||| 2 ^ (hgo lv (inn lv N m (FB h N D) D mo k).1 N).toNat, fun w => if w = (hgo lv (inn lv N m (FB h N D) D mo k).1 N).toNat then (m : Int) else (inn lv N m (FB h N D) D mo k).2.2 w) := if_neg (by omega)
        rw [e2] at ihk
        obtain ⟨x, ex, hx1, hx2⟩ := hgo_some (lv := lv) ilk.1 (by omega)
        rw [ex, tn] at ihk
        obtain ⟨F, hF⟩ : ∃ F, F = (inn lv N m (FB h N D) D mo k).1 := ⟨_, rfl⟩
        obtain ⟨E, hE⟩ : ∃ E, E = (inn lv N m (FB h N D) D mo k).2.1 := ⟨_, rfl⟩
        rw [← hF] at ilk ex hx2 ihk c ⊢
        rw [← hE] at ilk ihk c1 ⊢
        refine upTo (P := fun i => G67 μ1 p (E : Int) (m : Int) (F : Int) (k : Int) (hgo lv F i) (i : Int)) (n := N) ?_ ?_
        · refine h67 _ _ _ _ _ _ _ _ ⟨fun _ => ?_, fun h' => absurd h' (by omega)⟩
          rw [ex, tn, ishl_n (by omega), iandn_n (by omega) (pow_lt31 (by omega)), ior_n (by omega) (pow_lt31 (by omega)), wrap_id (by omega) (by omega)]
          refine ⟨by omega, ?_⟩
          intro μ2 h2
          rintro _ rfl _ rfl _ rfl
          rw [← cs]
          refine ihk μ2 (fun c hc => by rw [h2, wr_ne hc]; exact fr c hc) (fun w hw => ?_)
          rw [h2]
          show wr μ1 110 x (m : Int) 110 w = if w = x then (m : Int) else (inn lv N m (FB h N D) D mo k).2.2 w
          by_cases e : w = x
          · rw [e, wr_s, if_pos rfl]
          · rw [wr_i e, if_neg e]
            refine c1 w ?_
            have hw' : (E ||| 2 ^ x).testBit w = true := hw
            rw [Nat.testBit_or, Nat.testBit_two_pow, Bool.or_eq_true, decide_eq_true_eq] at hw'
            rcases hw' with h' | h'
            · exact h'
            · exact absurd h'.symm e
        · intro i hi ihi
          rw [cs] at ihi
          unfold hgo at ihi
          have hr := hgo_rng (lv := lv) (F := F) i
          refine h67 _ _ _ _ _ _ _ _ ⟨fun h' => absurd h' (by omega), fun _ => ?_⟩
          unfold b_X11_levels_113 b_X11_levels_108 b_X11_levels_115
          rw [wrap_id (by omega) (by omega), bit1_n (by omega) (by omega)]
          cases hc : F.testBit i with
          | false =>
            rw [hc, if_neg (by simp)] at ihi
            refine ⟨fun _ => ?_, fun h' => absurd h' (by decide)⟩
            rintro _ rfl
            exact ihi
          | true =>
            rw [hc] at ihi
            refine ⟨fun h' => absurd rfl h', fun _ => ⟨fun c3 => ?_, fun c3 => ?_⟩⟩
            · rw [if_pos ⟨rfl, Or.inl c3⟩] at ihi
              rintro _ rfl
              exact ihi
            · rcases hr with ⟨e', _⟩ | ⟨y, e1, e2, e3⟩
              · exact absurd e' c3
              · rw [e1, tn] at ihi
                rw [e1]
                have fh : ∀ i, i < N → μ1 102 i = h i := fun i hi => by rw [fr 102 (by decide)]; exact hh i hi
                refine m_level h12 hi fh hb hl hlb (m_level h12 (show y < N by omega) fh hb hl hlb ⟨fun c4 => ?_, fun c4 => ?_⟩)
                · rw [if_neg (by intro hh; omega)] at ihi
                  rintro _ rfl
                  exact ihi
                · rw [if_pos ⟨rfl, Or.inr (by omega)⟩] at ihi
                  rintro _ rfl
                  exact ihi
theorem o_levels {μ : Mem} {p : Int} (hI : Inv μ) : wp_X10_levels μ p (fun r μ1 => wp_X11_levels μ1 p (Ok r)) := by
  obtain ⟨N, q, hN, hN', h12, hq, hq', q1, q4, hh, hl, hlb⟩ := hI.l
  have hb : ∀ i : Nat, i < N → -1 ≤ μ 88 i ∧ μ 88 i < i := fun i hi => (hh i hi).2
  obtain ⟨M, hM, hM1, hM2⟩ := lvs_end (lv := μ 89) (q := q) q1 hb
  unfold wp_X10_levels b_X10_levels_e
  rw [isFrom_iff, hN, wrap_id (by omega) (by omega)]
  refine ⟨fun hp => ⟨fun _ => ?_, fun h' => absurd h' (by decide)⟩, fun hp => ⟨fun h' => absurd rfl h', fun _ => ?_⟩⟩
  · refine k_levels hN h12 hq q4 hb hM hM1 hM2 (fun μ1 fr c1 => ?_)
    have k1 : Kp μ μ1 := fun c hc => fr c (by have := isP_c hc; omega)
    have oth : ∀ r : Int, r = (if p = -1 then (M : Int) else (lvs (μ 88) (μ 89) N q M).2 p.toNat) → wp_X11_levels μ1 p (Ok r) := by
      intro r hr
      refine m_levels (h := μ 88) (lv := μ 89) (by rw [k1 11 rfl]; exact hN') h12 (by rw [k1 11 rfl]; exact hq') q4 ⟨by omega, by omega⟩ (fun i hi => by rw [k1 102 rfl]; exact (hh i hi).1) hb hl hlb hM hM1 hM2 (fun μ2 fr2 => ⟨hr, hI.kp (k1.tr (fun c hc => fr2 c (by have := isP_c hc; omega)))⟩)
    refine ⟨fun c => ⟨by omega, oth _ ?_⟩, fun c => oth _ ?_⟩
    · rw [if_neg c]; exact c1 _ (by omega)
    · rw [if_pos c]
  · show wp_X11_levels μ p (Ok _)
    unfold wp_X11_levels
    intro G25 G47 G67 h25 h47 h67
    unfold b_X11_levels_e
    exact in_iff.mpr ⟨fun h' => absurd h' (by rw [hN', wrap_id (by omega) (by omega)]; omega), fun _ => ⟨fun h' => absurd rfl h', fun _ => okI hI⟩⟩
