/-! bound -/
def T (μ : Mem) (w : Nat) : Nat → Int := fun b => μ (32 + w) b
theorem s_between {μ : Mem} {w lo hi : Nat} {Post : Pst} (hw : w < 8) (h1 : lo ≤ hi) (h2 : hi ≤ 4) (hT : ∀ b, b < 4 → 1 ≤ T μ w b ∧ T μ w b ≤ 40) (h : Post (sumTo (T μ w) hi - sumTo (T μ w) lo) μ) : wp_X4_timeBetween μ (w : Int) (lo : Int) (hi : Int) Post := by
  unfold wp_X4_timeBetween b_X4_timeBetween_e
  intro G hG
  have key : G μ w hi (sumTo (T μ w) lo - sumTo (T μ w) lo) lo := by
    refine upFrom (P := fun i => G μ w hi (sumTo (T μ w) i - sumTo (T μ w) lo) (i : Int)) h1 ?_ ?_
    · exact hG _ _ _ _ _ ⟨fun _ => h, fun h' => absurd h' (by omega)⟩
    · intro i h0 hi' ih
      have s0 := sumTo_bd (f := T μ w) (B := 40) (n := i) (fun j hj => by have := hT j (by omega); omega)
      have s1 := sumTo_bd (f := T μ w) (B := 40) (n := lo) (fun j hj => by have := hT j (by omega); omega)
      have t := hT i (by omega)
      have e : sumTo (T μ w) (i + 1) = sumTo (T μ w) i + T μ w i := rfl
      rw [cs, e, show sumTo (T μ w) i + T μ w i - sumTo (T μ w) lo = sumTo (T μ w) i - sumTo (T μ w) lo + T μ w i by omega] at ih
      refine hG _ _ _ _ _ ⟨fun h' => absurd h' (by omega), fun _ => ?_⟩
      unfold T at *
      simp (disch := omega) only [tn, wrap_id]
      refine ⟨by omega, by omega, ?_⟩
      rintro _ rfl _ rfl
      exact ih
  rw [Int.sub_self] at key
  exact key
def bnd (μ : Mem) (B n b : Nat) : Int := sumTo (fun w => T μ w b) n + minTo 1000 (fun w => sumTo (T μ w) b) n + minTo 1000 (fun w => sumTo (T μ w) B - sumTo (T μ w) (b + 1)) n
theorem Inv.B {μ : Mem} (h : Inv μ) : ∃ B : Nat, μ 6 1 = B ∧ μ 11 9 = B ∧ 2 ≤ B ∧ B ≤ 4 := by
  obtain ⟨h1, h2, h3, -⟩ := h.2.2.2.2.2.2.1
  obtain ⟨n, hn⟩ := natOf (a := μ 6 1) (by omega)
  exact ⟨n, hn, by omega, by omega, by omega⟩
theorem Inv.T {μ : Mem} (h : Inv μ) {n : Nat} (hn : μ 1 0 = n) {w : Nat} (hw : w < n) : ∀ b, b < 4 → 1 ≤ T μ w b ∧ T μ w b ≤ 40 := fun b hb => (h.tm hn hw hb).2
theorem sumT_bd {f : Nat → Int} (hT : ∀ b, b < 4 → 1 ≤ f b ∧ f b ≤ 40) {b : Nat} (hb : b ≤ 4) : 0 ≤ sumTo f b ∧ sumTo f b ≤ 160 := by
  have := sumTo_bd (f := f) (B := 40) (n := b) (fun j hj => by have := hT j (by omega); omega)
  omega
theorem sumTo_mono {f : Nat → Int} {a b : Nat} (hab : a ≤ b) (h : ∀ i, i < b → 0 ≤ f i) : sumTo f a ≤ sumTo f b := by
  induction b with
  | zero => have : a = 0 := by omega
            subst this; exact Int.le_refl _
  | succ b ih =>
    by_cases e : a = b + 1
    · subst e; exact Int.le_refl _
    · have h1 := ih (by omega) (fun i hi => h i (by omega))
      have h2 := h b (by omega)
      have h3 : sumTo f (b + 1) = sumTo f b + f b := rfl
      omega
theorem s_notSoonerBy {μ : Mem} {b n B : Nat} {Post : Pst} (hI : Inv μ) (hn : μ 1 0 = n) (h8 : n ≤ 8) (h0 : 0 < n) (hB : μ 6 1 = B) (hB4 : B ≤ 4) (hb : b < B) (h : Post (bnd μ B n b) μ) : wp_X4_notSoonerBy μ (b : Int) Post := by
  unfold wp_X4_notSoonerBy b_X4_notSoonerBy_e
  intro G hG
  have z1 := minTo_z (f := fun w => sumTo (T μ w) b) (z := 1000) (y := 1000000000) (B := 160) h0 (by decide) (by decide) (fun i hi => (sumT_bd (hI.T hn hi) (b := b) (by omega)).2)
  have z2 := minTo_z (f := fun w => sumTo (T μ w) B - sumTo (T μ w) (b + 1)) (z := 1000) (y := 1000000000) (B := 160) h0 (by decide) (by decide) (fun i hi => by
    have t1 := sumT_bd (hI.T hn hi) (b := B) (by omega)
    have t2 := sumT_bd (hI.T hn hi) (b := b + 1) (by omega)
    show sumTo (T μ i) B - sumTo (T μ i) (b + 1) ≤ 160
    omega)
  have y1 := minTo_bd (f := fun w => sumTo (T μ w) b) (z := 1000) (n := n) (by decide) (fun i hi => (sumT_bd (hI.T hn hi) (b := b) (by omega)).1)
  have y2 := minTo_bd (f := fun w => sumTo (T μ w) B - sumTo (T μ w) (b + 1)) (z := 1000) (n := n) (by decide) (fun i hi => by
    have t1 := sumTo_mono (f := T μ i) (a := b + 1) (b := B) (by omega) (fun j hj => by have := hI.T hn hi j (by omega); omega)
    show 0 ≤ sumTo (T μ i) B - sumTo (T μ i) (b + 1)
    omega)
  refine upTo (P := fun i => G μ b (sumTo (fun w => T μ w b) i) (minTo 1000000000 (fun w => sumTo (T μ w) b) i) (minTo 1000000000 (fun w => sumTo (T μ w) B - sumTo (T μ w) (b + 1)) i) (i : Int)) (n := n) ?_ ?_
  · refine hG _ _ _ _ _ _ ⟨fun _ => ?_, fun h' => absurd h' (by omega)⟩
    rw [← z1.1, ← z2.1]
    have s0 := sumTo_bd (f := fun w => T μ w b) (B := 40) (n := n) (fun j hj => by have := hI.T hn hj b (by omega); omega)
    simp (disch := omega) only [wrap_id]
    exact h
  · intro i hi ih
    have s0 := sumTo_bd (f := fun w => T μ w b) (B := 40) (n := i) (fun j hj => by have := hI.T hn (w := j) (by omega) b (by omega); omega)
    have t := hI.T hn hi b (by omega)
    have t' : T μ i b = μ (32 + i) b := rfl
    refine hG _ _ _ _ _ _ ⟨fun h' => absurd h' (by omega), fun _ => ⟨by omega, by omega, ?_⟩⟩
    simp (disch := omega) only [tn, wrap_id]
    rintro _ rfl
    refine s_between (lo := 0) (by omega) (by omega) (by omega) (hI.T hn hi) ?_
    rintro _ rfl
    rw [hB, show (b : Int) + 1 = ((b + 1 : Nat) : Int) by omega]
    refine s_between (lo := b + 1) (by omega) (by omega) (by omega) (hI.T hn hi) ?_
    rintro _ rfl _ rfl
    rw [cs] at ih
    rw [show sumTo (T μ i) 0 = 0 from rfl, Int.sub_zero]
    exact ih
theorem s_notSooner {μ : Mem} {n B : Nat} {Post : Pst} (hI : Inv μ) (hn : μ 1 0 = n) (h8 : n ≤ 8) (hB : μ 6 1 = B) (hB4 : B ≤ 4) (h : Post (if n = 0 then 0 else maxTo (bnd μ B n) B) μ) : wp_X4_notSooner μ Post := by
  unfold wp_X4_notSooner b_X4_notSooner_e
  intro G hG
  by_cases h0 : n = 0
  · rw [if_pos h0] at h
    refine hG _ _ _ ⟨fun _ => h, fun _ => ⟨fun _ => h, fun h' => absurd h' (by omega)⟩⟩
  · rw [if_neg h0] at h
    refine upTo (P := fun i => G μ (maxTo (bnd μ B n) i) (i : Int)) (n := B) ?_ ?_
    · exact hG _ _ _ ⟨fun _ => h, fun h' => absurd h' (by omega)⟩
    · intro i hi ih
      refine hG _ _ _ ⟨fun h' => absurd h' (by omega), fun _ => ⟨fun h' => absurd h' (by omega), fun _ => ?_⟩⟩
      refine s_notSoonerBy hI hn h8 (by omega) hB hB4 hi ?_
      simp (disch := omega) only [tn, wrap_id]
      rintro _ rfl _ rfl
      rw [cs] at ih
      exact ih
theorem sumTo_lt {f : Nat → Int} {j : Nat} (k : Nat) : sumTo (fun i => if i < j then f i else 0) k = sumTo f (if k ≤ j then k else j) := by
  induction k with
  | zero => simp [sumTo]
  | succ k ih =>
    show sumTo _ k + (if k < j then f k else 0) = _
    rw [ih]
    by_cases h : k < j
    · rw [if_pos h, if_pos (show k ≤ j by omega), if_pos (show k + 1 ≤ j by omega)]
      rfl
    · rw [if_neg h, if_neg (show ¬ k + 1 ≤ j by omega)]
      by_cases h2 : k ≤ j
      · rw [if_pos h2, show k = j by omega, Int.add_zero]
      · rw [if_neg h2, Int.add_zero]
theorem sumTo_gt {f : Nat → Int} {j : Nat} (k : Nat) : sumTo (fun i => if j < i then f i else 0) k = if k ≤ j then 0 else sumTo f k - sumTo f (j + 1) := by
  induction k with
  | zero => simp [sumTo]
  | succ k ih =>
    show sumTo _ k + (if j < k then f k else 0) = _
    rw [ih]
    by_cases h : j < k
    · rw [if_pos h, if_neg (show ¬ k ≤ j by omega), if_neg (show ¬ k + 1 ≤ j by omega)]
      show _ = sumTo f k + f k - sumTo f (j + 1)
      omega
    · rw [if_neg h, if_pos (show k ≤ j by omega)]
      by_cases h2 : k + 1 ≤ j
      · rw [if_pos h2]; rfl
      · rw [if_neg h2, show k = j by omega, Int.sub_self]; rfl
theorem m_bound {μ : Mem} {n B : Nat} {Post : Pst} (hI : Inv μ) (hn : μ 1 0 = n) (h8 : n ≤ 8) (hm : μ 11 0 = n) (hB : μ 11 9 = B) (hB4 : B ≤ 4) (h : Post (if n = 0 then 0 else maxTo (bnd μ B n) B) μ) : wp_X11_bound μ Post := by
  unfold wp_X11_bound b_X11_bound_e
  intro G4 G34 G52 h4 h34 h52
  by_cases h0 : n = 0
  · rw [if_pos h0] at h
    refine h4 _ _ _ ⟨fun _ => h, fun _ => ⟨fun _ => h, fun h' => absurd h' (by omega)⟩⟩
  · rw [if_neg h0] at h
    refine upTo (P := fun j => G4 μ (maxTo (bnd μ B n) j) (j : Int)) (n := B) ?_ ?_
    · exact h4 _ _ _ ⟨fun _ => h, fun h' => absurd h' (by omega)⟩
    · intro j hj ihj
      refine h4 _ _ _ ⟨fun h' => absurd h' (by omega), fun _ => ⟨fun h' => absurd h' (by omega), fun _ => ?_⟩⟩
      have z1 := minTo_z (f := fun w => sumTo (T μ w) j) (z := 1000) (y := 1000000000) (n := n) (B := 160) (by omega) (by decide) (by decide) (fun i hi => (sumT_bd (hI.T hn hi) (b := j) (by omega)).2)
      have y1 := minTo_bd (f := fun w => sumTo (T μ w) j) (z := 1000) (n := n) (by decide) (fun i hi => (sumT_bd (hI.T hn hi) (b := j) (by omega)).1)
      have y2 := minTo_bd (f := fun w => sumTo (T μ w) B - sumTo (T μ w) (j + 1)) (z := 1000) (n := n) (by decide) (fun i hi => by
        have t1 := sumTo_mono (f := T μ i) (a := j + 1) (b := B) (by omega) (fun k hk => by have := hI.T hn hi k (by omega); omega)
        show 0 ≤ sumTo (T μ i) B - sumTo (T μ i) (j + 1)
        omega)
      refine upTo (P := fun w => G34 μ (maxTo (bnd μ B n) j) (j : Int) (sumTo (fun w => T μ w j) w) (minTo 1000 (fun w => sumTo (T μ w) j) w) (minTo 1000 (fun w => sumTo (T μ w) B - sumTo (T μ w) (j + 1)) w) (w : Int)) (n := n) ?_ ?_
      · refine h34 _ _ _ _ _ _ _ ⟨fun _ => ?_, fun h' => absurd h' (by omega)⟩
        unfold b_X11_bound_195
        have s0 := sumTo_bd (f := fun w => T μ w j) (B := 40) (n := n) (fun w hw => by have := hI.T hn hw j (by omega); omega)
        simp (disch := omega) only [wrap_id]
        rw [cs] at ihj
        have em : maxTo (bnd μ B n) (j + 1) = imax (maxTo (bnd μ B n) j) (bnd μ B n j) := rfl
        have d := imax_d (maxTo (bnd μ B n) j) (bnd μ B n j)
        have eb : bnd μ B n j = sumTo (fun w => T μ w j) n + minTo 1000 (fun w => sumTo (T μ w) j) n + minTo 1000 (fun w => sumTo (T μ w) B - sumTo (T μ w) (j + 1)) n := rfl
        rw [← eb]
        refine ⟨fun h' => ?_, fun h' => ?_⟩
        · rintro _ rfl
          rw [em, show imax (maxTo (bnd μ B n) j) (bnd μ B n j) = maxTo (bnd μ B n) j by omega] at ihj
          exact ihj
        · rintro _ rfl
          rw [em, show imax (maxTo (bnd μ B n) j) (bnd μ B n j) = bnd μ B n j by omega] at ihj
          exact ihj
      · intro w hw ihw
        refine h34 _ _ _ _ _ _ _ ⟨fun h' => absurd h' (by omega), fun _ => ?_⟩
        have hT := hI.T hn hw
        have hT' : ∀ b, b < 4 → μ 97 (4 * w + b) = T μ w b := fun b hb => (hI.tm hn hw hb).1
        refine upTo (P := fun i => G52 μ (maxTo (bnd μ B n) j) (j : Int) (sumTo (fun w => T μ w j) w) (minTo 1000 (fun w => sumTo (T μ w) j) w) (minTo 1000 (fun w => sumTo (T μ w) B - sumTo (T μ w) (j + 1)) w) (w : Int) (sumTo (fun i => if i < j then T μ w i else 0) i) (sumTo (fun i => if j < i then T μ w i else 0) i) (i : Int)) (n := B) ?_ ?_
        · have s0 := sumTo_bd (f := fun w => T μ w j) (B := 40) (n := w) (fun w' hw' => by have := hI.T hn (w := w') (by omega) j (by omega); omega)
          have t := hT j (by omega)
          refine h52 _ _ _ _ _ _ _ _ _ _ ⟨fun _ => ?_, fun h' => absurd h' (by omega)⟩
          unfold b_X11_bound_149 b_X11_bound_165
          have e1 : (4 * (w : Int) + (j : Int)).toNat = 4 * w + j := by omega
          simp (disch := omega) only [wrap_id, e1, hT' j (by omega)]
          refine ⟨by omega, ?_⟩
          rintro _ rfl
          have ej : (if B ≤ j then B else j) = j := if_neg (by omega)
          have ek : (if B ≤ j then 0 else sumTo (T μ w) B - sumTo (T μ w) (j + 1)) = sumTo (T μ w) B - sumTo (T μ w) (j + 1) := if_neg (by omega)
          rw [sumTo_lt, sumTo_gt, ej, ek]
          rw [cs] at ihw
          have d1 := imin_d (minTo 1000 (fun w => sumTo (T μ w) j) w) (sumTo (T μ w) j)
          have d2 := imin_d (minTo 1000 (fun w => sumTo (T μ w) B - sumTo (T μ w) (j + 1)) w) (sumTo (T μ w) B - sumTo (T μ w) (j + 1))
          have m1 : minTo 1000 (fun w => sumTo (T μ w) j) (w + 1) = imin (minTo 1000 (fun w => sumTo (T μ w) j) w) (sumTo (T μ w) j) := rfl
          have m2 : minTo 1000 (fun w => sumTo (T μ w) B - sumTo (T μ w) (j + 1)) (w + 1) = imin (minTo 1000 (fun w => sumTo (T μ w) B - sumTo (T μ w) (j + 1)) w) (sumTo (T μ w) B - sumTo (T μ w) (j + 1)) := rfl
          rw [m1, m2, show sumTo (fun w => T μ w j) (w + 1) = sumTo (fun w => T μ w j) w + T μ w j from rfl] at ihw
          refine ⟨fun h1 => ⟨fun h2 => ?_, fun h2 => ?_⟩, fun h1 => ⟨fun h2 => ?_, fun h2 => ?_⟩⟩
          all_goals
            rintro _ rfl
            refine Eq.mp ?_ ihw
            congr 1 <;> omega
        · intro i hi ihi
          have t := hT i (by omega)
          have s1 := sumTo_bd (f := fun i => if i < j then T μ w i else 0) (B := 40) (n := i) (fun k hk => by
            have := hT k (by omega)
            show 0 ≤ (if k < j then T μ w k else 0) ∧ (if k < j then T μ w k else 0) ≤ 40
            split <;> omega)
          have s2 := sumTo_bd (f := fun i => if j < i then T μ w i else 0) (B := 40) (n := i) (fun k hk => by
            have := hT k (by omega)
            show 0 ≤ (if j < k then T μ w k else 0) ∧ (if j < k then T μ w k else 0) ≤ 40
            split <;> omega)
          have u1 : sumTo (fun i => if i < j then T μ w i else 0) (i + 1) = sumTo (fun i => if i < j then T μ w i else 0) i + (if i < j then T μ w i else 0) := rfl
          have u2 : sumTo (fun i => if j < i then T μ w i else 0) (i + 1) = sumTo (fun i => if j < i then T μ w i else 0) i + (if j < i then T μ w i else 0) := rfl
          rw [cs, u1, u2] at ihi
          refine h52 _ _ _ _ _ _ _ _ _ _ ⟨fun h' => absurd h' (by omega), fun _ => ?_⟩
          unfold b_X11_bound_85 b_X11_bound_112
          have e1 : (4 * (w : Int) + (i : Int)).toNat = 4 * w + i := by omega
          simp (disch := omega) only [wrap_id, e1, hT' i (by omega)]
          refine ⟨fun h1 => ?_, fun h1 => ⟨by omega, ?_⟩⟩
          · rintro _ rfl
            rw [if_neg (show ¬ i < j by omega)] at ihi
            refine ⟨fun h2 => ?_, fun h2 => ⟨by omega, ?_⟩⟩
            · rintro _ rfl _ rfl
              rw [if_neg (show ¬ j < i by omega)] at ihi
              exact ihi
            · rintro _ rfl _ rfl
              rw [if_pos (show j < i by omega)] at ihi
              exact ihi
          · rintro _ rfl
            rw [if_pos (show i < j by omega)] at ihi
            refine ⟨fun h2 => ?_, fun h2 => absurd h2 (by omega)⟩
            rintro _ rfl _ rfl
            rw [if_neg (show ¬ j < i by omega)] at ihi
            exact ihi
theorem o_bound {μ : Mem} (hI : Inv μ) : wp_X10_bound μ (fun r μ1 => wp_X11_bound μ1 (Ok r)) := by
  obtain ⟨n, hn, h8, hm⟩ := hI.n
  obtain ⟨B, hB, hB', h2, h4⟩ := hI.B
  unfold wp_X10_bound b_X10_bound_e
  exact s_notSooner hI hn h8 hB h4 (m_bound hI hn h8 hm hB' h4 (okI hI))
