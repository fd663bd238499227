/-! Loops that count up; sums and greatest ones; any and bound. -/
theorem upTo {P : Nat → Prop} {n : Nat} (hx : P n) (hs : ∀ i, i < n → P (i + 1) → P i) : P 0 := by
  have h : ∀ d i, i + d = n → P i := by
    intro d
    induction d with
    | zero => intro i hi; have e : i = n := by omega
              subst e; exact hx
    | succ d ih => intro i hi; exact hs i (by omega) (ih (i + 1) (by omega))
  exact h n 0 (by omega)
theorem upFrom {P : Nat → Prop} {m n : Nat} (hm : m ≤ n) (hx : P n) (hs : ∀ i, m ≤ i → i < n → P (i + 1) → P i) : P m := by
  have h : ∀ d i, m ≤ i → i + d = n → P i := by
    intro d
    induction d with
    | zero => intro i _ hi; have e : i = n := by omega
              subst e; exact hx
    | succ d ih => intro i h0 hi; exact hs i h0 (by omega) (ih (i + 1) (by omega) (by omega))
  exact h (n - m) m (by omega) (by omega)
theorem tn (i : Nat) : ((i : Int)).toNat = i := by omega
theorem cs (i : Nat) : ((i + 1 : Nat) : Int) = (i : Int) + 1 := by omega
def sumTo (f : Nat → Int) : Nat → Int
  | 0 => 0
  | n + 1 => sumTo f n + f n
def maxTo (f : Nat → Int) : Nat → Int
  | 0 => 0
  | n + 1 => imax (maxTo f n) (f n)
def minTo (z : Int) (f : Nat → Int) : Nat → Int
  | 0 => z
  | n + 1 => imin (minTo z f n) (f n)
theorem imax_d (a b : Int) : (a < b ∧ imax a b = b) ∨ (b ≤ a ∧ imax a b = a) := by unfold imax; split <;> omega
theorem imin_d (a b : Int) : (b < a ∧ imin a b = b) ∨ (a ≤ b ∧ imin a b = a) := by unfold imin; split <;> omega
theorem sumTo_bd {f : Nat → Int} {B : Int} {n : Nat} (h : ∀ i, i < n → 0 ≤ f i ∧ f i ≤ B) : 0 ≤ sumTo f n ∧ sumTo f n ≤ B * n := by
  induction n with
  | zero => simp [sumTo]
  | succ n ih =>
    have h1 := ih (fun i hi => h i (by omega))
    have h2 := h n (by omega)
    have e : B * ((n + 1 : Nat) : Int) = B * n + B := by rw [cs, Int.mul_add, Int.mul_one]
    unfold sumTo
    omega
theorem sumTo_cg {f g : Nat → Int} {n : Nat} (h : ∀ i, i < n → f i = g i) : sumTo f n = sumTo g n := by
  induction n with
  | zero => rfl
  | succ n ih => unfold sumTo; rw [ih (fun i hi => h i (by omega)), h n (by omega)]
theorem maxTo_cg {f g : Nat → Int} {n : Nat} (h : ∀ i, i < n → f i = g i) : maxTo f n = maxTo g n := by
  induction n with
  | zero => rfl
  | succ n ih => unfold maxTo; rw [ih (fun i hi => h i (by omega)), h n (by omega)]
theorem minTo_cg {f g : Nat → Int} {z : Int} {n : Nat} (h : ∀ i, i < n → f i = g i) : minTo z f n = minTo z g n := by
  induction n with
  | zero => rfl
  | succ n ih => unfold minTo; rw [ih (fun i hi => h i (by omega)), h n (by omega)]
theorem maxTo_bd {f : Nat → Int} {B : Int} {n : Nat} (hB : 0 ≤ B) (h : ∀ i, i < n → f i ≤ B) : 0 ≤ maxTo f n ∧ maxTo f n ≤ B := by
  induction n with
  | zero => exact ⟨Int.le_refl 0, hB⟩
  | succ n ih =>
    have h1 := ih (fun i hi => h i (by omega))
    have h2 := h n (by omega)
    have h3 := imax_d (maxTo f n) (f n)
    unfold maxTo
    omega
theorem maxTo_ge {f : Nat → Int} {n i : Nat} (hi : i < n) : f i ≤ maxTo f n := by
  induction n with
  | zero => omega
  | succ n ih =>
    have h3 := imax_d (maxTo f n) (f n)
    unfold maxTo
    by_cases e : i = n
    · subst e; omega
    · have := ih (by omega); omega
theorem minTo_bd {f : Nat → Int} {z : Int} {n : Nat} (hz : 0 ≤ z) (h : ∀ i, i < n → 0 ≤ f i) : 0 ≤ minTo z f n ∧ minTo z f n ≤ z := by
  induction n with
  | zero => exact ⟨hz, Int.le_refl z⟩
  | succ n ih =>
    have h1 := ih (fun i hi => h i (by omega))
    have h2 := h n (by omega)
    have h3 := imin_d (minTo z f n) (f n)
    unfold minTo
    omega
theorem minTo_z {f : Nat → Int} {z y B : Int} {n : Nat} (hn : 0 < n) (hz : B ≤ z) (hy : B ≤ y) (h : ∀ i, i < n → f i ≤ B) : minTo z f n = minTo y f n ∧ minTo z f n ≤ B := by
  induction n with
  | zero => omega
  | succ n ih =>
    have h2 := h n (by omega)
    unfold minTo
    by_cases e : n = 0
    · subst e
      have h3 := imin_d z (f 0)
      have h4 := imin_d y (f 0)
      unfold minTo
      omega
    · have h1 := ih (by omega) (fun i hi => h i (by omega))
      have h3 := imin_d (minTo z f n) (f n)
      rw [h1.1] at *
      omega
theorem Inv.n {μ : Mem} (h : Inv μ) : ∃ n : Nat, μ 1 0 = n ∧ n ≤ 8 ∧ μ 11 0 = n := by
  obtain ⟨h1, h2, h3⟩ := h.1
  obtain ⟨n, hn⟩ := natOf h1
  exact ⟨n, hn, by omega, by omega⟩
theorem Inv.tm {μ : Mem} (h : Inv μ) {n : Nat} (hn : μ 1 0 = n) {w b : Nat} (hw : w < n) (hb : b < 4) : μ 97 (4 * w + b) = μ (32 + w) b ∧ 1 ≤ μ (32 + w) b ∧ μ (32 + w) b ≤ 40 := by
  have := h.2.2.1 w b (by omega) hb
  exact ⟨this.1.symm, this.2⟩
theorem k_any {μ : Mem} {Post : Pst} (hI : Inv μ) {n : Nat} (hn : μ 1 0 = n) (h8 : n ≤ 8) (h : Post (imax (maxTo (fun w => μ (32 + w) 0 + μ (32 + w) 1) n) (imax (sumTo (fun w => μ (32 + w) 0) n) (sumTo (fun w => μ (32 + w) 1) n))) μ) : wp_X5_inAnyOrder μ Post := by
  unfold wp_X5_inAnyOrder b_X5_inAnyOrder_e
  intro G hG
  refine upTo (P := fun i => G μ (sumTo (fun w => μ (32 + w) 0) i) (sumTo (fun w => μ (32 + w) 1) i) (maxTo (fun w => μ (32 + w) 0 + μ (32 + w) 1) i) (i : Int)) (n := n) ?_ ?_
  · exact hG _ _ _ _ _ ⟨fun _ => h, fun h' => absurd h' (by omega)⟩
  · intro i hi ih
    have b0 := hI.tm hn hi (b := 0) (by decide)
    have b1 := hI.tm hn hi (b := 1) (by decide)
    have s0 := sumTo_bd (f := fun w => μ (32 + w) 0) (B := 40) (n := i) (fun j hj => by have := hI.tm hn (w := j) (b := 0) (by omega) (by decide); omega)
    have s1 := sumTo_bd (f := fun w => μ (32 + w) 1) (B := 40) (n := i) (fun j hj => by have := hI.tm hn (w := j) (b := 1) (by omega) (by decide); omega)
    refine hG _ _ _ _ _ ⟨fun h' => absurd h' (by omega), fun _ => ?_⟩
    simp (disch := omega) only [tn, wrap_id]
    rw [cs] at ih
    refine ⟨by omega, ?_⟩
    rintro _ rfl
    refine ⟨by omega, ?_⟩
    rintro _ rfl
    refine ⟨by omega, by omega, ?_⟩
    rintro _ rfl _ rfl
    exact ih
theorem m_any {μ : Mem} {Post : Pst} (hI : Inv μ) {n : Nat} (hn : μ 1 0 = n) (h8 : n ≤ 8) (hm : μ 11 0 = n) (h : Post (imax (maxTo (fun w => μ (32 + w) 0 + μ (32 + w) 1) n) (imax (sumTo (fun w => μ (32 + w) 0) n) (sumTo (fun w => μ (32 + w) 1) n))) μ) : wp_X11_any μ Post := by
  unfold wp_X11_any b_X11_any_e
  intro G hG
  refine upTo (P := fun i => G μ (sumTo (fun w => μ (32 + w) 0) i) (sumTo (fun w => μ (32 + w) 1) i) (maxTo (fun w => μ (32 + w) 0 + μ (32 + w) 1) i) (i : Int)) (n := n) ?_ ?_
  · refine hG _ _ _ _ _ ⟨fun _ => ?_, fun h' => absurd h' (by omega)⟩
    unfold b_X11_any_96
    have d1 := imax_d (sumTo (fun w => μ (32 + w) 0) n) (sumTo (fun w => μ (32 + w) 1) n)
    have d2 := imax_d (maxTo (fun w => μ (32 + w) 0 + μ (32 + w) 1) n) (imax (sumTo (fun w => μ (32 + w) 0) n) (sumTo (fun w => μ (32 + w) 1) n))
    refine ⟨fun h1 => ⟨fun h2 => ?_, fun h2 => ?_⟩, fun h1 => ⟨fun h2 => ?_, fun h2 => ?_⟩⟩
    all_goals
      refine Eq.mp (congrArg (fun x => Post x μ) ?_) h
      omega
  · intro i hi ih
    have b0 := hI.tm hn hi (b := 0) (by decide)
    have b1 := hI.tm hn hi (b := 1) (by decide)
    have s0 := sumTo_bd (f := fun w => μ (32 + w) 0) (B := 40) (n := i) (fun j hj => by have := hI.tm hn (w := j) (b := 0) (by omega) (by decide); omega)
    have s1 := sumTo_bd (f := fun w => μ (32 + w) 1) (B := 40) (n := i) (fun j hj => by have := hI.tm hn (w := j) (b := 1) (by omega) (by decide); omega)
    have e0 : (4 * (i : Int)).toNat = 4 * i + 0 := by omega
    have e1 : (4 * (i : Int) + 1).toNat = 4 * i + 1 := by omega
    refine hG _ _ _ _ _ ⟨fun h' => absurd h' (by omega), fun _ => ?_⟩
    unfold b_X11_any_79
    simp (disch := omega) only [tn, wrap_id, e0, e1, b0.1, b1.1]
    rw [cs] at ih
    have d := imax_d (maxTo (fun w => μ (32 + w) 0 + μ (32 + w) 1) i) (μ (32 + i) 0 + μ (32 + i) 1)
    refine ⟨by omega, ?_⟩
    rintro _ rfl
    refine ⟨by omega, ?_⟩
    rintro _ rfl
    refine ⟨by omega, by omega, ?_⟩
    rintro _ rfl
    have em : maxTo (fun w => μ (32 + w) 0 + μ (32 + w) 1) (i + 1) = imax (maxTo (fun w => μ (32 + w) 0 + μ (32 + w) 1) i) (μ (32 + i) 0 + μ (32 + i) 1) := rfl
    refine ⟨fun h' => ?_, fun h' => ?_⟩
    · rintro _ rfl
      rw [em, show imax (maxTo (fun w => μ (32 + w) 0 + μ (32 + w) 1) i) (μ (32 + i) 0 + μ (32 + i) 1) = maxTo (fun w => μ (32 + w) 0 + μ (32 + w) 1) i by omega] at ih
      exact ih
    · rintro _ rfl
      rw [em, show imax (maxTo (fun w => μ (32 + w) 0 + μ (32 + w) 1) i) (μ (32 + i) 0 + μ (32 + i) 1) = μ (32 + i) 0 + μ (32 + i) 1 by omega] at ih
      exact ih
theorem o_any {μ : Mem} (hI : Inv μ) : wp_X10_any μ (fun r μ1 => wp_X11_any μ1 (Ok r)) := by
  obtain ⟨n, hn, h8, hm⟩ := hI.n
  unfold wp_X10_any b_X10_any_e
  exact k_any hI hn h8 (m_any hI hn h8 hm (okI hI))
