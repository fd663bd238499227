/-! ahead: what is ahead by others too. -/
def swp (A : Nat → Nat) (S : Nat) : Nat → Nat
  | 0 => S
  | i + 1 => if (swp A S i).testBit i then swp A S i ||| A i else swp A S i
def rds (A : Nat → Nat) (n S : Nat) : Nat → Nat
  | 0 => S
  | r + 1 => swp A (rds A n S r) n
theorem swp_lt {A : Nat → Nat} {S N : Nat} (hS : S < 2 ^ N) {i : Nat} (hA : ∀ w, w < i → A w < 2 ^ N) : swp A S i < 2 ^ N := by
  induction i with
  | zero => exact hS
  | succ i ih =>
    unfold swp
    have := ih (fun w hw => hA w (by omega))
    split
    · exact Nat.or_lt_two_pow this (hA i (by omega))
    · exact this
theorem rds_lt {A : Nat → Nat} {S N n : Nat} (hS : S < 2 ^ N) (hA : ∀ w, w < n → A w < 2 ^ N) (r : Nat) : rds A n S r < 2 ^ N := by
  induction r with
  | zero => exact hS
  | succ r ih => unfold rds; exact swp_lt ih hA
theorem swp_ge {A : Nat → Nat} {S u : Nat} (i : Nat) (h : S.testBit u = true) : (swp A S i).testBit u = true := by
  induction i with
  | zero => exact h
  | succ i ih =>
    unfold swp
    split
    · rw [Nat.testBit_or, ih, Bool.true_or]
    · exact ih
theorem rds_ge {A : Nat → Nat} {S u n : Nat} (r : Nat) (h : S.testBit u = true) : (rds A n S r).testBit u = true := by
  induction r with
  | zero => exact h
  | succ r ih => unfold rds; exact swp_ge n ih
theorem swp_mono {A : Nat → Nat} {S u i j : Nat} (hij : i ≤ j) (h : (swp A S i).testBit u = true) : (swp A S j).testBit u = true := by
  induction j with
  | zero => have : i = 0 := by omega
            subst this; exact h
  | succ j ih =>
    by_cases e : i = j + 1
    · subst e; exact h
    · have := ih (by omega)
      unfold swp
      split
      · rw [Nat.testBit_or, this, Bool.true_or]
      · exact this
/-- closed: with a work those told ahead of it -/
def Clo (A : Nat → Nat) (n X : Nat) : Prop := ∀ w u, w < n → X.testBit w = true → (A w).testBit u = true → X.testBit u = true
theorem swp_in {A : Nat → Nat} {n S X i : Nat} (hi : i ≤ n) (hX : Clo A n X) (hS : ∀ u, S.testBit u = true → X.testBit u = true) : ∀ u, (swp A S i).testBit u = true → X.testBit u = true := by
  induction i with
  | zero => exact hS
  | succ i ih =>
    intro u hu
    unfold swp at hu
    split at hu
    · rename_i c
      rw [Nat.testBit_or, Bool.or_eq_true] at hu
      rcases hu with hu | hu
      · exact ih (by omega) u hu
      · exact hX i u (by omega) (ih (by omega) i c) hu
    · exact ih (by omega) u hu
theorem rds_in {A : Nat → Nat} {n S X : Nat} (hX : Clo A n X) (hS : ∀ u, S.testBit u = true → X.testBit u = true) (r : Nat) : ∀ u, (rds A n S r).testBit u = true → X.testBit u = true := by
  induction r with
  | zero => exact hS
  | succ r ih => unfold rds; exact swp_in (Nat.le_refl n) hX ih
theorem swp_fix {A : Nat → Nat} {n S : Nat} (h : swp A S n = S) : Clo A n S := by
  intro w u hw hs ha
  have h1 : (swp A S (w + 1)).testBit u = true := by
    unfold swp
    rw [if_pos (swp_ge w hs), Nat.testBit_or, ha, Bool.or_true]
  have := swp_mono (j := n) (by omega) h1
  rw [h] at this
  exact this
theorem clo_fix {A : Nat → Nat} {n S : Nat} (h : Clo A n S) : swp A S n = S := by
  apply Nat.eq_of_testBit_eq
  intro u
  cases hc : S.testBit u with
  | true => exact swp_ge n hc
  | false =>
    cases hd : (swp A S n).testBit u with
    | false => rfl
    | true => rw [swp_in (Nat.le_refl n) h (fun _ h => h) u hd] at hc; cases hc
/-- how many -/
def cdn (S : Nat) : Nat → Nat
  | 0 => 0
  | i + 1 => cdn S i + (if S.testBit i then 1 else 0)
theorem cdn_le (S i : Nat) : cdn S i ≤ i := by
  induction i with
  | zero => exact Nat.le_refl 0
  | succ i ih => unfold cdn; split <;> omega
theorem cdn_mono {S X : Nat} (h : ∀ u, S.testBit u = true → X.testBit u = true) (i : Nat) : cdn S i ≤ cdn X i := by
  induction i with
  | zero => exact Nat.le_refl 0
  | succ i ih =>
    unfold cdn
    cases hs : S.testBit i with
    | true => rw [h i hs]; simp; omega
    | false => rw [if_neg (by decide)]; omega
theorem cdn_lt {S X : Nat} (h : ∀ u, S.testBit u = true → X.testBit u = true) {w i : Nat} (hw : w < i) (h1 : S.testBit w = false) (h2 : X.testBit w = true) : cdn S i < cdn X i := by
  induction i with
  | zero => omega
  | succ i ih =>
    unfold cdn
    have m := cdn_mono h i
    by_cases e : w = i
    · subst e; rw [h1, h2]; simp; omega
    · have := ih (by omega)
      cases hs : S.testBit i with
      | true => rw [h i hs]; simp; omega
      | false => rw [if_neg (by decide)]; omega
theorem rds_stop {A : Nat → Nat} {n S : Nat} (hS : S < 2 ^ n) (hA : ∀ w, w < n → A w < 2 ^ n) : Clo A n (rds A n S n) := by
  have hb : ∀ r, rds A n S r < 2 ^ n := rds_lt hS hA
  -- not at rest: grown
  have grow : ∀ r, (∀ q, q ≤ r → ¬ Clo A n (rds A n S q)) → r + 1 ≤ cdn (rds A n S (r + 1)) n := by
    intro r
    induction r with
    | zero =>
      intro hq
      refine Nat.lt_of_le_of_lt (Nat.zero_le (cdn (rds A n S 0) n)) ?_
      have hne : rds A n S 1 ≠ rds A n S 0 := fun e => hq 0 (Nat.le_refl 0) (swp_fix e)
      refine Classical.byContradiction fun hx => hne ?_
      apply Nat.eq_of_testBit_eq
      intro u
      cases hc : (rds A n S 0).testBit u with
      | true => exact swp_ge n hc
      | false =>
        cases hd : (rds A n S 1).testBit u with
        | false => rfl
        | true =>
          have hu : u < n := Classical.byContradiction fun hn => by
            rw [Nat.testBit_lt_two_pow (Nat.lt_of_lt_of_le (hb 1) (Nat.pow_le_pow_right (by decide) (by omega)))] at hd
            cases hd
          exact absurd (cdn_lt (fun v hv => swp_ge n hv) hu hc hd) hx
    | succ r ih =>
      intro hq
      have i1 := ih (fun q h => hq q (by omega))
      refine Nat.lt_of_le_of_lt i1 ?_
      have hne : rds A n S (r + 1 + 1) ≠ rds A n S (r + 1) := fun e => hq (r + 1) (Nat.le_refl _) (swp_fix e)
      refine Classical.byContradiction fun hx => hne ?_
      apply Nat.eq_of_testBit_eq
      intro u
      cases hc : (rds A n S (r + 1)).testBit u with
      | true => exact swp_ge n hc
      | false =>
        cases hd : (rds A n S (r + 1 + 1)).testBit u with
        | false => rfl
        | true =>
          have hu : u < n := Classical.byContradiction fun hn => by
            rw [Nat.testBit_lt_two_pow (Nat.lt_of_lt_of_le (hb (r + 1 + 1)) (Nat.pow_le_pow_right (by decide) (by omega)))] at hd
            cases hd
          exact absurd (cdn_lt (fun v hv => swp_ge n hv) hu hc hd) hx
  have stay : ∀ r q, Clo A n (rds A n S q) → q ≤ r → Clo A n (rds A n S r) := by
    intro r q hq
    induction r with
    | zero => intro h; have : q = 0 := by omega
              subst this; exact hq
    | succ r ih =>
      intro h
      by_cases e : q = r + 1
      · subst e; exact hq
      · have := ih (by omega)
        unfold rds
        rw [clo_fix this]
        exact this
  refine Classical.byContradiction fun hx => ?_
  have := grow n (fun q hq hc => hx (stay n q hc hq))
  have := cdn_le (rds A n S (n + 1)) n
  omega
theorem rds_same {A : Nat → Nat} {n S r : Nat} (hS : S < 2 ^ n) (hA : ∀ w, w < n → A w < 2 ^ n) (hr : n ≤ r) : rds A n S r = rds A n S n := by
  have h := rds_stop hS hA
  induction r with
  | zero => have : n = 0 := by omega
            subst this; rfl
  | succ r ih =>
    by_cases e : n = r + 1
    · rw [e]
    · have := ih (by omega)
      show swp A (rds A n S r) n = _
      rw [this]
      exact clo_fix h
theorem Ad_lt {μ : Mem} (h : Inv μ) {n : Nat} (hn : μ 1 0 = n) (h8 : n ≤ 8) {w : Nat} (hw : w < 8) : Ad μ w < 2 ^ n := by
  obtain ⟨-, -, -, -, rk, a5⟩ := h.a hn h8
  exact lt_of_bits (fun u hu => (a5 u w hw hu).1)
theorem pow8 {n : Nat} (h8 : n ≤ 8) : 2 ^ n ≤ 256 := Nat.pow_le_pow_right (n := 2) (j := 8) (by decide) h8
theorem k_byOthers {μ : Mem} (h : Inv μ) {n : Nat} (hn : μ 1 0 = n) (h8 : n ≤ 8) {b a : Nat} (hb : b < n) (ha : a < n) {Post : Pst} (hp : Post (if (rds (Ad μ) n (Ad μ a) n).testBit b then 1 else 0) μ) : wp_X9_isAheadByOthersToo μ (b : Int) (a : Int) Post := by
  obtain ⟨a1, a2, a3, a4, -⟩ := h.a hn h8
  have p8 := pow8 h8
  have lt := fun r => rds_lt (Ad_lt h hn h8 (w := a) (by omega)) (fun w hw => Ad_lt h hn h8 (w := w) (by omega)) (n := n) r
  unfold wp_X9_isAheadByOthersToo b_X9_isAheadByOthersToo_e
  intro G10 G22 h10 h22
  refine ⟨by omega, ?_⟩
  rw [tn, a1 a (by omega)]
  rintro _ rfl
  refine upTo (P := fun r => G10 μ (b : Int) (rds (Ad μ) n (Ad μ a) r : Int) (r : Int)) (n := n) ?_ ?_
  · refine h10 _ _ _ _ ⟨fun _ => ?_, fun h' => absurd h' (by omega)⟩
    have := lt n
    refine s_isIn (by omega) (by omega) ⟨?_, hp⟩
    split
    · exact Or.inr rfl
    · exact Or.inl rfl
  · intro r hr ih
    refine h10 _ _ _ _ ⟨fun h' => absurd h' (by omega), fun _ => ?_⟩
    refine upTo (P := fun w => G22 μ (b : Int) (swp (Ad μ) (rds (Ad μ) n (Ad μ a) r) w : Int) (r : Int) (w : Int)) (n := n) ?_ ?_
    · refine h22 _ _ _ _ _ ⟨fun _ => ?_, fun h' => absurd h' (by omega)⟩
      rw [wrap_id (by omega) (by omega)]
      rintro _ rfl
      rw [cs] at ih
      exact ih
    · intro w hw ihw
      have := swp_lt (lt r) (i := w) (fun v hv => Ad_lt h hn h8 (w := v) (by omega))
      have := a4 w (by omega)
      refine h22 _ _ _ _ _ ⟨fun h' => absurd h' (by omega), fun _ => s_isIn (by omega) (by omega) ?_⟩
      unfold b_X9_isAheadByOthersToo_50
      rw [wrap_id (by omega) (by omega)]
      rw [cs] at ihw
      unfold swp at ihw
      cases hc : (swp (Ad μ) (rds (Ad μ) n (Ad μ a) r) w).testBit w with
      | true =>
        rw [hc] at ihw
        refine ⟨fun h' => absurd h' (by decide), fun _ => ⟨by omega, ?_⟩⟩
        rw [tn, a1 w (by omega), ior_n (by omega) (by omega)]
        rintro _ rfl _ rfl
        exact ihw
      | false =>
        rw [hc] at ihw
        refine ⟨fun _ => ?_, fun h' => absurd rfl h'⟩
        rintro _ rfl
        exact ihw
theorem m_allAhead {μ : Mem} {A : Nat → Nat} {n : Nat} (h8 : n ≤ 8) (hm : μ 11 0 = n) (a2 : ∀ w, w < n → μ 95 w = A w) (hA : ∀ w, w < n → A w < 2 ^ n) {a : Nat} (ha : a < n) {Post : Pst} (hp : Post ((rds A n (A a) n : Nat) : Int) μ) : wp_X11_allAhead μ (a : Int) Post := by
  have p8 := pow8 h8
  have lt := fun r => rds_lt (hA a ha) hA (n := n) r
  unfold wp_X11_allAhead b_X11_allAhead_e
  intro G9 G18 h9 h18
  refine ⟨by omega, ?_⟩
  rw [tn, a2 a (by omega)]
  rintro _ rfl
  refine upTo (P := fun r => G9 μ (rds A n (A a) r : Int) (r : Int)) (n := 8) ?_ ?_
  · refine h9 _ _ _ ⟨fun _ => ?_, fun h' => absurd h' (by omega)⟩
    rw [rds_same (hA a ha) hA h8]
    exact hp
  · intro r hr ih
    refine h9 _ _ _ ⟨fun h' => absurd h' (by omega), fun _ => ?_⟩
    refine upTo (P := fun w => G18 μ (swp A (rds A n (A a) r) w : Int) (r : Int) (w : Int)) (n := n) ?_ ?_
    · refine h18 _ _ _ _ ⟨fun _ => ?_, fun h' => absurd h' (by omega)⟩
      rw [wrap_id (by omega) (by omega)]
      rintro _ rfl
      rw [cs] at ih
      exact ih
    · intro w hw ihw
      have := swp_lt (lt r) (i := w) (fun v hv => hA v (by omega))
      have := hA w hw
      refine h18 _ _ _ _ ⟨fun h' => absurd h' (by omega), fun _ => ?_⟩
      unfold b_X11_allAhead_49
      rw [wrap_id (by omega) (by omega), bit1_n (by omega) (by omega)]
      rw [cs] at ihw
      unfold swp at ihw
      cases hc : (swp A (rds A n (A a) r) w).testBit w with
      | true =>
        rw [hc] at ihw
        refine ⟨fun h' => absurd rfl h', fun _ => ⟨by omega, ?_⟩⟩
        rw [tn, a2 w (by omega), ior_n (by omega) (by omega)]
        rintro _ rfl _ rfl
        exact ihw
      | false =>
        rw [hc] at ihw
        refine ⟨fun _ => ?_, fun h' => absurd h' (by decide)⟩
        rw [show (0 : Int) = ((0 : Nat) : Int) from rfl, ior_n (by omega) (by omega), Nat.or_zero]
        rintro _ rfl _ rfl
        exact ihw
