/-! lastFirst: the pieces -/
def ldr (A : Nat → Nat) (S : Nat) : Nat → Nat
  | 0 => 0
  | i + 1 => if S.testBit i then ldr A S i ||| A i else ldr A S i
theorem ldr_bit {A : Nat → Nat} {S u : Nat} (i : Nat) : (ldr A S i).testBit u = true ↔ ∃ o, o < i ∧ S.testBit o = true ∧ (A o).testBit u = true := by
  induction i with
  | zero => simp [ldr]
  | succ i ih =>
    unfold ldr
    cases hc : S.testBit i with
    | true =>
      rw [if_pos rfl, Nat.testBit_or, Bool.or_eq_true, ih]
      constructor
      · rintro (⟨o, h1, h2, h3⟩ | h)
        · exact ⟨o, by omega, h2, h3⟩
        · exact ⟨i, by omega, hc, h⟩
      · rintro ⟨o, h1, h2, h3⟩
        by_cases e : o = i
        · subst e; exact Or.inr h3
        · exact Or.inl ⟨o, by omega, h2, h3⟩
    | false =>
      rw [if_neg (by decide), ih]
      constructor
      · rintro ⟨o, h1, h2, h3⟩
        exact ⟨o, by omega, h2, h3⟩
      · rintro ⟨o, h1, h2, h3⟩
        by_cases e : o = i
        · subst e; rw [hc] at h2; cases h2
        · exact ⟨o, by omega, h2, h3⟩
theorem ldr_lt {A : Nat → Nat} {S N i : Nat} (hA : ∀ w, w < i → A w < 2 ^ N) : ldr A S i < 2 ^ N := by
  induction i with
  | zero => exact Nat.pow_pos (by decide)
  | succ i ih =>
    unfold ldr
    have := ih (fun w hw => hA w (by omega))
    split
    · exact Nat.or_lt_two_pow this (hA i (by omega))
    · exact this
def may (A : Nat → Nat) (n S w : Nat) : Bool := S.testBit w && !(ldr A S n).testBit w
def lst (A : Nat → Nat) (d : Nat → Int → Int) (n S : Nat) (E : Int) : Nat → Int
  | 0 => -1
  | i + 1 => if may A n S i = true ∧ (lst A d n S E i = -1 ∨ d i E ≤ d (lst A d n S E i).toNat E) then (i : Int) else lst A d n S E i
theorem lst_rng {A : Nat → Nat} {d : Nat → Int → Int} {n S : Nat} {E : Int} (i : Nat) : lst A d n S E i = -1 ∨ (0 ≤ lst A d n S E i ∧ lst A d n S E i < i ∧ may A n S (lst A d n S E i).toNat = true) := by
  induction i with
  | zero => exact Or.inl rfl
  | succ i ih =>
    unfold lst
    split
    · rename_i c
      exact Or.inr ⟨by omega, by omega, by rw [tn]; exact c.1⟩
    · rcases ih with h | h
      · exact Or.inl h
      · exact Or.inr ⟨h.1, by omega, h.2.2⟩
theorem lst_some {A : Nat → Nat} {d : Nat → Int → Int} {n S : Nat} {E : Int} {i w : Nat} (hw : w < i) (hm : may A n S w = true) : lst A d n S E i ≠ -1 := by
  induction i with
  | zero => omega
  | succ i ih =>
    unfold lst
    by_cases e : w = i
    · subst e
      by_cases c : lst A d n S E w = -1
      · rw [if_pos ⟨hm, Or.inl c⟩]; omega
      · split
        · omega
        · exact c
    · have := ih (by omega)
      split
      · omega
      · exact this
def wsum (f : Nat → Int) (S : Nat) : Nat → Int
  | 0 => 0
  | i + 1 => wsum f S i + (if S.testBit i then f i else 0)
theorem wsum_cg {f : Nat → Int} {S X i : Nat} (h : ∀ u, u < i → S.testBit u = X.testBit u) : wsum f S i = wsum f X i := by
  induction i with
  | zero => rfl
  | succ i ih => unfold wsum; rw [ih (fun u hu => h u (by omega)), h i (by omega)]
theorem wsum_rm {f : Nat → Int} {S w i : Nat} (hw : w < i) (hs : S.testBit w = true) : wsum f (ndf S (2 ^ w)) i = wsum f S i - f w := by
  induction i with
  | zero => omega
  | succ i ih =>
    unfold wsum
    rw [ndf_bit, Nat.testBit_two_pow]
    by_cases e : w = i
    · subst e
      rw [hs, wsum_cg (X := S) (fun u hu => by rw [ndf_bit, Nat.testBit_two_pow]; simp; intro _; omega)]
      simp
    · rw [ih (by omega)]
      have : (S.testBit i && !decide (w = i)) = S.testBit i := by simp [e]
      rw [this]
      omega
theorem wsum_bd {f : Nat → Int} {B : Int} {S i : Nat} (hB : 0 ≤ B) (h : ∀ u, u < i → 0 ≤ f u ∧ f u ≤ B) : 0 ≤ wsum f S i ∧ wsum f S i ≤ B * i := by
  induction i with
  | zero => simp [wsum]
  | succ i ih =>
    have h1 := ih (fun u hu => h u (by omega))
    have h2 := h i (by omega)
    have e : B * ((i + 1 : Nat) : Int) = B * i + B := by rw [cs, Int.mul_add, Int.mul_one]
    unfold wsum
    split <;> omega
theorem wsum_pos {S i : Nat} (h : 0 < wsum (fun _ => 1) S i) : ∃ w, w < i ∧ S.testBit w = true := by
  induction i with
  | zero => simp [wsum] at h
  | succ i ih =>
    cases hc : S.testBit i with
    | true => exact ⟨i, by omega, hc⟩
    | false =>
      unfold wsum at h
      rw [hc, if_neg (by decide), Int.add_zero] at h
      obtain ⟨w, h1, h2⟩ := ih h
      exact ⟨w, by omega, h2⟩
theorem wsum_ge {f : Nat → Int} {S w i : Nat} (hf : ∀ u, u < i → 0 ≤ f u) (hw : w < i) (hs : S.testBit w = true) : f w ≤ wsum f S i := by
  have h1 := wsum_rm (f := f) hw hs
  have h2 : ∀ i, (∀ u, u < i → 0 ≤ f u) → 0 ≤ wsum f (ndf S (2 ^ w)) i := by
    intro i
    induction i with
    | zero => intro _; exact Int.le_refl 0
    | succ i ih =>
      intro hf
      have := ih (fun u hu => hf u (by omega))
      have := hf i (by omega)
      unfold wsum
      split <;> omega
  have := h2 i hf
  omega
theorem all_bit {n i : Nat} : (2 ^ n - 1).testBit i = decide (i < n) := Nat.testBit_two_pow_sub_one n i
theorem wsum_all {f : Nat → Int} {n i : Nat} (h : i ≤ n) : wsum f (2 ^ n - 1) i = sumTo f i := by
  induction i with
  | zero => rfl
  | succ i ih =>
    unfold wsum sumTo
    rw [ih (by omega), all_bit, if_pos (by simp; omega)]
theorem bounded (rk : Nat → Nat) (n : Nat) : ∃ M, ∀ w, w < n → rk w ≤ M := by
  induction n with
  | zero => exact ⟨0, fun w hw => by omega⟩
  | succ n ih =>
    obtain ⟨M, hM⟩ := ih
    refine ⟨M + rk n, fun w hw => ?_⟩
    by_cases e : w = n
    · subst e; omega
    · have := hM w (by omega); omega
theorem may_some {A rk : Nat → Nat} {n S : Nat} (hA : ∀ u w, w < n → (A w).testBit u = true → u < n ∧ rk u < rk w) {w0 : Nat} (h0 : w0 < n) (hs0 : S.testBit w0 = true) : ∃ w, w < n ∧ may A n S w = true := by
  refine Classical.byContradiction fun hx => ?_
  obtain ⟨M, hM⟩ := bounded rk n
  have up : ∀ N, ∃ w, w < n ∧ S.testBit w = true ∧ N ≤ rk w := by
    intro N
    induction N with
    | zero => exact ⟨w0, h0, hs0, Nat.zero_le _⟩
    | succ N ih =>
      obtain ⟨w, hw, hs, hr⟩ := ih
      have hl : (ldr A S n).testBit w = true := by
        cases hc : (ldr A S n).testBit w with
        | true => rfl
        | false => exact absurd ⟨w, hw, by unfold may; rw [hs, hc]; rfl⟩ hx
      obtain ⟨o, h1, h2, h3⟩ := (ldr_bit n).mp hl
      have := (hA w o h1 h3).2
      exact ⟨o, h1, h2, by omega⟩
  obtain ⟨w, hw, -, hr⟩ := up (M + 1)
  have := hM w hw
  omega
theorem lte_cg {μ μ' : Mem} (k : Kp μ μ') : lte μ' = lte μ := by
  funext w e
  unfold lte
  rw [k 26 (isP_r (by omega))]
theorem k_leaders {μ : Mem} (h : Inv μ) {n : Nat} (hn : μ 1 0 = n) (h8 : n ≤ 8) {S : Nat} (hS : S < 256) {Post : Pst} (hp : Post ((ldr (Ad μ) S n : Nat) : Int) μ) : wp_X0_leaders μ (S : Int) Post := by
  obtain ⟨a1, a2, a3, a4, -⟩ := h.a hn h8
  have p8 := pow8 h8
  unfold wp_X0_leaders b_X0_leaders_e
  intro G hG
  refine upTo (P := fun i => G μ (S : Int) (ldr (Ad μ) S i : Int) (i : Int)) (n := n) ?_ ?_
  · exact hG _ _ _ _ ⟨fun _ => hp, fun h' => absurd h' (by omega)⟩
  · intro i hi ih
    have := ldr_lt (A := Ad μ) (S := S) (N := n) (i := i) (fun w hw => Ad_lt h hn h8 (w := w) (by omega))
    have := a4 i (by omega)
    refine hG _ _ _ _ ⟨fun h' => absurd h' (by omega), fun _ => s_isIn (by omega) (by omega) ?_⟩
    unfold b_X0_leaders_35
    rw [wrap_id (by omega) (by omega)]
    rw [cs] at ih
    unfold ldr at ih
    cases hc : S.testBit i with
    | true =>
      rw [hc] at ih
      refine ⟨fun h' => absurd h' (by decide), fun _ => ⟨by omega, ?_⟩⟩
      rw [tn, a1 i (by omega), ior_n (by omega) (by omega)]
      rintro _ rfl _ rfl
      exact ih
    | false =>
      rw [hc] at ih
      refine ⟨fun _ => ?_, fun h' => absurd rfl h'⟩
      rintro _ rfl
      exact ih
theorem k_lastOf {μ : Mem} (h : Inv μ) {n : Nat} (hn : μ 1 0 = n) (h8 : n ≤ 8) {S : Nat} (hS : S < 256) {E : Int} (hE : 0 ≤ E ∧ E ≤ 1000) {Post : Pst} (hp : Post (lst (Ad μ) (lte μ) n S E n) μ) : wp_X0_lastOf μ (S : Int) E Post := by
  have p8 := pow8 h8
  unfold wp_X0_lastOf b_X0_lastOf_e
  intro G hG
  refine k_leaders h hn h8 hS ?_
  have ll := ldr_lt (A := Ad μ) (S := S) (N := n) (i := n) (fun w hw => Ad_lt h hn h8 (w := w) (by omega))
  refine upTo (P := fun i => G μ (S : Int) E (lst (Ad μ) (lte μ) n S E i) (ldr (Ad μ) S n : Int) (i : Int)) (n := n) ?_ ?_
  · exact hG _ _ _ _ _ _ ⟨fun _ => hp, fun h' => absurd h' (by omega)⟩
  · intro i hi ih
    have lr := lst_rng (A := Ad μ) (d := lte μ) (n := n) (S := S) (E := E) i
    obtain ⟨x, hx⟩ : ∃ x, x = lst (Ad μ) (lte μ) n S E i := ⟨_, rfl⟩
    have e1 : lst (Ad μ) (lte μ) n S E (i + 1) = if may (Ad μ) n S i = true ∧ (x = -1 ∨ lte μ i E ≤ lte μ x.toNat E) then (i : Int) else x := by rw [hx]; rfl
    rw [e1, cs] at ih
    rw [← hx] at lr ⊢
    refine hG _ _ _ _ _ _ ⟨fun h' => absurd h' (by omega), fun _ => s_isIn (by omega) (by omega) ?_⟩
    unfold b_X0_lastOf_73 b_X0_lastOf_70 b_X0_lastOf_73
    rw [wrap_id (by omega) (by omega)]
    cases hc : S.testBit i with
    | false =>
      refine ⟨fun _ => ?_, fun h' => absurd rfl h'⟩
      rw [if_neg (by unfold may; rw [hc]; simp)] at ih
      rintro _ rfl
      exact ih
    | true =>
      refine ⟨fun h' => absurd h' (by decide), fun _ => s_isIn (by omega) (by omega) ?_⟩
      cases hd : (ldr (Ad μ) S n).testBit i with
      | true =>
        refine ⟨fun _ => ?_, fun h' => absurd h' (by decide)⟩
        rw [if_neg (by unfold may; rw [hd]; simp)] at ih
        rintro _ rfl
        exact ih
      | false =>
        have hm : may (Ad μ) n S i = true := by unfold may; rw [hc, hd]; rfl
        refine ⟨fun h' => absurd rfl h', fun _ => ⟨fun h1 => ?_, fun h1 => ?_⟩⟩
        · rw [if_pos ⟨hm, Or.inl h1⟩] at ih
          rintro _ rfl
          exact ih
        · obtain ⟨y, hy⟩ := natOf (a := x) (by omega)
          rw [hy] at lr h1 ih ⊢
          rw [tn] at ih
          refine s_late h hn h8 hi hE.1 (by omega) ?_
          refine s_late h hn h8 (w := y) (by omega) hE.1 (by omega) ?_
          refine ⟨fun h2 => ?_, fun h2 => ?_⟩
          · rw [if_neg (by omega)] at ih
            rintro _ rfl
            exact ih
          · rw [if_pos ⟨hm, by omega⟩] at ih
            rintro _ rfl
            exact ih
theorem k_all {μ : Mem} {n : Nat} (hn : μ 1 0 = n) (h8 : n ≤ 8) {Post : Pst} (hp : Post ((2 ^ n - 1 : Nat) : Int) μ) : wp_X9_all μ Post := by
  unfold wp_X9_all b_X9_all_e
  have p8 := pow8 h8
  have p0 : 0 < 2 ^ n := Nat.pow_pos (by decide)
  rw [hn, ishl_n (by omega), wrap_id (by omega) (by omega)]
  rw [show ((2 ^ n - 1 : Nat) : Int) = ((2 ^ n : Nat) : Int) - 1 by omega] at hp
  exact hp
theorem k_allLong {μ : Mem} (h : Inv μ) {n : Nat} (hn : μ 1 0 = n) (h8 : n ≤ 8) {Post : Pst} (hp : Post (sumTo (μ 24) n) μ) : wp_X9_allLong μ Post := by
  unfold wp_X9_allLong b_X9_allLong_e
  intro G hG
  refine upTo (P := fun i => G μ (sumTo (μ 24) i) (i : Int)) (n := n) ?_ ?_
  · exact hG _ _ _ ⟨fun _ => hp, fun h' => absurd h' (by omega)⟩
  · intro i hi ih
    have q := h.w hn hi
    have s := sumTo_bd (f := μ 24) (B := 40) (n := i) (fun j hj => by have := h.w hn (w := j) (by omega); omega)
    refine hG _ _ _ ⟨fun h' => absurd h' (by omega), fun _ => ⟨by omega, ?_⟩⟩
    simp (disch := omega) only [tn, wrap_id]
    rintro _ rfl _ rfl
    rw [cs] at ih
    exact ih
