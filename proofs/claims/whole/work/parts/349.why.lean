/-! Why they are late. -/
theorem argmin {Q : Nat → Prop} {f : Nat → Int} {n : Nat} (h : ∃ i, i < n ∧ Q i) : ∃ i, i < n ∧ Q i ∧ ∀ k, k < n → Q k → f i ≤ f k := by
  induction n with
  | zero => obtain ⟨i, hi, _⟩ := h; omega
  | succ n ih =>
    by_cases c : ∃ i, i < n ∧ Q i
    · obtain ⟨i, h1, h2, h3⟩ := ih c
      by_cases d : Q n ∧ f n < f i
      · refine ⟨n, by omega, d.1, fun k hk hq => ?_⟩
        by_cases e : k = n
        · rw [e]; exact Int.le_refl _
        · have := h3 k (by omega) hq
          omega
      · refine ⟨i, by omega, h2, fun k hk hq => ?_⟩
        by_cases e : k = n
        · rw [e] at hq ⊢
          have : ¬ f n < f i := fun h => d ⟨hq, h⟩
          omega
        · exact h3 k (by omega) hq
    · obtain ⟨i, hi, hq⟩ := h
      have e : i = n := Classical.byContradiction fun hne => c ⟨i, by omega, hq⟩
      refine ⟨n, by omega, e ▸ hq, fun k hk hqk => ?_⟩
      have : k = n := Classical.byContradiction fun hne => c ⟨k, by omega, hqk⟩
      rw [this]; exact Int.le_refl _
def sm (c d p : Nat → Int) (n : Nat) (a b : Int) : Int := sumTo (fun w => if a ≤ c w ∧ d w ≤ b then p w else 0) n
theorem sm_bd {c d p : Nat → Int} {n : Nat} (hp : ∀ w, w < n → 1 ≤ p w ∧ p w ≤ 40) (a b : Int) {i : Nat} (hi : i ≤ n) : 0 ≤ sm c d p i a b ∧ sm c d p i a b ≤ 40 * i := sumTo_bd (fun w hw => by
  have := hp w (by omega)
  show 0 ≤ (if a ≤ c w ∧ d w ≤ b then p w else 0) ∧ (if a ≤ c w ∧ d w ≤ b then p w else 0) ≤ 40
  split <;> omega)
theorem sm_pos {c d p : Nat → Int} {n : Nat} (hp : ∀ w, w < n → 1 ≤ p w ∧ p w ≤ 40) {a b : Int} : 0 < sm c d p n a b ↔ ∃ w, w < n ∧ (a ≤ c w ∧ d w ≤ b) := by
  induction n with
  | zero =>
    constructor
    · intro h; exact absurd h (by show ¬ (0 : Int) < 0; omega)
    · rintro ⟨w, hw, _⟩; omega
  | succ n ih =>
    have ih' := ih (fun w hw => hp w (by omega))
    have b0 := sm_bd (c := c) (d := d) (fun w hw => hp w hw) a b (i := n) (by omega)
    have q := hp n (by omega)
    have e : sm c d p (n + 1) a b = sm c d p n a b + (if a ≤ c n ∧ d n ≤ b then p n else 0) := rfl
    rw [e]
    by_cases t : a ≤ c n ∧ d n ≤ b
    · rw [if_pos t]
      exact ⟨fun _ => ⟨n, by omega, t⟩, fun _ => by omega⟩
    · rw [if_neg t, Int.add_zero, ih']
      constructor
      · rintro ⟨w, hw, h⟩; exact ⟨w, by omega, h⟩
      · rintro ⟨w, hw, h⟩
        by_cases e : w = n
        · rw [e] at h; exact absurd h t
        · exact ⟨w, by omega, h⟩
/-- the best of what was looked at -/
def Bst (c d p : Nat → Int) (n : Nat) (S : Int → Int → Prop) (g0 g A D : Int) : Prop :=
  ((∀ a b, S a b → ¬ 0 < sm c d p n a b) ∧ g = g0 ∧ A = -1 ∧ D = -1) ∨ (S A D ∧ 0 < sm c d p n A D ∧ g = A + sm c d p n A D - D ∧ ∀ a b, S a b → 0 < sm c d p n a b → a + sm c d p n a b - b < g ∨ (a + sm c d p n a b - b = g ∧ (A < a ∨ (A = a ∧ D ≤ b))))
theorem Bst.uq {c d p : Nat → Int} {n : Nat} (hp : ∀ w, w < n → 1 ≤ p w ∧ p w ≤ 40) {S1 S2 : Int → Int → Prop} (h1 : ∀ a b, S1 a b → S2 a b) (h2 : ∀ i j, i < n → j < n → S1 (c i) (d j)) {g1 g2 i1 i2 A1 A2 D1 D2 : Int} (hb1 : Bst c d p n S1 i1 g1 A1 D1) (hb2 : Bst c d p n S2 i2 g2 A2 D2) : A1 = A2 ∧ D1 = D2 := by
  have red : ∀ a b, 0 < sm c d p n a b → ∃ i j, i < n ∧ j < n ∧ a ≤ c i ∧ d j ≤ b ∧ sm c d p n (c i) (d j) = sm c d p n a b := by
    intro a b hs
    have hex := (sm_pos hp).mp hs
    obtain ⟨i, i1, i2, i3⟩ := argmin (f := c) hex
    obtain ⟨j, j1, j2, j3⟩ := argmin (f := fun w => - d w) hex
    refine ⟨i, j, i1, j1, i2.1, j2.2, ?_⟩
    unfold sm
    apply sumTo_cg
    intro w hw
    show (if c i ≤ c w ∧ d w ≤ d j then p w else 0) = (if a ≤ c w ∧ d w ≤ b then p w else 0)
    by_cases t : a ≤ c w ∧ d w ≤ b
    · have t1 := i3 w hw t
      have t2 := j3 w hw t
      rw [if_pos t, if_pos ⟨t1, by omega⟩]
    · rw [if_neg t, if_neg (fun hh => t ⟨by have := i2.1; omega, by have := j2.2; omega⟩)]
  rcases hb1 with ⟨n1, e1, a1, d1⟩ | ⟨s1, p1, v1, m1⟩
  · rcases hb2 with ⟨n2, e2, a2, d2⟩ | ⟨s2, p2, v2, m2⟩
    · omega
    · obtain ⟨i, j, hi, hj, ha, hd, hs⟩ := red A2 D2 p2
      exact absurd (by rw [hs]; exact p2) (n1 (c i) (d j) (h2 i j hi hj))
  · rcases hb2 with ⟨n2, e2, a2, d2⟩ | ⟨s2, p2, v2, m2⟩
    · exact absurd p1 (n2 A1 D1 (h1 A1 D1 s1))
    · obtain ⟨i, j, hi, hj, ha, hd, hs⟩ := red A2 D2 p2
      have t1 := m1 (c i) (d j) (h2 i j hi hj) (by rw [hs]; exact p2)
      have t2 := m2 A1 D1 (h1 A1 D1 s1) p1
      rw [hs] at t1
      omega
/-- one more is looked at -/
theorem Bst.more {c d p : Nat → Int} {n : Nat} {S S' : Int → Int → Prop} {g0 g A D a b : Int} (h : Bst c d p n S g0 g A D) (hS : ∀ x y, S' x y ↔ S x y ∨ (x = a ∧ y = b)) : (¬ 0 < sm c d p n a b → Bst c d p n S' g0 g A D) ∧ (0 < sm c d p n a b → g0 < a + sm c d p n a b - b → (g < a + sm c d p n a b - b → Bst c d p n S' g0 (a + sm c d p n a b - b) a b) ∧ (a + sm c d p n a b - b = g → (a < A ∨ (a = A ∧ b < D)) → Bst c d p n S' g0 (a + sm c d p n a b - b) a b) ∧ (a + sm c d p n a b - b < g → Bst c d p n S' g0 g A D) ∧ (a + sm c d p n a b - b = g → ¬ (a < A ∨ (a = A ∧ b < D)) → Bst c d p n S' g0 g A D)) := by
  refine ⟨fun h0 => ?_, fun hpos hg => ⟨fun h1 => ?_, fun h1 h2 => ?_, fun h1 => ?_, fun h1 h2 => ?_⟩⟩
  · rcases h with ⟨n1, e⟩ | ⟨s1, p1, v1, m1⟩
    · refine Or.inl ⟨fun x y hxy => ?_, e⟩
      rcases (hS x y).mp hxy with h | ⟨h, h'⟩
      · exact n1 x y h
      · rw [h, h']; exact h0
    · refine Or.inr ⟨(hS _ _).mpr (Or.inl s1), p1, v1, fun x y hxy hp => ?_⟩
      rcases (hS x y).mp hxy with h | ⟨h, h'⟩
      · exact m1 x y h hp
      · rw [h, h'] at hp; exact absurd hp h0
  · refine Or.inr ⟨(hS _ _).mpr (Or.inr ⟨rfl, rfl⟩), hpos, rfl, fun x y hxy hp => ?_⟩
    rcases (hS x y).mp hxy with hh | ⟨hh, hh'⟩
    · rcases h with ⟨n1, e⟩ | ⟨s1, p1, v1, m1⟩
      · exact absurd hp (n1 x y hh)
      · have := m1 x y hh hp
        omega
    · rw [hh, hh']; omega
  · refine Or.inr ⟨(hS _ _).mpr (Or.inr ⟨rfl, rfl⟩), hpos, rfl, fun x y hxy hp => ?_⟩
    rcases (hS x y).mp hxy with hh | ⟨hh, hh'⟩
    · rcases h with ⟨n1, e⟩ | ⟨s1, p1, v1, m1⟩
      · exact absurd hp (n1 x y hh)
      · have := m1 x y hh hp
        omega
    · rw [hh, hh']; omega
  · rcases h with ⟨n1, e, _⟩ | ⟨s1, p1, v1, m1⟩
    · omega
    · refine Or.inr ⟨(hS _ _).mpr (Or.inl s1), p1, v1, fun x y hxy hp => ?_⟩
      rcases (hS x y).mp hxy with hh | ⟨hh, hh'⟩
      · exact m1 x y hh hp
      · rw [hh, hh']; omega
  · rcases h with ⟨n1, e, _⟩ | ⟨s1, p1, v1, m1⟩
    · omega
    · refine Or.inr ⟨(hS _ _).mpr (Or.inl s1), p1, v1, fun x y hxy hp => ?_⟩
      rcases (hS x y).mp hxy with hh | ⟨hh, hh'⟩
      · exact m1 x y hh hp
      · rw [hh, hh']; omega
theorem s_over {μ : Mem} (h : Inv μ) {n : Nat} (hn : μ 1 0 = n) (h8 : n ≤ 8) {a b : Int} (ha : 0 ≤ a ∧ a ≤ 99) (hb : 0 ≤ b ∧ b ≤ 300) {Post : Pst} (h1 : 0 < sm (μ 25) (μ 26) (μ 24) n a b → Post (a + sm (μ 25) (μ 26) (μ 24) n a b - b) μ) (h0 : ¬ 0 < sm (μ 25) (μ 26) (μ 24) n a b → Post (-1000000000) μ) : wp_X3_over μ a b Post := by
  unfold wp_X3_over b_X3_over_e
  intro G hG
  have hp := h.p hn
  refine upTo (P := fun i => G μ a b (sm (μ 25) (μ 26) (μ 24) i a b) (i : Int)) (n := n) ?_ ?_
  · have bd := sm_bd (c := μ 25) (d := μ 26) hp a b (Nat.le_refl n)
    refine hG _ _ _ _ _ ⟨fun _ => ⟨fun c => ?_, fun c => h0 (by omega)⟩, fun h' => absurd h' (by omega)⟩
    rw [wrap_id (x := a + _) (by omega) (by omega), wrap_id (by omega) (by omega)]
    exact h1 (by omega)
  · intro i hi ih
    have bd := sm_bd (c := μ 25) (d := μ 26) hp a b (i := i) (by omega)
    have q := hp i hi
    have e : sm (μ 25) (μ 26) (μ 24) (i + 1) a b = sm (μ 25) (μ 26) (μ 24) i a b + (if a ≤ μ 25 i ∧ μ 26 i ≤ b then μ 24 i else 0) := rfl
    rw [e, cs] at ih
    refine hG _ _ _ _ _ ⟨fun h' => absurd h' (by omega), fun _ => ⟨by omega, ?_⟩⟩
    unfold b_X3_over_64
    rw [tn, wrap_id (x := (i : Int) + 1) (by omega) (by omega)]
    refine ⟨fun c => ?_, fun c => ⟨by omega, fun c2 => ?_, fun c2 => ⟨by omega, ?_⟩⟩⟩
    · rw [if_neg (by omega), Int.add_zero] at ih
      rintro _ rfl
      exact ih
    · rw [if_neg (by omega), Int.add_zero] at ih
      rintro _ rfl
      exact ih
    · rw [if_pos (by omega)] at ih
      rw [wrap_id (by omega) (by omega)]
      rintro _ rfl _ rfl
      exact ih
