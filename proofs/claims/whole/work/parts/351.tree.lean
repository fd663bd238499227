/-! Trees: what is free, the highest, the level. -/
def ntA (x0 x1 : Int) : Int := wrap (x1 + (iushr x0 1))
def ntB (x0 x1 : Int) : Int := if x0 ≤ 4 then ntA x0 x1 else ntA (iushr x0 2) (wrap (x1 + 2))
def ntC (x0 x1 : Int) : Int := if x0 ≤ 16 then ntB x0 x1 else ntB (iushr x0 4) (wrap (x1 + 4))
def ntD (x0 x1 : Int) : Int := if x0 ≤ 256 then ntC x0 x1 else ntC (iushr x0 8) (wrap (x1 + 8))
def ntE (x : Int) : Int := if 0 < x then (if x ≤ 65536 then ntD x 1 else ntD (iushr x 16) (wrap (1 + 16))) else iand x 32
def ntz (p : Int) : Int := ntE (iand (ixor p (-1)) (wrap (p - 1)))
theorem s_ntz {μ : Mem} {p : Int} {Post : Pst} (h : Post (ntz p) μ) : wp_J6_numberOfTrailingZeros_0f7a4 μ p Post := by
  unfold wp_J6_numberOfTrailingZeros_0f7a4 b_J6_numberOfTrailingZeros_0f7a4_e
  have hA : ∀ x0 x1, Post (ntA x0 x1) μ → b_J6_numberOfTrailingZeros_0f7a4_74 Post μ x0 x1 := fun _ _ h => h
  have hB : ∀ x0 x1, Post (ntB x0 x1) μ → b_J6_numberOfTrailingZeros_0f7a4_62 Post μ x0 x1 := by
    intro x0 x1 h
    unfold ntB at h
    refine ⟨fun c => ?_, fun c => ?_⟩
    · rw [if_pos c] at h; exact hA _ _ h
    · rw [if_neg c] at h
      rintro _ rfl _ rfl
      exact hA _ _ h
  have hC : ∀ x0 x1, Post (ntC x0 x1) μ → b_J6_numberOfTrailingZeros_0f7a4_49 Post μ x0 x1 := by
    intro x0 x1 h
    unfold ntC at h
    refine ⟨fun c => ?_, fun c => ?_⟩
    · rw [if_pos c] at h; exact hB _ _ h
    · rw [if_neg c] at h
      rintro _ rfl _ rfl
      exact hB _ _ h
  have hD : ∀ x0 x1, Post (ntD x0 x1) μ → b_J6_numberOfTrailingZeros_0f7a4_34 Post μ x0 x1 := by
    intro x0 x1 h
    unfold ntD at h
    refine ⟨fun c => ?_, fun c => ?_⟩
    · rw [if_pos c] at h; exact hC _ _ h
    · rw [if_neg c] at h
      rintro _ rfl _ rfl
      exact hC _ _ h
  intro x hx
  have h' : Post (ntE x) μ := by rw [hx]; exact h
  unfold ntE at h'
  refine ⟨fun c => ⟨fun c2 => ?_, fun c2 => ?_⟩, fun c => ?_⟩
  · rw [if_pos c, if_pos c2] at h'; exact hD _ _ h'
  · rw [if_pos c, if_neg c2] at h'
    rintro _ rfl _ rfl
    exact hD _ _ h'
  · rw [if_neg c] at h'; exact h'
/-- the lowest -/
def lwb (F : Nat) : Nat → Nat
  | 0 => 0
  | i + 1 => if F.testBit (11 - i) then 11 - i else lwb F i
theorem ntz_u : ∀ a : Nat, a < 64 → ∀ b : Nat, b < 64 → (64 * a + b) = 0 ∨ (ntz ((64 * a + b : Nat) : Int) = (lwb (64 * a + b) 12 : Int) ∧ lwb (64 * a + b) 12 < 12 ∧ (64 * a + b).testBit (lwb (64 * a + b) 12) = true ∧ (64 * a + b) % 2 ^ (lwb (64 * a + b) 12) = 0) := by decide +kernel
theorem ntz_t (n : Nat) (h : n < 4096) : n = 0 ∨ (ntz (n : Int) = (lwb n 12 : Int) ∧ lwb n 12 < 12 ∧ n.testBit (lwb n 12) = true ∧ n % 2 ^ (lwb n 12) = 0) := by
  have e : 64 * (n / 64) + n % 64 = n := by omega
  have u := ntz_u (n / 64) (by omega) (n % 64) (by omega)
  rw [e] at u
  exact u
def bF1 (p : Int) : Int := wrap (p - (iand (iushr p 1) 1431655765))
def bF2 (x : Int) : Int := wrap ((iand x 858993459) + (iand (iushr x 2) 858993459))
def bF3 (x : Int) : Int := iand (wrap (x + (iushr x 4))) 252645135
def bF4 (x : Int) : Int := wrap (x + (iushr x 8))
def bF5 (x : Int) : Int := wrap (x + (iushr x 16))
theorem bct_u : ∀ a : Nat, a < 64 → ∀ b : Nat, b < 64 → iand (bF5 (bF4 (bF3 (bF2 (bF1 ((64 * a + b : Nat) : Int)))))) 63 = (cdn (64 * a + b) 12 : Int) := by decide +kernel
theorem bct_t (n : Nat) (h : n < 4096) : iand (bF5 (bF4 (bF3 (bF2 (bF1 (n : Int)))))) 63 = (cdn n 12 : Int) := by
  have e : 64 * (n / 64) + n % 64 = n := by omega
  have u := bct_u (n / 64) (by omega) (n % 64) (by omega)
  rw [e] at u
  exact u
theorem s_bct {μ : Mem} {n : Nat} (hn : n < 4096) {Post : Pst} (h : Post (cdn n 12 : Int) μ) : wp_J6_bitCount_0f7a4 μ (n : Int) Post := by
  rw [← bct_t n hn] at h
  unfold wp_J6_bitCount_0f7a4 b_J6_bitCount_0f7a4_e
  intro x1 h1 x2 h2 x3 h3 x4 h4 x5 h5
  subst h1
  subst h2
  subst h3
  subst h4
  subst h5
  exact h
