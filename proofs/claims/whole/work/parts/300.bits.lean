/-! Plain facts: numbers that are small, sets as bits. -/
theorem ofI_nat {n : Nat} (h : n < 2147483648) : Int32.ofInt (n : Int) = nI n := Int32.toInt_inj.mp ((ofI_toInt (x := (n : Int)) ⟨by omega, by omega⟩).trans (nI_toInt (n := n) (by omega)).symm)
theorem bx_and (a b : Nat) : nI a &&& nI b = nI (a &&& b) := by
  apply Int32.toBitVec_inj.1
  show BitVec.ofNat 32 a &&& BitVec.ofNat 32 b = BitVec.ofNat 32 (a &&& b)
  apply BitVec.eq_of_getLsbD_eq
  intro i hi
  simp [hi]
theorem bx_or (a b : Nat) : nI a ||| nI b = nI (a ||| b) := by
  apply Int32.toBitVec_inj.1
  show BitVec.ofNat 32 a ||| BitVec.ofNat 32 b = BitVec.ofNat 32 (a ||| b)
  apply BitVec.eq_of_getLsbD_eq
  intro i hi
  simp [hi]
theorem bx_xor (a b : Nat) : nI a ^^^ nI b = nI (a ^^^ b) := by
  apply Int32.toBitVec_inj.1
  show BitVec.ofNat 32 a ^^^ BitVec.ofNat 32 b = BitVec.ofNat 32 (a ^^^ b)
  apply BitVec.eq_of_getLsbD_eq
  intro i hi
  simp [hi]
theorem iand_n {a b : Nat} (ha : a < 2147483648) (hb : b < 2147483648) : iand (a : Int) (b : Int) = ((a &&& b : Nat) : Int) := by
  unfold iand
  rw [ofI_nat ha, ofI_nat hb, bx_and, nI_toInt (Nat.lt_of_le_of_lt Nat.and_le_left ha)]
theorem ior_lt {a b : Nat} (ha : a < 2147483648) (hb : b < 2147483648) : a ||| b < 2147483648 := Nat.or_lt_two_pow (n := 31) ha hb
theorem ior_n {a b : Nat} (ha : a < 2147483648) (hb : b < 2147483648) : ior (a : Int) (b : Int) = ((a ||| b : Nat) : Int) := by
  unfold ior
  rw [ofI_nat ha, ofI_nat hb, bx_or, nI_toInt (ior_lt ha hb)]
theorem ixor_n {a b : Nat} (ha : a < 2147483648) (hb : b < 2147483648) : ixor (a : Int) (b : Int) = ((a ^^^ b : Nat) : Int) := by
  unfold ixor
  rw [ofI_nat ha, ofI_nat hb, bx_xor, nI_toInt (Nat.xor_lt_two_pow (n := 31) ha hb)]
theorem ishl_t : ∀ i, i < 31 → ((1 : Int32) <<< (nI i &&& 31)).toInt = ((2 ^ i : Nat) : Int) := by decide +kernel
theorem ishl_n {i : Nat} (h : i < 31) : ishl 1 (i : Int) = ((2 ^ i : Nat) : Int) := by
  unfold ishl
  rw [ofI_nat (by omega)]
  exact ishl_t i h
theorem pow_lt31 {i : Nat} (h : i < 31) : 2 ^ i < 2147483648 := Nat.pow_lt_pow_right (a := 2) (n := 31) (by decide) h
/-- a without b -/
def ndf (a b : Nat) : Nat := a ^^^ (a &&& b)
theorem ndf_bit (a b i : Nat) : (ndf a b).testBit i = (a.testBit i && !b.testBit i) := by
  unfold ndf
  rw [Nat.testBit_xor, Nat.testBit_and]
  cases a.testBit i <;> cases b.testBit i <;> rfl
theorem ndf_le (a b : Nat) : ndf a b ≤ a := by
  have h : a &&& ndf a b = ndf a b := by
    apply Nat.eq_of_testBit_eq
    intro i
    rw [Nat.testBit_and, ndf_bit]
    cases a.testBit i <;> cases b.testBit i <;> rfl
  rw [← h]
  exact Nat.and_le_left
theorem iandn_n {a b : Nat} (ha : a < 2147483648) (hb : b < 2147483648) : iand (a : Int) (ixor (b : Int) (-1)) = ((ndf a b : Nat) : Int) := by
  have hx : Int32.ofInt (ixor (b : Int) (-1)) = nI b ^^^ (-1) := by
    unfold ixor
    rw [Int32.ofInt_toInt, ofI_nat hb]
    rfl
  unfold iand
  rw [hx, ofI_nat ha]
  have e : nI a &&& (nI b ^^^ (-1)) = nI (ndf a b) := by
    apply Int32.toBitVec_inj.1
    show BitVec.ofNat 32 a &&& (BitVec.ofNat 32 b ^^^ BitVec.allOnes 32) = BitVec.ofNat 32 (ndf a b)
    apply BitVec.eq_of_getLsbD_eq
    intro i hi
    rw [BitVec.getLsbD_and, BitVec.getLsbD_xor, BitVec.getLsbD_allOnes, BitVec.getLsbD_ofNat, BitVec.getLsbD_ofNat, BitVec.getLsbD_ofNat, ndf_bit]
    simp [hi]
  rw [e, nI_toInt (Nat.lt_of_le_of_lt (ndf_le a b) ha)]
theorem ishr_n {a i : Nat} (ha : a < 2147483648) (hi : i < 31) : ishr (a : Int) (i : Int) = ((a / 2 ^ i : Nat) : Int) := by
  unfold ishr
  rw [ofI_nat ha, ofI_nat (by omega)]
  have hs : ∀ n, n < 31 → ((nI n &&& 31).toBitVec.smod 32).toNat = n := by decide +kernel
  rw [pk_shrN ha _ i (hs i hi), nI_toInt (Nat.lt_of_le_of_lt (Nat.div_le_self _ _) ha)]
theorem bit_and {a i : Nat} : a &&& 2 ^ i = 0 ↔ a.testBit i = false := by
  constructor
  · intro h
    have h1 := congrArg (fun x => x.testBit i) h
    simp only [Nat.testBit_and, Nat.testBit_two_pow_self, Bool.and_true, Nat.zero_testBit] at h1
    exact h1
  · intro h
    apply Nat.eq_of_testBit_eq
    intro j
    rw [Nat.testBit_and, Nat.zero_testBit, Nat.testBit_two_pow]
    by_cases hj : i = j
    · subst hj; rw [h]; rfl
    · simp [hj]
theorem isin_n {a i : Nat} (ha : a < 2147483648) (hi : i < 31) : iand (a : Int) (ishl 1 (i : Int)) = 0 ↔ a.testBit i = false := by
  rw [ishl_n hi, iand_n ha (pow_lt31 hi), ← bit_and (a := a) (i := i)]
  omega
theorem bit1_n {a i : Nat} (ha : a < 2147483648) (hi : i < 31) : iand (ishr (a : Int) (i : Int)) 1 = if a.testBit i then 1 else 0 := by
  rw [ishr_n ha hi, show (1 : Int) = ((1 : Nat) : Int) from rfl, iand_n (Nat.lt_of_le_of_lt (Nat.div_le_self _ _) ha) (by omega)]
  rw [Nat.and_one_is_mod]
  have h : a.testBit i = decide (a / 2 ^ i % 2 = 1) := Nat.testBit_eq_decide_div_mod_eq
  rw [h]
  rcases Nat.mod_two_eq_zero_or_one (a / 2 ^ i) with h0 | h0 <;> simp [h0]
theorem s_isIn {μ : Mem} {a i : Nat} {Post : Pst} (ha : a < 2147483648) (hi : i < 31) (h : Post (if a.testBit i then 1 else 0) μ) : wp_X10_isIn μ (a : Int) (i : Int) Post := by
  unfold wp_X10_isIn b_X10_isIn_e
  rw [isin_n ha hi]
  constructor
  · intro hb
    rw [hb] at h
    exact h
  · intro hb
    have hb' : a.testBit i = true := by
      cases hc : a.testBit i with
      | false => exact absurd hc hb
      | true => rfl
    rw [hb'] at h
    exact h
theorem s_isFrom {μ : Mem} {v lo hi : Int} {Post : Pst} (h : Post (if lo ≤ v ∧ v ≤ hi then 1 else 0) μ) : wp_X10_isFrom μ v lo hi Post := by
  unfold wp_X10_isFrom b_X10_isFrom_e
  refine ⟨fun h1 => ?_, fun h1 => ⟨fun h2 => ?_, fun h2 => ?_⟩⟩
  · rw [if_neg (by omega)] at h; exact h
  · rw [if_neg (by omega)] at h; exact h
  · rw [if_pos (by omega)] at h; exact h
theorem lcp_lt {a b : Int} : lcp a b < 0 ↔ a < b := by unfold lcp; split <;> (try split) <;> omega
theorem lcp_gt {a b : Int} : 0 < lcp a b ↔ b < a := by unfold lcp; split <;> (try split) <;> omega
theorem lcp_le {a b : Int} : lcp a b ≤ 0 ↔ a ≤ b := by unfold lcp; split <;> (try split) <;> omega
theorem lcp_ge {a b : Int} : 0 ≤ lcp a b ↔ b ≤ a := by unfold lcp; split <;> (try split) <;> omega
theorem lcp_z {a b : Int} : lcp a b = 0 ↔ a = b := by unfold lcp; split <;> (try split) <;> omega
theorem s_in {μ : Mem} {v lo hi : Int} {Post : Pst} (h : Post (if lo ≤ v ∧ v ≤ hi then 1 else 0) μ) : wp_X11_in μ v lo hi Post := by
  unfold wp_X11_in b_X11_in_e
  simp only [lcp_lt, lcp_gt, lcp_le, lcp_ge]
  refine ⟨fun h1 => ?_, fun h1 => ⟨fun h2 => ?_, fun h2 => ?_⟩⟩
  · rw [if_neg (by omega)] at h; exact h
  · rw [if_neg (by omega)] at h; exact h
  · rw [if_pos (by omega)] at h; exact h
