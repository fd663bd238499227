/-! The layer: one memory of numbers for the whole world, and rows over it. -/
abbrev Mem : Type := Nat → Nat → Int
def wr (μ : Mem) (c i : Nat) (v : Int) : Mem := fun a => if a = c then (fun j => if j = i then v else μ c j) else μ a
abbrev AV : Type := Int ⊕ (Int ⊕ Nat)
abbrev Iv (x : Int) : AV := Sum.inl x
abbrev Lv (x : Int) : AV := Sum.inr (Sum.inl x)
abbrev Rv (c : Nat) : AV := Sum.inr (Sum.inr c)
def cv (q : Nat → Nat) : AV → Value
  | Sum.inl x => Value.int (Int32.ofInt x)
  | Sum.inr (Sum.inl x) => Value.long (Int64.ofInt x)
  | Sum.inr (Sum.inr c) => Value.ref (q c)
def inR (x : Int) : Prop := -2147483648 ≤ x ∧ x ≤ 2147483647
def inRL (x : Int) : Prop := -9223372036854775808 ≤ x ∧ x ≤ 9223372036854775807
def okA : AV → Prop
  | Sum.inl x => inR x
  | Sum.inr (Sum.inl x) => inRL x
  | Sum.inr (Sum.inr _) => True
def isL : AV → Bool
  | Sum.inr (Sum.inl _) => true
  | _ => false
def RngM (μ : Mem) : Prop := ∀ c i, inR (μ c i)
def wrap (x : Int) : Int := x.bmod 4294967296
def wrapL (x : Int) : Int := x.bmod 18446744073709551616
def iand (a b : Int) : Int := (Int32.ofInt a &&& Int32.ofInt b).toInt
def ior (a b : Int) : Int := (Int32.ofInt a ||| Int32.ofInt b).toInt
def ixor (a b : Int) : Int := (Int32.ofInt a ^^^ Int32.ofInt b).toInt
def ishl (a b : Int) : Int := (Int32.ofInt a <<< (Int32.ofInt b &&& 31)).toInt
def ishr (a b : Int) : Int := (Int32.ofInt a >>> (Int32.ofInt b &&& 31)).toInt
def iushr (a b : Int) : Int := ((Int32.ofInt a).toUInt32 >>> ((Int32.ofInt b).toUInt32 &&& Int32.toUInt32 31)).toInt32.toInt
def idv (a b : Int) : Int := (Int32.ofInt a / Int32.ofInt b).toInt
def i2b (a : Int) : Int := (Int32.ofInt a).toInt8.toInt32.toInt
def imax (a b : Int) : Int := if a < b then b else a
def imin (a b : Int) : Int := if b < a then b else a
def lcp (a b : Int) : Int := if b < a then 1 else if a = b then 0 else -1
theorem wrap_rng (x : Int) : inR (wrap x) := by
  unfold wrap inR
  have h1 := Int.le_bmod (x := x) (m := 4294967296) (by decide)
  have h2 := Int.bmod_lt (x := x) (m := 4294967296) (by decide)
  constructor <;> omega
theorem wrapL_rng (x : Int) : inRL (wrapL x) := by
  unfold wrapL inRL
  have h1 := Int.le_bmod (x := x) (m := 18446744073709551616) (by decide)
  have h2 := Int.bmod_lt (x := x) (m := 18446744073709551616) (by decide)
  constructor <;> omega
theorem ofI_toInt {x : Int} (h : inR x) : (Int32.ofInt x).toInt = x := by
  rw [Int32.toInt_ofInt]
  unfold inR at h
  exact Int.bmod_eq_of_le (by simp [Int32.size]; omega) (by simp [Int32.size]; omega)
theorem ofL_toInt {x : Int} (h : inRL x) : (Int64.ofInt x).toInt = x := by
  rw [Int64.toInt_ofInt]
  unfold inRL at h
  exact Int.bmod_eq_of_le (by simp [Int64.size]; omega) (by simp [Int64.size]; omega)
theorem ofI_wrap (x : Int) : Int32.ofInt (wrap x) = Int32.ofInt x := by
  apply Int32.toInt_inj.mp
  rw [ofI_toInt (wrap_rng x), Int32.toInt_ofInt]
  rfl
theorem ofL_wrap (x : Int) : Int64.ofInt (wrapL x) = Int64.ofInt x := by
  apply Int64.toInt_inj.mp
  rw [ofL_toInt (wrapL_rng x), Int64.toInt_ofInt]
  rfl
theorem wrap_id {x : Int} (h1 : -2147483648 ≤ x) (h2 : x ≤ 2147483647) : wrap x = x := by
  unfold wrap
  exact Int.bmod_eq_of_le (by omega) (by omega)
theorem toInt_rng (x : Int32) : inR x.toInt := ⟨Int32.le_toInt x, by have := Int32.toInt_lt x; omega⟩
theorem i32_lt {a b : Int} (ha : inR a) (hb : inR b) : Int32.ofInt a < Int32.ofInt b ↔ a < b := by
  rw [Int32.lt_iff_toInt_lt, ofI_toInt ha, ofI_toInt hb]
theorem i32_le {a b : Int} (ha : inR a) (hb : inR b) : Int32.ofInt a ≤ Int32.ofInt b ↔ a ≤ b := by
  rw [Int32.le_iff_toInt_le, ofI_toInt ha, ofI_toInt hb]
theorem i32_eq {a b : Int} (ha : inR a) (hb : inR b) : Int32.ofInt a = Int32.ofInt b ↔ a = b := by
  rw [← Int32.toInt_inj, ofI_toInt ha, ofI_toInt hb]
theorem inR0 : inR 0 := by unfold inR; omega
theorem ofI0 : Int32.ofInt 0 = 0 := rfl
theorem i32_clamp {a : Int} (h0 : 0 ≤ a) (h1 : inR a) : (Int32.ofInt a).toNatClampNeg = a.toNat := by
  unfold Int32.toNatClampNeg
  show (Int32.ofInt a).toInt.toNat = _
  rw [ofI_toInt h1]
theorem i32_in {a : Int} {n : Nat} (h0 : 0 ≤ a) (h1 : a < n) (h2 : inR a) : vp_in (Int32.ofInt a) n := by
  rw [vp_in_iff, ofI_toInt h2]
  exact ⟨h0, h1⟩
def okW : Cond → Bool
  | .methodLinkNest .. => true
  | .fieldLinkNest .. => true
  | w => goodWord w
/-- the words that a method may count on, at every state -/
def tb : List Cond := lw_tbl.filter okW
theorem tbm {w : Cond} (h : w ∈ lw_tbl) (ho : okW w = true) : w ∈ tb := List.mem_filter.mpr ⟨h, ho⟩
