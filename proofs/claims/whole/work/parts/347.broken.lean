/-! Works that may be broken off. -/
def trn (c d L : Nat → Int) (m : Int) : Nat → Int
  | 0 => -1
  | i + 1 => if (0 < L i ∧ c i ≤ m) ∧ (trn c d L m i = -1 ∨ d i < d (trn c d L m i).toNat) then (i : Int) else trn c d L m i
theorem trn_rng {c d L : Nat → Int} {m : Int} (i : Nat) : trn c d L m i = -1 ∨ (0 ≤ trn c d L m i ∧ trn c d L m i < i ∧ 0 < L (trn c d L m i).toNat) := by
  induction i with
  | zero => exact Or.inl rfl
  | succ i ih =>
    unfold trn
    split
    · rename_i h
      exact Or.inr ⟨by omega, by omega, by rw [tn]; exact h.1.1⟩
    · rcases ih with h | h
      · exact Or.inl h
      · exact Or.inr ⟨h.1, by omega, h.2.2⟩
theorem trn_none {c d L : Nat → Int} {m : Int} {i : Nat} (h : ∀ w, w < i → L w ≤ 0) : trn c d L m i = -1 := by
  rcases trn_rng (c := c) (d := d) (L := L) (m := m) i with e | e
  · exact e
  · have := h (trn c d L m i).toNat (by omega)
    omega
theorem trn_cg {c d L L' : Nat → Int} {m : Int} {i : Nat} (h : ∀ w, w < i → L w = L' w) : trn c d L m i = trn c d L' m i := by
  induction i with
  | zero => rfl
  | succ i ih =>
    unfold trn
    rw [ih (fun w hw => h w (by omega)), h i (by omega)]
def bl (c d p : Nat → Int) (n : Nat) : Nat → Nat → Int
  | 0 => p
  | m + 1 => fun w => if (w : Int) = trn c d (bl c d p n m) m n then bl c d p n m w - 1 else bl c d p n m w
theorem bl_rng {c d p : Nat → Int} {n : Nat} (hp : ∀ w, w < n → 1 ≤ p w ∧ p w ≤ 40) (m : Nat) : ∀ w, w < n → 0 ≤ bl c d p n m w ∧ bl c d p n m w ≤ 40 := by
  induction m with
  | zero => intro w hw; have := hp w hw; show 0 ≤ p w ∧ p w ≤ 40; omega
  | succ m ih =>
    intro w hw
    have h1 := ih w hw
    have h2 := trn_rng (c := c) (d := d) (L := bl c d p n m) (m := m) n
    unfold bl
    by_cases e : (w : Int) = trn c d (bl c d p n m) m n
    · rw [if_pos e]
      rw [← e, tn] at h2
      omega
    · rw [if_neg e]
      exact h1
def bt (c d p : Nat → Int) (lt : Nat → Int → Int) (n : Nat) : Nat → Int
  | 0 => 0
  | m + 1 => if trn c d (bl c d p n m) m n = -1 then bt c d p lt n m else if bl c d p n (m + 1) (trn c d (bl c d p n m) m n).toNat = 0 then imax (bt c d p lt n m) (lt (trn c d (bl c d p n m) m n).toNat ((m : Int) + 1)) else bt c d p lt n m
def opn (L : Nat → Int) (n : Nat) : Int := sumTo (fun w => if 0 < L w then 1 else 0) n
theorem opn_zero {L : Nat → Int} {n : Nat} (h : opn L n ≤ 0) : ∀ w, w < n → L w ≤ 0 := by
  unfold opn at h
  induction n with
  | zero => intro w hw; omega
  | succ n ih =>
    have h0 : 0 ≤ sumTo (fun w => if 0 < L w then 1 else 0) n := by
      have := sumTo_bd (f := fun w => if 0 < L w then (1 : Int) else 0) (B := 1) (n := n) (fun i _ => by
        show 0 ≤ (if 0 < L i then (1 : Int) else 0) ∧ (if 0 < L i then (1 : Int) else 0) ≤ 1
        split <;> omega)
      exact this.1
    have e : sumTo (fun w => if 0 < L w then (1 : Int) else 0) (n + 1) = sumTo (fun w => if 0 < L w then 1 else 0) n + (if 0 < L n then 1 else 0) := rfl
    rw [e] at h
    intro w hw
    by_cases c : w = n
    · rw [c]
      by_cases c2 : 0 < L n
      · rw [if_pos c2] at h; omega
      · omega
    · refine ih ?_ w (by omega)
      split at h <;> omega
theorem sumTo_upd {f g : Nat → Int} {x n : Nat} (hx : x < n) (h : ∀ i, i < n → i ≠ x → g i = f i) : sumTo g n = sumTo f n - f x + g x := by
  induction n with
  | zero => omega
  | succ n ih =>
    unfold sumTo
    by_cases e : x = n
    · subst e
      rw [sumTo_cg (f := g) (g := f) (fun i hi => h i (by omega) (by omega))]
      omega
    · rw [ih (by omega) (fun i hi => h i (by omega)), h n (by omega) (by omega)]
      omega
theorem opn_bl {c d p : Nat → Int} {n : Nat} (hp : ∀ w, w < n → 1 ≤ p w ∧ p w ≤ 40) (m : Nat) : opn (bl c d p n (m + 1)) n = if trn c d (bl c d p n m) m n = -1 then opn (bl c d p n m) n else if bl c d p n (m + 1) (trn c d (bl c d p n m) m n).toNat = 0 then opn (bl c d p n m) n - 1 else opn (bl c d p n m) n := by
  have h2 := trn_rng (c := c) (d := d) (L := bl c d p n m) (m := m) n
  by_cases e : trn c d (bl c d p n m) m n = -1
  · rw [if_pos e]
    unfold opn
    apply sumTo_cg
    intro w hw
    have : bl c d p n (m + 1) w = bl c d p n m w := by
      show (if (w : Int) = trn c d (bl c d p n m) m n then _ else _) = _
      rw [if_neg (by omega)]
    rw [this]
  · rw [if_neg e]
    rcases h2 with h2 | h2
    · exact absurd h2 e
    · obtain ⟨x, hx⟩ := natOf h2.1
      rw [hx, tn] at h2
      rw [hx, tn]
      have ex : bl c d p n (m + 1) x = bl c d p n m x - 1 := by
        show (if (x : Int) = trn c d (bl c d p n m) m n then _ else _) = _
        rw [if_pos hx.symm]
      have eo : ∀ w, w < n → w ≠ x → bl c d p n (m + 1) w = bl c d p n m w := by
        intro w hw hne
        show (if (w : Int) = trn c d (bl c d p n m) m n then _ else _) = _
        rw [if_neg (by omega)]
      have u := sumTo_upd (f := fun w => if 0 < bl c d p n m w then (1 : Int) else 0) (g := fun w => if 0 < bl c d p n (m + 1) w then (1 : Int) else 0) (x := x) (n := n) (by omega) (fun i hi hne => by
        show (if 0 < bl c d p n (m + 1) i then (1 : Int) else 0) = (if 0 < bl c d p n m i then (1 : Int) else 0)
        rw [eo i hi hne])
      have u' : opn (bl c d p n (m + 1)) n = opn (bl c d p n m) n - (if 0 < bl c d p n m x then (1 : Int) else 0) + (if 0 < bl c d p n (m + 1) x then (1 : Int) else 0) := u
      rw [u', ex]
      rw [if_pos (by omega)]
      by_cases c1 : bl c d p n m x - 1 = 0
      · rw [if_pos c1, if_neg (by omega)]; omega
      · rw [if_neg c1, if_pos (by omega)]; omega
theorem bt_stay {c d p : Nat → Int} {lt : Nat → Int → Int} {n m : Nat} (h : opn (bl c d p n m) n ≤ 0) : ∀ j, (∀ w, w < n → bl c d p n (m + j) w ≤ 0) ∧ bt c d p lt n (m + j) = bt c d p lt n m := by
  intro j
  induction j with
  | zero => exact ⟨opn_zero h, rfl⟩
  | succ j ih =>
    have t := trn_none (c := c) (d := d) (m := ((m + j : Nat) : Int)) ih.1
    refine ⟨fun w hw => ?_, ?_⟩
    · show (if (w : Int) = trn c d (bl c d p n (m + j)) ((m + j : Nat) : Int) n then _ else _) ≤ 0
      rw [t, if_neg (by omega)]
      exact ih.1 w hw
    · show (if trn c d (bl c d p n (m + j)) ((m + j : Nat) : Int) n = -1 then bt c d p lt n (m + j) else _) = _
      rw [if_pos t]
      exact ih.2
theorem bt_nn {c d p : Nat → Int} {lt : Nat → Int → Int} {n : Nat} (m : Nat) : 0 ≤ bt c d p lt n m := by
  induction m with
  | zero => exact Int.le_refl 0
  | succ m ih =>
    unfold bt
    split
    · exact ih
    split
    · have := imax_d (bt c d p lt n m) (lt (trn c d (bl c d p n m) m n).toNat ((m : Int) + 1))
      omega
    · exact ih
