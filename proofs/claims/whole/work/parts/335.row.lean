/-! Benches in a row. -/
def prv (bg : Nat → Nat → Int) (t : Nat → Int) (k j : Nat) : Int := if j = 0 then 0 else bg k (j - 1) + t (j - 1)
def fre (lv : Nat → Nat → Int) (k j : Nat) : Int := if k = 0 then 0 else lv (k - 1) j
def rom (W : Nat → Int) (bg : Nat → Nat → Int) (k j : Nat) : Int := if (k : Int) < W j then 0 else bg (k - (W j).toNat) j
def RWb (t : Nat → Int) (bg lv : Nat → Nat → Int) (k j : Nat) : Prop := bg k j = imax (prv bg t k j) (fre lv k j)
def RWl (B : Nat) (t : Nat → Int) (W : Nat → Int) (bg lv : Nat → Nat → Int) (k j : Nat) : Prop := lv k j = if j + 1 = B then bg k j + t j else imax (bg k j + t j) (rom W bg k (j + 1))
def RW (B : Nat) (tt : Nat → Nat → Int) (W : Nat → Int) (bg lv : Nat → Nat → Int) (K : Nat) : Prop := ∀ k, k < K → ∀ j, j < B → RWb (tt k) bg lv k j ∧ RWl B (tt k) W bg lv k j
/-- the other side's way of saying it -/
def rqm (W : Nat → Int) (bg lv : Nat → Nat → Int) (k j : Nat) : Int := if W j = 0 then fre lv k j else if (k : Int) < W j then 0 else bg (k - (W j).toNat) j
def RQe (B : Nat) (t : Nat → Int) (W : Nat → Int) (bg lv : Nat → Nat → Int) (k j : Nat) : Prop := bg k j = imax (if j = 0 then 0 else lv k (j - 1)) (fre lv k j) ∧ lv k j = if j + 1 = B then bg k j + t j else imax (bg k j + t j) (rqm W bg lv k (j + 1))
def RQ (B : Nat) (tt : Nat → Nat → Int) (W : Nat → Int) (bg lv : Nat → Nat → Int) (K : Nat) : Prop := ∀ k, k < K → ∀ j, j < B → RQe B (tt k) W bg lv k j
theorem RW.uq {B K : Nat} {tt tt' : Nat → Nat → Int} {W : Nat → Int} {bg lv bg' lv' : Nat → Nat → Int} (hW : ∀ j, 0 ≤ W j) (h : RW B tt W bg lv K) (h' : RW B tt' W bg' lv' K) (ht : ∀ k, k < K → ∀ j, j < B → tt k j = tt' k j) : ∀ k, k < K → ∀ j, j < B → bg k j = bg' k j ∧ lv k j = lv' k j := by
  intro k
  induction k using Nat.strongRecOn with
  | ind k ih =>
    intro hk
    have hb : ∀ j, j < B → bg k j = bg' k j := by
      intro j
      induction j with
      | zero =>
        intro hj
        have e1 := (h k hk 0 hj).1
        have e2 := (h' k hk 0 hj).1
        unfold RWb prv fre at e1 e2
        rw [e1, e2]
        by_cases k0 : k = 0
        · simp [k0]
        · simp only [k0, if_false, if_true]
          rw [(ih (k - 1) (by omega) (by omega) 0 hj).2]
      | succ j ihj =>
        intro hj
        have e1 := (h k hk (j + 1) hj).1
        have e2 := (h' k hk (j + 1) hj).1
        unfold RWb prv fre at e1 e2
        rw [e1, e2, if_neg (show ¬ j + 1 = 0 by omega), if_neg (show ¬ j + 1 = 0 by omega), Nat.add_sub_cancel, ihj (by omega), ht k hk j (by omega)]
        by_cases k0 : k = 0
        · simp [k0]
        · simp only [k0, if_false]
          rw [(ih (k - 1) (by omega) (by omega) (j + 1) hj).2]
    intro j hj
    refine ⟨hb j hj, ?_⟩
    have e1 := (h k hk j hj).2
    have e2 := (h' k hk j hj).2
    unfold RWl rom at e1 e2
    rw [e1, e2, hb j hj, ht k hk j hj]
    by_cases c : j + 1 = B
    · rw [if_pos c, if_pos c]
    · rw [if_neg c, if_neg c]
      by_cases c2 : (k : Int) < W (j + 1)
      · rw [if_pos c2, if_pos c2]
      · rw [if_neg c2, if_neg c2]
        by_cases c3 : W (j + 1) = 0
        · rw [c3, show (0 : Int).toNat = 0 from rfl, Nat.sub_zero, hb (j + 1) (by omega)]
        · have := hW (j + 1)
          rw [(ih (k - (W (j + 1)).toNat) (by omega) (by omega) (j + 1) (by omega)).1]
theorem RW.bd {B K : Nat} {tt : Nat → Nat → Int} {W : Nat → Int} {bg lv : Nat → Nat → Int} (hB : B ≤ 4) (hW : ∀ j, 0 ≤ W j) (ht : ∀ k, k < K → ∀ j, j < B → 1 ≤ tt k j ∧ tt k j ≤ 40) (h : RW B tt W bg lv K) : ∀ k, k < K → ∀ j, j < B → (0 ≤ bg k j ∧ bg k j ≤ 160 * k + 40 * j) ∧ (bg k j + tt k j ≤ lv k j ∧ lv k j ≤ 160 * k + 160) := by
  intro k
  induction k using Nat.strongRecOn with
  | ind k ih =>
    intro hk
    have hb : ∀ j, j < B → 0 ≤ bg k j ∧ bg k j ≤ 160 * k + 40 * j := by
      intro j
      induction j with
      | zero =>
        intro hj
        have e1 := (h k hk 0 hj).1
        unfold RWb prv fre at e1
        rw [if_pos rfl] at e1
        by_cases k0 : k = 0
        · rw [if_pos k0] at e1
          have d := imax_d 0 0
          omega
        · rw [if_neg k0] at e1
          have i1 := ih (k - 1) (by omega) (by omega) 0 hj
          have d := imax_d 0 (lv (k - 1) 0)
          have t1 := ht (k - 1) (by omega) 0 hj
          omega
      | succ j ihj =>
        intro hj
        have e1 := (h k hk (j + 1) hj).1
        unfold RWb prv fre at e1
        rw [if_neg (show ¬ j + 1 = 0 by omega), Nat.add_sub_cancel] at e1
        have i0 := ihj (by omega)
        have t0 := ht k hk j (by omega)
        by_cases k0 : k = 0
        · rw [if_pos k0] at e1
          have d := imax_d (bg k j + tt k j) 0
          omega
        · rw [if_neg k0] at e1
          have i1 := ih (k - 1) (by omega) (by omega) (j + 1) hj
          have d := imax_d (bg k j + tt k j) (lv (k - 1) (j + 1))
          omega
    intro j hj
    have b0 := hb j hj
    have t0 := ht k hk j hj
    refine ⟨b0, ?_⟩
    have e1 := (h k hk j hj).2
    unfold RWl rom at e1
    by_cases c : j + 1 = B
    · rw [if_pos c] at e1; omega
    · rw [if_neg c] at e1
      by_cases c2 : (k : Int) < W (j + 1)
      · rw [if_pos c2] at e1
        have d := imax_d (bg k j + tt k j) 0
        omega
      · rw [if_neg c2] at e1
        have d := imax_d (bg k j + tt k j) (bg (k - (W (j + 1)).toNat) (j + 1))
        by_cases c3 : W (j + 1) = 0
        · rw [c3, show (0 : Int).toNat = 0 from rfl, Nat.sub_zero] at e1 d
          have := hb (j + 1) (by omega)
          omega
        · have := hW (j + 1)
          have i1 := (ih (k - (W (j + 1)).toNat) (by omega) (by omega) (j + 1) (by omega)).1
          omega
theorem RQ.mono {B K : Nat} {tt : Nat → Nat → Int} {W : Nat → Int} {bg lv : Nat → Nat → Int} (ht : ∀ k, k < K → ∀ j, j < B → 1 ≤ tt k j) (h : RQ B tt W bg lv K) {j : Nat} (hj : j < B) : ∀ k, k < K → bg k j ≤ lv k j ∧ 0 ≤ lv k j ∧ ∀ i, i < k → bg i j ≤ lv (k - 1) j := by
  have h1 : ∀ k, k < K → bg k j < lv k j := by
    intro k hk
    have e := (h k hk j hj).2
    have t := ht k hk j hj
    by_cases c : j + 1 = B
    · rw [if_pos c] at e; omega
    · rw [if_neg c] at e
      have d := imax_d (bg k j + tt k j) (rqm W bg lv k (j + 1))
      omega
  intro k
  induction k with
  | zero =>
    intro hk
    have e := (h 0 hk j hj).1
    unfold fre at e
    rw [if_pos rfl] at e
    have d := imax_d (if j = 0 then 0 else lv 0 (j - 1)) 0
    have := h1 0 hk
    exact ⟨by omega, by omega, fun i hi => by omega⟩
  | succ k ih =>
    intro hk
    have i0 := ih (by omega)
    have e := (h (k + 1) hk j hj).1
    unfold fre at e
    rw [if_neg (show ¬ k + 1 = 0 by omega), Nat.add_sub_cancel] at e
    have d := imax_d (if j = 0 then 0 else lv (k + 1) (j - 1)) (lv k j)
    have := h1 (k + 1) hk
    refine ⟨by omega, by omega, fun i hi => ?_⟩
    rw [Nat.add_sub_cancel]
    by_cases c : i = k
    · subst c; exact i0.1
    · have i2 := i0.2.2 i (by omega)
      have e' := (h k (by omega) j hj).1
      unfold fre at e'
      rw [if_neg (show ¬ k = 0 by omega)] at e'
      have d' := imax_d (if j = 0 then 0 else lv k (j - 1)) (lv (k - 1) j)
      omega
theorem RQ.toRW {B K : Nat} {tt : Nat → Nat → Int} {W : Nat → Int} {bg lv : Nat → Nat → Int} (hW : ∀ j, 0 ≤ W j) (ht : ∀ k, k < K → ∀ j, j < B → 1 ≤ tt k j) (h : RQ B tt W bg lv K) : RW B tt W bg lv K := by
  have hf : ∀ k, k < K → ∀ j, j < B → 0 ≤ fre lv k j := by
    intro k hk j hj
    unfold fre
    split
    · omega
    · exact (h.mono ht hj (k - 1) (by omega)).2.1
  have hb : ∀ k, k < K → ∀ j, j < B → RWb (tt k) bg lv k j := by
    intro k hk j hj
    have e := (h k hk j hj).1
    unfold RWb prv
    rw [e]
    by_cases j0 : j = 0
    · rw [if_pos j0, if_pos j0]
    · rw [if_neg j0, if_neg j0]
      have e2 := (h k hk (j - 1) (by omega)).2
      rw [show j - 1 + 1 = j by omega, if_neg (by omega)] at e2
      have f0 := hf k hk j hj
      have hr : rqm W bg lv k j ≤ fre lv k j := by
        unfold rqm
        split
        · omega
        split
        · exact f0
        · have k0 : ¬ k = 0 := by have := hW j; omega
          unfold fre
          rw [if_neg k0]
          have := hW j
          exact (h.mono ht hj k hk).2.2 _ (by omega)
      have d1 := imax_d (bg k (j - 1) + tt k (j - 1)) (rqm W bg lv k j)
      have d2 := imax_d (lv k (j - 1)) (fre lv k j)
      have d3 := imax_d (bg k (j - 1) + tt k (j - 1)) (fre lv k j)
      omega
  intro k hk j hj
  refine ⟨hb k hk j hj, ?_⟩
  have e := (h k hk j hj).2
  unfold RWl
  by_cases c : j + 1 = B
  · rw [if_pos c] at e ⊢; exact e
  · rw [if_neg c] at e ⊢
    unfold rqm at e
    unfold rom
    by_cases c2 : W (j + 1) = 0
    · rw [if_pos c2] at e
      rw [c2, if_neg (by omega), show (0 : Int).toNat = 0 from rfl, Nat.sub_zero]
      have b1 := hb k hk (j + 1) (by omega)
      unfold RWb prv at b1
      rw [if_neg (show ¬ j + 1 = 0 by omega), Nat.add_sub_cancel] at b1
      have d1 := imax_d (bg k j + tt k j) (fre lv k (j + 1))
      have d2 := imax_d (bg k j + tt k j) (bg k (j + 1))
      omega
    · rw [if_neg c2] at e
      exact e
