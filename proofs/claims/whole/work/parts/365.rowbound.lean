/-! Benches in a row: what no order can be sooner than. -/
def VR (μ : Mem) (B n : Nat) (p : Nat → Nat) (u : Int) : Prop := ∃ bg lv, RW B (fun k => T μ (p k)) (WK μ) bg lv n ∧ u = rEnd lv B n
def beh (μ : Mem) (B b w : Nat) : Int := sumTo (T μ w) B - sumTo (T μ w) (b + 1)
theorem VR_fn {μ : Mem} (h : Inv μ) {B n : Nat} (hB : 2 ≤ B) : ∀ p q u u', Pm p n → Pm q n → (∀ i, i < n → p i = q i) → VR μ B n p u → VR μ B n q u' → u = u' := by
  rintro p q u u' _ _ e ⟨bg, lv, r, hu⟩ ⟨bg', lv', r', hu'⟩
  have U := RW.uq (fun j => (h.W.1 j).1) r r' (fun k hk j hj => by
    show T μ (p k) j = T μ (q k) j
    rw [e k hk])
  rw [hu, hu']
  unfold rEnd
  split
  · rfl
  · exact (U (n - 1) (by omega) (B - 1) (by omega)).2
theorem VR_bd {μ : Mem} (h : Inv μ) {B n : Nat} (hn : μ 1 0 = n) (h8 : n ≤ 8) (hB : 2 ≤ B) (hB4 : B ≤ 4) : ∀ p u, Pm p n → VR μ B n p u → 0 ≤ u ∧ u < 1000000000 := by
  rintro p u hp ⟨bg, lv, r, hu⟩
  have hT : ∀ k, k < n → ∀ j, j < B → 1 ≤ T μ (p k) j ∧ T μ (p k) j ≤ 40 := fun k hk j hj => h.T hn (hp.1 k hk) j (by omega)
  have bd := r.bd hB4 (fun j => (h.W.1 j).1) hT
  rw [hu]
  unfold rEnd
  split
  · decide
  · have b1 := bd (n - 1) (by omega) (B - 1) (by omega)
    have t1 := hT (n - 1) (by omega) (B - 1) (by omega)
    omega
theorem RW.chain {B n : Nat} {tt : Nat → Nat → Int} {W : Nat → Int} {bg lv : Nat → Nat → Int} (hB : B ≤ 4) (hW : ∀ j, 0 ≤ W j) (ht : ∀ k, k < n → ∀ j, j < B → 1 ≤ tt k j ∧ tt k j ≤ 40) (h : RW B tt W bg lv n) {a j : Nat} (hj : j < B) : ∀ i, a < i → i < n → lv a j + (sumTo (fun x => tt x j) i - sumTo (fun x => tt x j) (a + 1)) ≤ bg i j := by
  intro i
  induction i with
  | zero => intro h0; omega
  | succ i ih =>
    intro hai hin
    have e := (h (i + 1) hin j hj).1
    unfold RWb fre at e
    rw [if_neg (by omega), Nat.add_sub_cancel] at e
    have d := imax_d (prv bg (tt (i + 1)) (i + 1) j) (lv i j)
    by_cases c : a = i
    · subst c; omega
    · have i1 := ih (by omega) (by omega)
      have b := (h.bd hB hW ht i (by omega) j hj).2.1
      have s : sumTo (fun x => tt x j) (i + 1) = sumTo (fun x => tt x j) i + tt i j := rfl
      omega
theorem RW.through {B n : Nat} {tt : Nat → Nat → Int} {W : Nat → Int} {bg lv : Nat → Nat → Int} (h : RW B tt W bg lv n) {i j : Nat} (hi : i < n) : ∀ b, j ≤ b → b < B → bg i j + (sumTo (tt i) b - sumTo (tt i) j) ≤ bg i b := by
  intro b
  induction b with
  | zero =>
    intro h0 _
    have : j = 0 := by omega
    subst this
    omega
  | succ b ih =>
    intro hjb hb
    by_cases c : j = b + 1
    · subst c; omega
    · have i1 := ih (by omega) (by omega)
      have e := (h i hi (b + 1) hb).1
      unfold RWb prv at e
      rw [if_neg (by omega), Nat.add_sub_cancel] at e
      have d := imax_d (bg i b + tt i b) (fre lv i (b + 1))
      have s : sumTo (tt i) (b + 1) = sumTo (tt i) b + tt i b := rfl
      omega
theorem RW.last {B n : Nat} {tt : Nat → Nat → Int} {W : Nat → Int} {bg lv : Nat → Nat → Int} (h : RW B tt W bg lv n) {j : Nat} (hn : 0 < n) (hj : j < B) : bg (n - 1) j + tt (n - 1) j + (sumTo (tt (n - 1)) B - sumTo (tt (n - 1)) (j + 1)) ≤ rEnd lv B n := by
  have e := (h (n - 1) (by omega) (B - 1) (by omega)).2
  unfold RWl at e
  rw [if_pos (by omega)] at e
  have t := h.through (i := n - 1) (j := j) (by omega) (B - 1) (by omega) (by omega)
  have s1 : sumTo (tt (n - 1)) (j + 1) = sumTo (tt (n - 1)) j + tt (n - 1) j := rfl
  have s2 : sumTo (tt (n - 1)) (B - 1 + 1) = sumTo (tt (n - 1)) (B - 1) + tt (n - 1) (B - 1) := rfl
  rw [show B - 1 + 1 = B by omega] at s2
  unfold rEnd
  rw [if_neg (by omega)]
  omega
/-- sums and leasts over those that are left -/
def csm (f : Nat → Int) (S : Nat) : Nat → Int
  | 0 => 0
  | i + 1 => csm f S i + (if S.testBit i then 0 else f i)
def cmn (g : Nat → Int) (S : Nat) : Nat → Int
  | 0 => 1000000000
  | i + 1 => if S.testBit i then cmn g S i else imin (cmn g S i) (g i)
theorem csm_eq {f : Nat → Int} {S : Nat} (i : Nat) : csm f S i = sumTo f i - wsum f S i := by
  induction i with
  | zero => rfl
  | succ i ih =>
    unfold csm sumTo wsum
    rw [ih]
    split <;> omega
theorem csm_bd {f : Nat → Int} {S i : Nat} (h : ∀ w, w < i → 0 ≤ f w ∧ f w ≤ 40) : 0 ≤ csm f S i ∧ csm f S i ≤ 40 * i := by
  induction i with
  | zero => unfold csm; omega
  | succ i ih =>
    have i1 := ih (fun w hw => h w (by omega))
    have b := h i (by omega)
    unfold csm
    split <;> omega
theorem cmn_bd {g : Nat → Int} {S i : Nat} (h : ∀ w, w < i → 0 ≤ g w) : 0 ≤ cmn g S i ∧ cmn g S i ≤ 1000000000 := by
  induction i with
  | zero => unfold cmn; decide
  | succ i ih =>
    have i1 := ih (fun w hw => h w (by omega))
    have b := h i (by omega)
    have d := imin_d (cmn g S i) (g i)
    unfold cmn
    split <;> omega
theorem cmn_le {g : Nat → Int} {S i w : Nat} (hw : w < i) (hs : S.testBit w = false) : cmn g S i ≤ g w := by
  induction i with
  | zero => omega
  | succ i ih =>
    have d := imin_d (cmn g S i) (g i)
    unfold cmn
    by_cases c : w = i
    · subst c
      rw [hs, if_neg (by decide)]
      omega
    · have := ih (by omega)
      split <;> omega
theorem minTo_le {f : Nat → Int} {z : Int} {n i : Nat} (hi : i < n) : minTo z f n ≤ f i := by
  induction n with
  | zero => omega
  | succ n ih =>
    unfold minTo
    have d := imin_d (minTo z f n) (f n)
    by_cases c : i = n
    · subst c; omega
    · have := ih (by omega)
      omega
theorem sum_bs {f : Nat → Int} {p : Nat → Nat} {n k : Nat} (hP : Pm p n) (hk : k ≤ n) : sumTo (fun x => f (p x)) k = wsum f (bs p k) n := by
  induction k with
  | zero => unfold bs; rw [wsum_zero]; rfl
  | succ k ih =>
    show sumTo (fun x => f (p x)) k + f (p k) = wsum f (bs p k ||| 2 ^ p k) n
    rw [wsum_add (hP.1 k (by omega)) (bs_new hP (by omega)), ih (by omega)]
theorem sum_all {f : Nat → Int} {p : Nat → Nat} {n : Nat} (hP : Pm p n) : sumTo (fun x => f (p x)) n = sumTo f n := by
  rw [sum_bs hP (Nat.le_refl n), wsum_cg (X := 2 ^ n - 1) (fun u hu => ?_), wsum_all (Nat.le_refl n)]
  rw [all_bit, decide_eq_true hu]
  obtain ⟨i, hi, e⟩ := hP.onto hu
  exact bs_bit.mpr ⟨i, hi, e⟩
theorem el_le {μ : Mem} (h : Inv μ) {B n : Nat} (hn : μ 1 0 = n) (hB4 : B ≤ 4) {p : Nat → Nat} (hP : Pm p n) {bg lv : Nat → Nat → Int} (r : RW B (fun k => T μ (p k)) (WK μ) bg lv n) {k b : Nat} (hk : k + 1 < n) (hb : b < B) : lv k b + csm (fun w => T μ w b) (bs p (k + 1)) n + cmn (beh μ B b) (bs p (k + 1)) n ≤ rEnd lv B n := by
  have hT : ∀ k, k < n → ∀ j, j < B → 1 ≤ T μ (p k) j ∧ T μ (p k) j ≤ 40 := fun k hk j hj => h.T hn (hP.1 k hk) j (by omega)
  have c1 := r.chain hB4 (fun j => (h.W.1 j).1) hT (a := k) (j := b) hb (n - 1) (by omega) (by omega)
  have c2 := r.last (j := b) (by omega) hb
  have c3 : cmn (beh μ B b) (bs p (k + 1)) n ≤ beh μ B b (p (n - 1)) := by
    refine cmn_le (hP.1 _ (by omega)) ?_
    cases hc : (bs p (k + 1)).testBit (p (n - 1)) with
    | false => rfl
    | true =>
      obtain ⟨j, hj, e⟩ := bs_bit.mp hc
      have := hP.2 j (n - 1) (by omega) (by omega) e
      omega
  have c4 := csm_eq (f := fun w => T μ w b) (S := bs p (k + 1)) n
  have c5 := sum_bs (f := fun w => T μ w b) hP (show k + 1 ≤ n by omega)
  have c6 := sum_all (f := fun w => T μ w b) hP
  have c7 : sumTo (fun x => T μ (p x) b) (n - 1 + 1) = sumTo (fun x => T μ (p x) b) (n - 1) + T μ (p (n - 1)) b := rfl
  rw [show n - 1 + 1 = n by omega] at c7
  have e3 : beh μ B b (p (n - 1)) = sumTo (T μ (p (n - 1))) B - sumTo (T μ (p (n - 1))) (b + 1) := rfl
  have e1 : (fun k => T μ (p k)) (n - 1) = T μ (p (n - 1)) := rfl
  try simp only [] at c1
  try simp only [] at c2
  try simp only [] at c5
  try simp only [] at c6
  omega
theorem el_end {μ : Mem} (h : Inv μ) {B n : Nat} (hn : μ 1 0 = n) (hB : 2 ≤ B) (hB4 : B ≤ 4) {p : Nat → Nat} (hP : Pm p n) {bg lv : Nat → Nat → Int} (r : RW B (fun k => T μ (p k)) (WK μ) bg lv n) {k : Nat} (hk : k < n) : lv k (B - 1) ≤ rEnd lv B n := by
  have hT : ∀ k, k < n → ∀ j, j < B → 1 ≤ T μ (p k) j ∧ T μ (p k) j ≤ 40 := fun k hk j hj => h.T hn (hP.1 k hk) j (by omega)
  unfold rEnd
  rw [if_neg (by omega)]
  by_cases c : k = n - 1
  · rw [c]; exact Int.le_refl _
  · have c1 := r.chain hB4 (fun j => (h.W.1 j).1) hT (a := k) (j := B - 1) (by omega) (n - 1) (by omega) (by omega)
    have b1 := r.bd hB4 (fun j => (h.W.1 j).1) hT (n - 1) (by omega) (B - 1) (by omega)
    have m1 := sumTo_mono (f := fun x => T μ (p x) (B - 1)) (a := k + 1) (b := n - 1) (by omega) (fun i hi => by have := hT i (by omega) (B - 1) (by omega); omega)
    have t1 := hT (n - 1) (by omega) (B - 1) (by omega)
    try simp only [] at c1
    try simp only [] at b1
    omega
theorem ns_le {μ : Mem} (h : Inv μ) {B n : Nat} (hn : μ 1 0 = n) (h8 : n ≤ 8) (hB : 2 ≤ B) (hB4 : B ≤ 4) : ∀ p u, Pm p n → VR μ B n p u → (if n = 0 then 0 else maxTo (bnd μ B n) B) ≤ u := by
  intro p u hP hv
  have ub := VR_bd h hn h8 hB hB4 p u hP hv
  obtain ⟨bg, lv, r, hu⟩ := hv
  split
  · exact ub.1
  · refine (maxTo_bd ub.1 (fun b hb => ?_)).2
    have hT : ∀ k, k < n → ∀ j, j < B → 1 ≤ T μ (p k) j ∧ T μ (p k) j ≤ 40 := fun k hk j hj => h.T hn (hP.1 k hk) j (by omega)
    have bd := r.bd hB4 (fun j => (h.W.1 j).1) hT
    have c2 := r.last (j := b) (by omega) hb
    have c0 := r.through (i := 0) (j := 0) (by omega) b (by omega) hb
    have b0 := bd 0 (by omega) 0 (by omega)
    have bb := bd 0 (by omega) b hb
    have m1 := minTo_le (f := fun w => sumTo (T μ w) b) (z := 1000) (hP.1 0 (by omega))
    have m2 := minTo_le (f := fun w => sumTo (T μ w) B - sumTo (T μ w) (b + 1)) (z := 1000) (hP.1 (n - 1) (by omega))
    have c6 := sum_all (f := fun w => T μ w b) hP
    have c7 : sumTo (fun x => T μ (p x) b) (n - 1 + 1) = sumTo (fun x => T μ (p x) b) (n - 1) + T μ (p (n - 1)) b := rfl
    rw [show n - 1 + 1 = n by omega] at c7
    have c8 : sumTo (fun x => T μ (p x) b) (0 + 1) = 0 + T μ (p 0) b := rfl
    have c9 : sumTo (T μ (p 0)) 0 = 0 := rfl
    unfold bnd
    try simp only [] at c0
    try simp only [] at c2
    try simp only [] at b0
    try simp only [] at bb
    try simp only [] at m1
    try simp only [] at m2
    try simp only [] at c6
    by_cases c : n = 1
    · subst c
      have c10 : sumTo (fun x => T μ (p x) b) (1 - 1) = 0 := rfl
      simp only [Nat.sub_self] at c2 c7 m2 c10
      omega
    · have c1 := r.chain hB4 (fun j => (h.W.1 j).1) hT (a := 0) (j := b) hb (n - 1) (by omega) (by omega)
      try simp only [] at c1
      omega
