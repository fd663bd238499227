/-! Orders as numbers: what is ahead as a row is less. The next order. -/
def cd (o : Nat → Nat) : Nat → Nat
  | 0 => 0
  | k + 1 => 8 * cd o k + o k
theorem cd_cg {o p : Nat → Nat} {k : Nat} (h : ∀ i, i < k → o i = p i) : cd o k = cd p k := by
  induction k with
  | zero => rfl
  | succ k ih => unfold cd; rw [ih (fun i hi => h i (by omega)), h k (by omega)]
theorem cd_inj {o p : Nat → Nat} {k : Nat} (ho : ∀ i, i < k → o i < 8) (hp : ∀ i, i < k → p i < 8) (h : cd o k = cd p k) : ∀ i, i < k → o i = p i := by
  induction k with
  | zero => intro i hi; omega
  | succ k ih =>
    unfold cd at h
    have a := ho k (by omega)
    have b := hp k (by omega)
    intro i hi
    by_cases c : i = k
    · rw [c]; omega
    · exact ih (fun i hi => ho i (by omega)) (fun i hi => hp i (by omega)) (by omega) i (by omega)
theorem cd_lt {o p : Nat → Nat} {k m : Nat} (hk : k ≤ m) (ho : ∀ i, i < m → o i < 8) (h : cd o k < cd p k) : cd o m < cd p m := by
  induction m with
  | zero =>
    have : k = 0 := by omega
    rw [this] at h
    exact h
  | succ m ih =>
    by_cases c : k = m + 1
    · rw [c] at h; exact h
    · have i1 := ih (by omega) (fun i hi => ho i (by omega))
      have a := ho m (by omega)
      unfold cd
      omega
theorem cd_first {o p : Nat → Nat} {m : Nat} (ho : ∀ i, i < m → o i < 8) (hp : ∀ i, i < m → p i < 8) (h : cd o m < cd p m) : ∃ d, d < m ∧ (∀ i, i < d → o i = p i) ∧ o d < p d := by
  induction m with
  | zero => unfold cd at h; omega
  | succ m ih =>
    have a := ho m (by omega)
    have b := hp m (by omega)
    unfold cd at h
    by_cases c : cd o m < cd p m
    · obtain ⟨d, h1, h2, h3⟩ := ih (fun i hi => ho i (by omega)) (fun i hi => hp i (by omega)) c
      exact ⟨d, by omega, h2, h3⟩
    · exact ⟨m, by omega, cd_inj (fun i hi => ho i (by omega)) (fun i hi => hp i (by omega)) (by omega), by omega⟩
theorem cd_at {o p : Nat → Nat} {d m : Nat} (ho : ∀ i, i < m → o i < 8) (hd : d < m) (he : ∀ i, i < d → o i = p i) (h : o d < p d) : cd o m < cd p m := by
  refine cd_lt (k := d + 1) (by omega) ho ?_
  unfold cd
  rw [cd_cg he]
  omega
theorem cd_bd {o : Nat → Nat} {m : Nat} (ho : ∀ i, i < m → o i < 8) : cd o m < 8 ^ m := by
  induction m with
  | zero => unfold cd; decide
  | succ m ih =>
    have i1 := ih (fun i hi => ho i (by omega))
    have a := ho m (by omega)
    unfold cd
    rw [Nat.pow_succ]
    omega
/-- a number of the first k places, against one of all n -/
theorem cd_cut {o : Nat → Nat} {k n X : Nat} (hk : k ≤ n) (ho : ∀ i, i < n → o i < 8) : cd o n < X * 8 ^ (n - k) ↔ cd o k < X := by
  induction n with
  | zero =>
    have : k = 0 := by omega
    subst this
    simp
  | succ n ih =>
    by_cases c : k = n + 1
    · subst c
      rw [Nat.sub_self, Nat.pow_zero, Nat.mul_one]
    · have a := ho n (by omega)
      have i1 := ih (by omega) (fun i hi => ho i (by omega))
      rw [show n + 1 - k = (n - k) + 1 by omega, Nat.pow_succ, ← i1]
      have e : X * (8 ^ (n - k) * 8) = 8 * (X * 8 ^ (n - k)) := by rw [← Nat.mul_assoc, Nat.mul_comm]
      rw [e]
      show 8 * cd o n + o n < _ ↔ _
      omega
theorem dec_le {o : Nat → Nat} {n a d i : Nat} (h : ∀ i, a ≤ i → i + 1 < n → o (i + 1) < o i) (ha : a ≤ d) (hd : d ≤ i) (hi : i < n) : o i ≤ o d := by
  induction i with
  | zero =>
    have : d = 0 := by omega
    rw [this]
    exact Nat.le_refl _
  | succ i ih =>
    by_cases c : d = i + 1
    · rw [c]; exact Nat.le_refl _
    · have := ih (by omega) (by omega)
      have := h i (by omega) hi
      omega
theorem inc_le {o : Nat → Nat} {n a d i : Nat} (h : ∀ i, a ≤ i → i + 1 < n → o i < o (i + 1)) (ha : a ≤ d) (hd : d ≤ i) (hi : i < n) : o d ≤ o i := by
  induction i with
  | zero =>
    have : d = 0 := by omega
    rw [this]
    exact Nat.le_refl _
  | succ i ih =>
    by_cases c : d = i + 1
    · rw [c]; exact Nat.le_refl _
    · have := ih (by omega) (by omega)
      have := h i (by omega) hi
      omega
theorem Pm.d8 {o : Nat → Nat} {n : Nat} (h : Pm o n) (h8 : n ≤ 8) : ∀ i, i < n → o i < 8 := fun i hi => by
  have := h.1 i hi
  omega
/-- what stands at d in p stands in o at d or behind it -/
theorem Pm.frm {o p : Nat → Nat} {n d : Nat} (ho : Pm o n) (hp : Pm p n) (hd : d < n) (he : ∀ i, i < d → o i = p i) : ∃ i, d ≤ i ∧ i < n ∧ o i = p d := by
  obtain ⟨i, hi, e⟩ := ho.onto (hp.1 d hd)
  by_cases c : i < d
  · rw [he i c] at e
    have := hp.2 i d hi hd e
    omega
  · exact ⟨i, by omega, hi, e⟩
theorem max_dec {o p : Nat → Nat} {n a : Nat} (h8 : n ≤ 8) (ho : Pm o n) (hp : Pm p n) (hdec : ∀ i, a ≤ i → i + 1 < n → o (i + 1) < o i) (he : ∀ i, i < a → o i = p i) : cd p n ≤ cd o n := by
  refine Nat.le_of_not_lt (fun hlt => ?_)
  obtain ⟨d, hd, hdd, hlt'⟩ := cd_first (ho.d8 h8) (hp.d8 h8) hlt
  obtain ⟨i, h1, h2, e⟩ := ho.frm hp hd hdd
  by_cases c : d < a
  · have := he d c
    omega
  · have := dec_le hdec (show a ≤ d by omega) h1 h2
    omega
theorem min_inc {o p : Nat → Nat} {n a : Nat} (h8 : n ≤ 8) (ho : Pm o n) (hp : Pm p n) (hinc : ∀ i, a ≤ i → i + 1 < n → o i < o (i + 1)) (he : ∀ i, i < a → o i = p i) : cd o n ≤ cd p n := by
  refine Nat.le_of_not_lt (fun hlt => ?_)
  obtain ⟨d, hd, hdd, hlt'⟩ := cd_first (hp.d8 h8) (ho.d8 h8) hlt
  obtain ⟨i, h1, h2, e⟩ := ho.frm hp hd (fun i hi => (hdd i hi).symm)
  by_cases c : d < a
  · have := he d c
    omega
  · have := inc_le hinc (show a ≤ d by omega) h1 h2
    omega
theorem nxt {o o' : Nat → Nat} {n k j : Nat} (h8 : n ≤ 8) (ho : Pm o n) (ho' : Pm o' n) (hk : k < j) (hj : j < n) (hdec : ∀ i, k + 1 ≤ i → i + 1 < n → o (i + 1) < o i) (hlt : o k < o j) (hbe : ∀ i, j < i → i < n → o i < o k) (h1 : ∀ i, i < k → o' i = o i) (h2 : o' k = o j) (hinc : ∀ i, k + 1 ≤ i → i + 1 < n → o' i < o' (i + 1)) : cd o n < cd o' n ∧ ∀ p, Pm p n → cd p n < cd o' n → cd p n ≤ cd o n := by
  refine ⟨cd_at (ho.d8 h8) (show k < n by omega) (fun i hi => (h1 i hi).symm) (by omega), fun p hp hpo => ?_⟩
  refine Nat.le_of_not_lt (fun hlt2 => ?_)
  obtain ⟨d, hd, hdd, hlt'⟩ := cd_first (ho.d8 h8) (hp.d8 h8) hlt2
  by_cases c : d < k
  · have := cd_at (o := o') (p := p) (ho'.d8 h8) hd (fun i hi => by rw [h1 i (by omega)]; exact hdd i hi) (by rw [h1 d c]; exact hlt')
    omega
  · by_cases c2 : d = k
    · subst c2
      obtain ⟨i, h3, h4, e⟩ := ho.frm hp hd hdd
      have hij : i ≤ j := by
        refine Nat.le_of_not_lt (fun hh => ?_)
        have := hbe i hh h4
        omega
      have hid : d ≠ i := fun hh => by rw [← hh] at e; omega
      have := dec_le hdec (show d + 1 ≤ i by omega) hij hj
      by_cases c3 : o' d < p d
      · have := cd_at (o := o') (p := p) (ho'.d8 h8) hd (fun i hi => by rw [h1 i hi]; exact hdd i hi) c3
        omega
      · have := min_inc (a := d + 1) h8 ho' hp hinc (fun i hi => by
          by_cases c4 : i = d
          · rw [c4]; omega
          · rw [h1 i (by omega)]; exact hdd i (by omega))
        omega
    · have := max_dec (a := k + 1) h8 ho hp hdec (fun i hi => hdd i (by omega))
      omega
theorem m_nextOrder {μ : Mem} {n : Nat} {o : Nat → Nat} (hm : μ 11 0 = n) (h8 : n ≤ 8) (hP : Pm o n) (hq : ∀ i, i < n → μ 103 i = o i) {Post : Pst} (h0 : (∀ p, Pm p n → cd p n ≤ cd o n) → Post 0 μ) (h1 : ∀ (μ' : Mem) (o' : Nat → Nat), (∀ c, c ≠ 103 → μ' c = μ c) → Pm o' n → (∀ i, i < n → μ' 103 i = o' i) → cd o n < cd o' n → (∀ p, Pm p n → cd p n < cd o' n → cd p n ≤ cd o n) → Post 1 μ') : wp_X11_nextOrder μ Post := by
  unfold wp_X11_nextOrder
  intro G7 G47 G86 g7 g47 g86
  unfold b_X11_nextOrder_e
  rw [hm]
  -- the turning round
  have rev : ∀ (k j : Nat), k < j → j < n → (∀ i, k + 1 ≤ i → i + 1 < n → o (i + 1) < o i) → o k < o j → (∀ i, j < i → i < n → o i < o k) → ∀ (m lo hi : Nat) (μ' : Mem) (q : Nat → Nat), hi ≤ lo + m → (k < lo ∧ k ≤ hi) → lo + hi = n + k → (∀ c, c ≠ 103 → μ' c = μ c) → Pm q n → (∀ i, i < n → μ' 103 i = q i) → (∀ i, i < n → (k < i ∧ i < lo) ∨ hi < i → q i = sw o k j (n + k - i)) → (∀ i, i < n → ¬ ((k < i ∧ i < lo) ∨ hi < i) → q i = sw o k j i) → G86 μ' (lo : Int) (hi : Int) := by
    intro k j hk hj hdec hlt hbe
    have fin : ∀ (lo hi : Nat) (μ' : Mem) (q : Nat → Nat), hi ≤ lo → (k < lo ∧ k ≤ hi) → lo + hi = n + k → (∀ c, c ≠ 103 → μ' c = μ c) → Pm q n → (∀ i, i < n → μ' 103 i = q i) → (∀ i, i < n → (k < i ∧ i < lo) ∨ hi < i → q i = sw o k j (n + k - i)) → (∀ i, i < n → ¬ ((k < i ∧ i < lo) ∨ hi < i) → q i = sw o k j i) → Post 1 μ' := by
      intro lo hi μ' q hlh hkl hs fr pq mq hA hB
      have all : ∀ i, k < i → i < n → q i = sw o k j (n + k - i) := by
        intro i hi1 hi2
        by_cases c : i < lo ∨ hi < i
        · exact hA i hi2 (by omega)
        · rw [hB i hi2 (by omega), show n + k - i = i by omega]
      have sdec : ∀ i, k + 1 ≤ i → i + 1 < n → sw o k j (i + 1) < sw o k j i := by
        intro i h1 h2
        have d0 := hdec i h1 h2
        rcases sw_v o k j i with ⟨a, e⟩ | ⟨a, b, e⟩ | ⟨a, b, e⟩
        · omega
        · rcases sw_v o k j (i + 1) with ⟨a', e'⟩ | ⟨a', b', e'⟩ | ⟨a', b', e'⟩
          · omega
          · omega
          · rw [e, e']
            exact hbe (i + 1) (by omega) h2
        · rcases sw_v o k j (i + 1) with ⟨a', e'⟩ | ⟨a', b', e'⟩ | ⟨a', b', e'⟩
          · omega
          · rw [e, e']
            rw [b'] at d0
            omega
          · rw [e, e']; exact d0
      have lo1 : ∀ i, i < k → q i = o i := by
        intro i hi1
        rw [hB i (by omega) (by omega)]
        rcases sw_v o k j i with ⟨a, e⟩ | ⟨a, b, e⟩ | ⟨a, b, e⟩
        · omega
        · omega
        · exact e
      have at1 : q k = o j := by
        rw [hB k (by omega) (by omega)]
        rcases sw_v o k j k with ⟨a, e⟩ | ⟨a, b, e⟩ | ⟨a, b, e⟩
        · exact e
        · omega
        · omega
      have N := nxt h8 hP pq hk hj hdec hlt hbe lo1 at1 (fun i h1 h2 => by
        rw [all i (by omega) (by omega), all (i + 1) (by omega) h2]
        have := sdec (n + k - (i + 1)) (by omega) (by omega)
        rw [show n + k - (i + 1) + 1 = n + k - i by omega] at this
        exact this)
      exact h1 μ' q fr pq mq N.1 N.2
    intro m
    induction m with
    | zero =>
      intro lo hi μ' q hlh hkl hs fr pq mq hA hB
      refine g86 _ _ _ ⟨fun _ => fin lo hi μ' q (by omega) hkl hs fr pq mq hA hB, fun h' => absurd h' (by omega)⟩
    | succ m ih =>
      intro lo hi μ' q hlh hkl hs fr pq mq hA hB
      refine g86 _ _ _ ⟨fun h' => fin lo hi μ' q (by omega) hkl hs fr pq mq hA hB, fun h' => ?_⟩
      refine m_swap h8 (show lo < n by omega) (show hi < n by omega) mq ?_
      intro μ2 fr2 mq2
      rw [wrap_id (by omega) (by omega), wrap_id (by omega) (by omega)]
      intro x hx y hy
      rw [hx, hy, ← cs, show (hi : Int) + -1 = ((hi - 1 : Nat) : Int) by omega]
      refine ih (lo + 1) (hi - 1) μ2 (sw q lo hi) (by omega) (by omega) (by omega) (fun c hc => by rw [fr2 c hc]; exact fr c hc) (pq.exch (by omega) (by omega)) mq2 (fun i hi1 hc => ?_) (fun i hi1 hc => ?_)
      · rcases sw_v q lo hi i with ⟨a, e⟩ | ⟨a, b, e⟩ | ⟨a, b, e⟩
        · rw [e, hB hi (by omega) (by omega), show n + k - i = hi by omega]
        · rw [e, hB lo (by omega) (by omega), show n + k - i = lo by omega]
        · rw [e]; exact hA i hi1 (by omega)
      · rcases sw_v q lo hi i with ⟨a, e⟩ | ⟨a, b, e⟩ | ⟨a, b, e⟩
        · omega
        · omega
        · rw [e]; exact hB i hi1 (by omega)
  -- which one comes in
  have low : ∀ (k : Nat), k + 1 < n → (∀ i, k + 1 ≤ i → i + 1 < n → o (i + 1) < o i) → o k < o (k + 1) → ∀ j : Nat, k < j → j < n → (∀ i, j < i → i < n → o i < o k) → G47 μ (k : Int) (j : Int) := by
    intro k hk hdec hup j
    induction j with
    | zero => intro hj; omega
    | succ j ih =>
      intro hj hjn hbe
      refine g47 _ _ _ ⟨by omega, by omega, ?_⟩
      rw [tn, tn, hq k (by omega), hq (j + 1) hjn]
      refine ⟨fun hle => ?_, fun hgt => ?_⟩
      · have hne : o k ≠ o (j + 1) := fun e => by
          have := hP.2 k (j + 1) (by omega) hjn e
          omega
        refine m_swap h8 (show k < n by omega) hjn hq ?_
        intro μ2 fr2 mq2
        rw [fr2 11 (by decide), hm, wrap_id (by omega) (by omega), wrap_id (by omega) (by omega)]
        intro x hx y hy
        rw [hx, hy, ← cs, show (n : Int) - 1 = ((n - 1 : Nat) : Int) by omega]
        refine rev k (j + 1) hj hjn hdec (by omega) hbe n (k + 1) (n - 1) μ2 (sw o k (j + 1)) (by omega) (by omega) (by omega) fr2 (hP.exch (by omega) hjn) mq2 (fun i h1 h2 => by omega) (fun i h1 h2 => rfl)
      · have hne : k ≠ j := fun e => by rw [e] at hup hgt; omega
        rw [wrap_id (by omega) (by omega)]
        intro x hx
        rw [hx, show ((j + 1 : Nat) : Int) + -1 = (j : Int) by omega]
        refine ih (by omega) (by omega) (fun i h1 h2 => ?_)
        by_cases c : i = j + 1
        · rw [c]; omega
        · exact hbe i (by omega) h2
  -- where it goes up
  have top : ∀ a : Nat, a + 1 ≤ n → (∀ i, a ≤ i → i + 1 < n → o (i + 1) < o i) → G7 μ ((a : Int) - 1) := by
    intro a
    induction a with
    | zero =>
      intro ha hdec
      refine g7 _ _ ⟨fun _ => ⟨fun h' => absurd h' (by omega), fun _ => h0 (fun p hp => max_dec (a := 0) h8 hP hp hdec (fun i hi => by omega))⟩, fun h' => absurd h' (by omega)⟩
    | succ a ih =>
      intro ha hdec
      rw [show ((a + 1 : Nat) : Int) - 1 = (a : Int) by omega]
      refine g7 _ _ ⟨fun h' => absurd h' (by omega), fun _ => ?_⟩
      rw [wrap_id (x := (a : Int) + 1) (by omega) (by omega), ← cs, tn, tn, hq a (by omega), hq (a + 1) (by omega)]
      refine ⟨by omega, by omega, fun hle => ⟨fun _ => ?_, fun h' => absurd h' (by omega)⟩, fun hgt => ?_⟩
      · have hne : o a ≠ o (a + 1) := fun e => by
          have := hP.2 a (a + 1) (by omega) (by omega) e
          omega
        rw [hm, wrap_id (by omega) (by omega)]
        intro x hx
        rw [hx, show (n : Int) - 1 = ((n - 1 : Nat) : Int) by omega]
        exact low a (by omega) hdec (by omega) (n - 1) (by omega) (by omega) (fun i h1 h2 => by omega)
      · rw [wrap_id (by omega) (by omega)]
        intro x hx
        rw [hx, show (a : Int) + -1 = (a : Int) - 1 by omega]
        refine ih (by omega) (fun i h1 h2 => ?_)
        by_cases c : i = a
        · rw [c]; omega
        · exact hdec i (by omega) h2
  rw [wrap_id (by omega) (by omega)]
  intro x hx
  by_cases c : n = 0
  · subst c
    refine g7 _ _ ⟨fun _ => ⟨fun h' => absurd h' (by omega), fun _ => h0 (fun p hp => Nat.le_refl _)⟩, fun h' => absurd h' (by omega)⟩
  · have := top (n - 1) (by omega) (fun i h1 h2 => by omega)
    rw [hx, show (n : Int) - 2 = ((n - 1 : Nat) : Int) - 1 by omega]
    exact this
