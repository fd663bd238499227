/-! Counts (the kit's family, pasted), and next. -/
theorem fb_holes : ∀ (m n : Nat) (f : Nat → Nat), (∀ i, i < n → f i < m) → (∀ i j, i < j → j < n → f i ≠ f j) → n ≤ m := by
  intro m
  induction m with
  | zero =>
    intro n f h1 _
    rcases Nat.eq_zero_or_pos n with h | h
    · omega
    · exact absurd (h1 0 h) (Nat.not_lt_zero _)
  | succ m ih =>
    intro n f h1 h2
    by_cases hx : ∃ i, i < n ∧ f i = m
    · obtain ⟨a, ha, hfa⟩ := hx
      have hg := ih (n - 1) (fun i => if i < a then f i else f (i + 1)) (by
        intro i hi
        by_cases q : i < a
        · simp only [if_pos q]
          have b1 := h1 i (by omega)
          have b2 := h2 i a q ha
          omega
        · simp only [if_neg q]
          have b1 := h1 (i + 1) (by omega)
          have b2 := h2 a (i + 1) (by omega) (by omega)
          omega) (by
        intro i j hij hj
        by_cases q : i < a
        · by_cases r : j < a
          · simp only [if_pos q, if_pos r]
            exact h2 i j hij (by omega)
          · simp only [if_pos q, if_neg r]
            exact h2 i (j + 1) (by omega) (by omega)
        · have r : ¬ j < a := by omega
          simp only [if_neg q, if_neg r]
          exact h2 (i + 1) (j + 1) (by omega) (by omega))
      omega
    · have hg := ih n f (fun i hi => by
        have b1 := h1 i hi
        have b2 : f i ≠ m := fun e => hx ⟨i, hi, e⟩
        omega) h2
      omega
/-- two of them in one place -/
theorem fb_twice {m n : Nat} {f : Nat → Nat} (h : ∀ i, i < n → f i < m) (hm : m < n) : ∃ i j, i < j ∧ j < n ∧ f i = f j := by
  refine Classical.byContradiction fun hx => ?_
  have := fb_holes m n f h (fun i j hij hj e => hx ⟨i, j, hij, hj, e⟩)
  omega
/-- as many as places, none twice: each place is taken -/
theorem fb_onto {n : Nat} {f : Nat → Nat} (h : ∀ i, i < n → f i < n) (h2 : ∀ i j, i < j → j < n → f i ≠ f j) {y : Nat} (hy : y < n) : ∃ i, i < n ∧ f i = y := by
  refine Classical.byContradiction fun hx => ?_
  have hne : ∀ i, i < n → f i ≠ y := fun i hi e => hx ⟨i, hi, e⟩
  have := fb_holes (n - 1) n (fun i => if f i < y then f i else f i - 1) (by
    intro i hi
    have b1 := h i hi
    have b2 := hne i hi
    by_cases q : f i < y
    · simp only [if_pos q]; omega
    · simp only [if_neg q]; omega) (by
    intro i j hij hj
    have b1 := hne i (by omega)
    have b2 := hne j hj
    have b3 := h2 i j hij hj
    by_cases q : f i < y
    · by_cases r : f j < y
      · simp only [if_pos q, if_pos r]; exact b3
      · simp only [if_pos q, if_neg r]; omega
    · by_cases r : f j < y
      · simp only [if_neg q, if_pos r]; omega
      · simp only [if_neg q, if_neg r]; omega)
  omega

theorem k_next_ok {μ : Mem} {k M : Nat} {a : Nat} {Post : Pst} (hN : IN μ) (ha : (a : Int) < μ 1 0) (hk : μ 2 0 = k) (hk8 : k < 8) (hM : μ 2 1 = M) (hM2 : M < 256) (hb : M.testBit a = false) (hp : Post ((k + 1 : Nat) : Int) (wr (wr (wr μ 75 k a) 2 1 ((M ||| 2 ^ a : Nat) : Int)) 2 0 ((k + 1 : Nat) : Int))) : wp_X10_next μ (a : Int) Post := by
  have h8 := hN.2.1
  have ha8 : a < 8 := by omega
  unfold wp_X10_next b_X10_next_e
  rw [has_iff hN]
  refine ⟨fun _ => ⟨fun h => absurd h (by decide), fun _ => ?_⟩, fun h => absurd (show 0 ≤ (a : Int) ∧ (a : Int) < μ 1 0 by omega) h⟩
  unfold wp_X6_holds b_X6_holds_e
  rw [hM]
  refine s_isIn (by omega) (by omega) ?_
  rw [hb]
  refine ⟨Or.inl rfl, fun _ => ?_, fun h => absurd rfl h⟩
  unfold wp_X6_add b_X6_add_e
  have ek : ((k : Int)).toNat = k := by omega
  rw [hk, ek]
  refine ⟨by omega, ?_⟩
  rintro _ rfl
  rw [wr_o (by decide), hM, ishl_n (by omega), ior_n (by omega) (pow_lt31 (by omega))]
  rintro _ rfl
  rw [wr_i (by decide), wr_o (by decide), hk, wrap_id (by omega) (by omega)]
  rintro _ rfl
  rw [wr_s]
  have e : ((k : Int)) + 1 = ((k + 1 : Nat) : Int) := by omega
  rw [e]
  exact hp
theorem m_next {μ : Mem} {k : Nat} {a : Int} {Post : Pst} (hN : IN μ) (hk : μ 11 12 = k) (hk8 : k ≤ 8) (h1 : (0 ≤ a ∧ a < μ 1 0) → (∀ i : Nat, i < k → μ 99 i ≠ a) → k < 8 ∧ Post ((k + 1 : Nat) : Int) (wr (wr μ 99 k a) 11 12 ((k + 1 : Nat) : Int))) (h2 : ¬ ((0 ≤ a ∧ a < μ 1 0) ∧ ∀ i : Nat, i < k → μ 99 i ≠ a) → Post (-2) μ) : wp_X11_next μ a Post := by
  intro G4 hG
  have loop : ∀ d i : Nat, i + d = k → ∀ f : Int, (f = 0 ↔ ∀ j : Nat, j < i → μ 99 j ≠ a) → G4 μ a f (i : Int) := by
    intro d
    induction d with
    | zero =>
      intro i hi f hf
      have hik : i = k := by omega
      subst hik
      refine hG _ _ _ _ ⟨fun _ => ?_, fun h => absurd (by rw [hk]; exact Int.le_refl _) h⟩
      rw [isWork_iff hN]
      refine ⟨fun hv => ⟨fun h => absurd h (by decide), fun _ => ⟨fun hf0 => ?_, fun hf0 => h2 (fun hh => hf0 (hf.mpr hh.2))⟩⟩, fun hv => ⟨fun _ => h2 (fun hh => hv hh.1), fun h => absurd rfl h⟩⟩
      obtain ⟨b1, b2⟩ := h1 hv (hf.mp hf0)
      have ei : ((i : Int)).toNat = i := by omega
      rw [hk, ei]
      refine ⟨by omega, ?_⟩
      rintro _ rfl
      rw [wr_o (by decide), hk, wrap_id (by omega) (by omega)]
      rintro _ rfl
      rw [wr_s]
      have e : ((i : Int)) + 1 = ((i + 1 : Nat) : Int) := by omega
      rw [e]
      exact b2
    | succ d ih =>
      intro i hi f hf
      have ei : ((i : Int)).toNat = i := by omega
      have ew : wrap ((i : Int) + 1) = ((i + 1 : Nat) : Int) := by rw [wrap_id (by omega) (by omega)]; omega
      refine hG _ _ _ _ ⟨fun h => by rw [hk] at h; omega, fun _ => ⟨fun hf0 => ?_, fun hf0 => ⟨by omega, fun hne => ?_, fun he => ?_⟩⟩⟩
      · intro x hx
        rw [hx, ew]
        refine ih (i + 1) (by omega) 1 ⟨fun h => absurd h (by decide), fun h => absurd (hf.mpr (fun j hj => h j (by omega))) hf0⟩
      · intro x hx
        rw [hx, ew]
        rw [ei] at hne
        refine ih (i + 1) (by omega) 0 ⟨fun _ j hj => ?_, fun _ => rfl⟩
        by_cases hji : j = i
        · rw [hji]; exact hne
        · exact hf.mp hf0 j (by omega)
      · intro x hx
        rw [hx, ew]
        rw [ei] at he
        exact ih (i + 1) (by omega) 1 ⟨fun h => absurd h (by decide), fun h => absurd he (h i (by omega))⟩
  exact loop k 0 (by omega) 0 ⟨fun _ j hj => absurd hj (by omega), fun _ => rfl⟩
theorem o_next {μ : Mem} {a : Int} (hI : Inv μ) : wp_X10_next μ a (fun r μ1 => wp_X11_next μ1 a (Ok r)) := by
  obtain ⟨hN, hW, hB, hA, hC, hT, hR, hS, hL⟩ := id hI
  obtain ⟨t1, t2, t3, t4, t5, M, hM, hM2, hMb⟩ := id hT
  have h8 := hN.2.1
  obtain ⟨k, hk⟩ := natOf t2
  have hk' : μ 11 12 = (k : Int) := by rw [← t1, hk]
  by_cases hv : 0 ≤ a ∧ a < μ 1 0
  · obtain ⟨m, rfl⟩ := natOf hv.1
    by_cases hb : M.testBit m = true
    · have hin : ∃ i : Nat, i < k ∧ μ 99 i = (m : Int) := by
        obtain ⟨i, hi, he⟩ := (hMb m).mp hb
        exact ⟨i, by omega, by rw [← (t4 i hi).1]; exact he⟩
      unfold wp_X10_next b_X10_next_e
      rw [has_iff hN]
      refine ⟨fun _ => ⟨fun h => absurd h (by decide), fun _ => ?_⟩, fun h => absurd hv h⟩
      unfold wp_X6_holds b_X6_holds_e
      rw [hM]
      refine s_isIn (by omega) (by omega) ?_
      rw [hb]
      refine ⟨Or.inr rfl, fun h => absurd h (by decide), fun _ => ?_⟩
      refine m_next hN hk' (by omega) (fun _ h => ?_) (fun _ => okI hI)
      obtain ⟨i, hi, he⟩ := hin
      exact absurd he (h i hi)
    · have hbf : M.testBit m = false := by
        cases hc : M.testBit m with
        | false => rfl
        | true => exact absurd hc hb
      have hnot : ∀ i : Nat, i < k → μ 75 i ≠ (m : Int) := fun i hi he => hb ((hMb m).mpr ⟨i, by omega, he⟩)
      obtain ⟨n, hn⟩ := natOf hN.1
      have hk8 : k + 1 ≤ n := by
        refine fb_holes n (k + 1) (fun i => if i < k then (μ 75 i).toNat else m) (fun i hi => ?_) (fun i j hij hj => ?_)
        · by_cases hik : i < k
          · simp only [hik, if_true]
            have := t4 i (by omega)
            omega
          · simp only [hik, if_false]
            omega
        · have hik : i < k := by omega
          simp only [hik, if_true]
          have q1 := t4 i (by omega)
          by_cases hjk : j < k
          · simp only [hjk, if_true]
            have q2 := t4 j (by omega)
            intro e
            have := t5 i j (by omega) (by omega) (by omega)
            omega
          · simp only [hjk, if_false]
            have := hnot i hik
            omega
      refine k_next_ok hN hv.2 hk (by omega) hM hM2 hbf (m_next (k := k) (hN.cg (by simp [wr_app]) (by simp [wr_app])) (by simp [wr_app]; exact hk') (by omega) (fun _ _ => ⟨by omega, rfl, ?_⟩) (fun h => absurd ⟨by simpa [wr_app] using hv, fun i hi => ?_⟩ h))
      · refine hI.setT (fun c hc hn => by rw [wr_ne (by omega), wr_ne (by omega), wr_ne (by omega), wr_ne (by omega), wr_ne (by omega)]) (fun i hi => by rw [wr_i (by omega), wr_o (by decide), wr_o (by decide), wr_o (by decide), wr_o (by decide)]) ?_
        obtain ⟨z, hz⟩ : ∃ z : Int, z = ((k + 1 : Nat) : Int) := ⟨_, rfl⟩
        obtain ⟨y, hy⟩ : ∃ y : Int, y = ((M ||| 2 ^ m : Nat) : Int) := ⟨_, rfl⟩
        rw [← hz, ← hy]
        have e75 : ∀ j, wr (wr (wr (wr (wr μ 75 k (m : Int)) 2 1 y) 2 0 z) 99 k (m : Int)) 11 12 z 75 j = if j = k then (m : Int) else μ 75 j := fun j => by simp [wr_app]
        have e99 : ∀ j, wr (wr (wr (wr (wr μ 75 k (m : Int)) 2 1 y) 2 0 z) 99 k (m : Int)) 11 12 z 99 j = if j = k then (m : Int) else μ 99 j := fun j => by simp [wr_app]
        have e20 : wr (wr (wr (wr (wr μ 75 k (m : Int)) 2 1 y) 2 0 z) 99 k (m : Int)) 11 12 z 2 0 = z := by simp [wr_app]
        have e21 : wr (wr (wr (wr (wr μ 75 k (m : Int)) 2 1 y) 2 0 z) 99 k (m : Int)) 11 12 z 2 1 = y := by simp [wr_app]
        have e1 : wr (wr (wr (wr (wr μ 75 k (m : Int)) 2 1 y) 2 0 z) 99 k (m : Int)) 11 12 z 1 0 = μ 1 0 := by simp [wr_app]
        have e11 : wr (wr (wr (wr (wr μ 75 k (m : Int)) 2 1 y) 2 0 z) 99 k (m : Int)) 11 12 z 11 12 = z := by simp [wr_app]
        unfold IT
        rw [e20, e21, e1, e11]
        refine ⟨rfl, by omega, by omega, fun i hi => ?_, fun i j hi hj => ?_, M ||| 2 ^ m, hy, Nat.or_lt_two_pow (n := 8) hM2 (Nat.pow_lt_pow_right (a := 2) (n := 8) (by decide) (by omega)), fun w => ?_⟩
        · rw [e75, e99]
          by_cases hik : i = k
          · simp only [hik, if_true]; exact ⟨trivial, by omega, hv.2⟩
          · simp only [hik, if_false]; exact t4 i (by omega)
        · rw [e75, e75]
          by_cases hik : i = k
          · by_cases hjk : j = k
            · intro _; omega
            · simp only [hik, hjk, if_true, if_false]
              intro e
              exact absurd e.symm (hnot j (by omega))
          · by_cases hjk : j = k
            · simp only [hik, hjk, if_true, if_false]
              intro e
              exact absurd e (hnot i (by omega))
            · simp only [hik, hjk, if_false]
              exact t5 i j (by omega) (by omega)
        · rw [Nat.testBit_or, Nat.testBit_two_pow]
          constructor
          · intro h
            rcases Bool.or_eq_true _ _ ▸ h with h | h
            · obtain ⟨i, hi, he⟩ := (hMb w).mp h
              exact ⟨i, by omega, by rw [e75, if_neg (by omega)]; exact he⟩
            · have : m = w := by simpa using h
              exact ⟨k, by omega, by rw [e75, if_pos rfl, this]⟩
          · rintro ⟨i, hi, he⟩
            rw [e75] at he
            by_cases hik : i = k
            · rw [if_pos hik] at he
              have : m = w := by omega
              simp [this]
            · rw [if_neg hik] at he
              have := (hMb w).mpr ⟨i, by omega, he⟩
              simp [this]
      · have : wr (wr (wr μ 75 k (m : Int)) 2 1 ((M ||| 2 ^ m : Nat) : Int)) 2 0 ((k + 1 : Nat) : Int) 99 i = μ 99 i := by rw [wr_o (by decide), wr_o (by decide), wr_o (by decide)]
        rw [this, ← (t4 i (by omega)).1]
        exact hnot i hi
  · unfold wp_X10_next b_X10_next_e
    rw [has_iff hN]
    refine ⟨fun h => absurd h hv, fun _ => ⟨fun _ => ?_, fun h => absurd rfl h⟩⟩
    exact m_next hN hk' (by omega) (fun h => absurd h hv) (fun _ => okI hI)
