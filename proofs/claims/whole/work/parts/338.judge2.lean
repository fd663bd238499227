/-! judge -/
theorem isP_c {c : Nat} (h : isP c = true) : (24 ≤ c ∧ c ≤ 39) ∨ (64 ≤ c ∧ c ≤ 67) ∨ (88 ≤ c ∧ c ≤ 102) ∨ c = 1 ∨ c = 2 ∨ c = 6 ∨ c = 10 ∨ c = 11 ∨ c = 74 ∨ c = 75 ∨ c = 82 ∨ c = 86 := by
  unfold isP at h
  simp only [Bool.or_eq_true, Bool.and_eq_true, decide_eq_true_eq, beq_iff_eq] at h
  omega
theorem T_cg {μ μ' : Mem} (k : Kp μ μ') {w : Nat} (hw : w < 8) : T μ' w = T μ w := by
  unfold T
  rw [k _ (isP_r (by omega))]
theorem WK_cg {μ μ' : Mem} (k : Kp μ μ') : WK μ' = WK μ := by
  funext j
  unfold WK
  rw [k 82 (isP_r (by omega))]
theorem Ad_cg {μ μ' : Mem} (k : Kp μ μ') : Ad μ' = Ad μ := by
  funext j
  unfold Ad
  rw [k 74 (isP_r (by omega))]
theorem Law_cg {μ μ' : Mem} (k : Kp μ μ') {o : Nat → Nat} {n : Nat} : Law μ' o n ↔ Law μ o n := by
  unfold Law
  rw [Ad_cg k]
theorem chf_cg {μ μ' : Mem} (k : Kp μ μ') {t : Int} {w : Nat} (h : t ≤ 2) : chf μ' t w = chf μ t w := by
  unfold chf
  split
  · rfl
  · rw [k 28 (isP_r (by omega)), k (29 + t.toNat) (isP_r (by omega))]
theorem ex_cg {μ μ' : Mem} (k : Kp μ μ') {aim : Nat} {s : St} {w : Nat} (h : s.1 ≤ 2) : ex μ' aim s w = ex μ aim s w := by
  unfold ex gth lte eb
  rw [chf_cg k h, k 24 (isP_r (by omega)), k 25 (isP_r (by omega)), k 26 (isP_r (by omega)), k 27 (isP_r (by omega)), k 28 (isP_r (by omega))]
theorem rn_cg {μ μ' : Mem} (k : Kp μ μ') (h : Inv μ) {n : Nat} (hn : μ 1 0 = n) (h8 : n ≤ 8) {o : Nat → Nat} (ho : ∀ i, i < n → o i < n) {aim : Nat} {j : Nat} (hj : j ≤ n) : rn μ' aim s0 o 0 j = rn μ aim s0 o 0 j := by
  induction j with
  | zero => rfl
  | succ j ih =>
    unfold rn
    rw [ih (by omega)]
    exact ex_cg k (sb_rn h hn h8 ho (aim := aim) (j := j) (by omega)).1.2
theorem Inv.t {μ : Mem} (h : Inv μ) {n : Nat} (hn : μ 1 0 = n) : ∃ (t : Nat) (o : Nat → Nat), μ 2 0 = t ∧ μ 11 12 = t ∧ t ≤ n ∧ (∀ i, i < t → o i < n) ∧ (∀ i j, i < t → j < t → o i = o j → i = j) ∧ (∀ i, i < t → μ 75 i = o i ∧ μ 99 i = o i) := by
  obtain ⟨t1, t2, t3, t4, t5, -⟩ := h.2.2.2.2.2.1
  obtain ⟨t, ht⟩ := natOf t2
  have q : ∀ i, i < t → μ 75 i = ((μ 75 i).toNat : Nat) ∧ (μ 75 i).toNat < n := fun i hi => by
    have := t4 i (by omega)
    omega
  have inj : ∀ i j, i < t → j < t → (μ 75 i).toNat = (μ 75 j).toNat → i = j := fun i j hi hj e => t5 i j (by omega) (by omega) (by have := q i hi; have := q j hj; omega)
  refine ⟨t, fun i => (μ 75 i).toNat, ht, by omega, ?_, fun i hi => (q i hi).2, inj, fun i hi => ⟨(q i hi).1, ?_⟩⟩
  · exact fb_holes n t (fun i => (μ 75 i).toNat) (fun i hi => (q i hi).2) (fun i j hij hj e => by
      have := inj i j (by omega) hj e
      omega)
  · have := t4 i (by omega)
    have := q i hi
    show μ 99 i = ((μ 75 i).toNat : Int)
    omega
theorem o_judge {μ : Mem} {a : Int} (hI : Inv μ) : wp_X10_judge μ a (fun r μ1 => wp_X11_judge μ1 a (Ok r)) := by
  obtain ⟨n, hn, h8, hm⟩ := hI.n
  obtain ⟨B, hB, hB', hB2, hB4⟩ := hI.B
  obtain ⟨t, o, ht, ht', htn, ho, hinj, hq⟩ := hI.t hn
  unfold wp_X10_judge b_X10_judge_e
  rw [isFrom_iff]
  -- the other side behind the copy
  have other : ∀ μ1, Kp μ μ1 → t = n → ∀ Post : Pst, (∀ μ2, Kp μ1 μ2 → (∀ i, i < n → μ2 103 i = o i) → (∀ c, c ≠ 103 → μ2 c = μ1 c) → ((¬ a = 5) → wp_X11_isLawful μ2 (fun r_3 μ_4 => ((r_3 = 0) → Post (-20) μ_4) ∧ ((¬ r_3 = 0) → wp_X11_makes μ_4 a (fun r_6 μ_7 => Post r_6 μ_7)))) ∧ ((a = 5) → wp_X11_rowEnd μ2 (B : Int) 0 (fun r_8 μ_9 => Post r_8 μ_9))) → (0 ≤ a ∧ a ≤ 5) → wp_X11_judge μ1 a Post := by
    intro μ1 k1 htn' Post hp ha
    unfold wp_X11_judge
    intro G hG
    unfold b_X11_judge_e
    rw [in_iff]
    refine ⟨fun _ => ⟨fun _ => ⟨fun _ => ?_, fun h' => ?_⟩, fun h' => absurd h' (by decide)⟩, fun h' => absurd ha h'⟩
    · refine upTo (P := fun i => ∀ μ2 : Mem, (∀ c, c ≠ 103 → μ2 c = μ1 c) → (∀ i', i' < i → μ2 103 i' = o i') → G μ2 a (i : Int)) (n := n) ?_ ?_ μ1 (fun _ _ => rfl) (fun i hi => absurd hi (by omega))
      · intro μ2 fr c2
        have e11 : μ2 11 = μ 11 := by rw [fr 11 (by omega)]; exact k1 11 rfl
        refine hG _ _ _ ⟨fun _ => ?_, fun h' => absurd h' (by rw [e11]; omega)⟩
        rw [e11, hB']
        exact hp μ2 (fun c hc => fr c (fun e => by have := isP_c hc; omega)) c2 fr
      · intro i hi ih μ2 fr c2
        have e11 : μ2 11 = μ 11 := by rw [fr 11 (by omega)]; exact k1 11 rfl
        have e99 : μ2 99 = μ 99 := by rw [fr 99 (by omega)]; exact k1 99 rfl
        refine hG _ _ _ ⟨fun h' => absurd h' (by rw [e11]; omega), fun _ => ⟨by omega, by omega, ?_⟩⟩
        rw [tn, e99, (hq i (by omega)).2, wrap_id (by omega) (by omega)]
        intro μ3 h3 x hx
        rw [hx, ← cs]
        refine ih μ3 (fun c hc => by rw [h3, wr_ne hc]; exact fr c hc) (fun i' hi' => ?_)
        rw [h3]
        by_cases c : i' = i
        · rw [c]; exact wr_s
        · rw [wr_i c]; exact c2 i' (by omega)
    · have e11 : μ1 11 = μ 11 := k1 11 rfl
      rw [e11] at h'
      omega
  refine ⟨fun ha => ⟨fun _ => ⟨fun e => ⟨fun h5 => ?_, fun h5 => ?_⟩, fun e => ?_⟩, fun h => absurd h (by decide)⟩, fun ha => ⟨fun h => absurd rfl h, fun _ => ?_⟩⟩
  · -- one bench
    have htn' : t = n := by omega
    subst htn'
    obtain ⟨aim, rfl⟩ := natOf ha.1
    have haim : aim < 5 := by omega
    refine k_keeps hI hn h8 ho hinj (fun i hi => (hq i hi).1) (fun hL => ⟨fun h => absurd h (by decide), fun _ => ?_⟩) (fun hL => ⟨fun _ => ?_, fun h => absurd rfl h⟩)
    · refine k_makes hI hn h8 haim ho (fun i hi => (hq i hi).1) ?_
      refine other μ Kp.rf rfl _ (fun μ2 k2 c2 fr => ⟨fun _ => ?_, fun h => absurd h h5⟩) ha
      have I2 := hI.kp k2
      have n2 : μ2 1 0 = t := by rw [k2 1 rfl]; exact hn
      have m2 : μ2 11 0 = t := by rw [k2 11 rfl]; exact hm
      refine m_lawful I2 n2 h8 m2 ho c2 (fun _ => ⟨fun h => absurd h (by decide), fun _ => ?_⟩) (fun hn' => absurd ((Law_cg k2).mpr hL) hn')
      refine m_makes I2 n2 h8 m2 haim ho c2 ?_
      rw [rn_cg k2 hI hn h8 ho (Nat.le_refl _)]
      exact okI I2
    · refine other μ Kp.rf rfl _ (fun μ2 k2 c2 fr => ⟨fun _ => ?_, fun h => absurd h h5⟩) ha
      have I2 := hI.kp k2
      have n2 : μ2 1 0 = t := by rw [k2 1 rfl]; exact hn
      have m2 : μ2 11 0 = t := by rw [k2 11 rfl]; exact hm
      exact m_lawful I2 n2 h8 m2 ho c2 (fun hl => absurd ((Law_cg k2).mp hl) hL) (fun _ => ⟨fun _ => okI I2, fun h => absurd rfl h⟩)
  · -- in a row
    have htn' : t = n := by omega
    subst htn'
    refine k_lastEnd hI hn h8 hB hB2 hB4 ho (fun i hi => (hq i hi).1) ?_
    intro μ1 fr1 r1
    have k1 : Kp μ μ1 := fun c hc => fr1 c (by have := isP_c hc; omega)
    refine other μ1 k1 rfl _ (fun μ2 k2 c2 fr => ⟨fun h => absurd h5 h, fun _ => ?_⟩) ha
    have k12 := k1.tr k2
    have I2 := hI.kp k12
    have n2 : μ2 1 0 = t := by rw [k12 1 rfl]; exact hn
    have m2 : μ2 11 0 = t := by rw [k12 11 rfl]; exact hm
    refine m_rowEnd I2 (W := WK μ) n2 h8 m2 hB2 hB4 hI.W.1 (fun j j1 j4 => ?_) ho c2 ?_
    · rw [if_pos rfl, k12 98 rfl]
      exact (hI.W.2 j j1 j4).2.symm
    · intro μ3 fr3 r3
      have k3 : Kp μ2 μ3 := fun c hc => fr3 c (by have := isP_c hc; omega) (by have := isP_c hc; omega)
      refine ⟨?_, hI.kp (k12.tr k3)⟩
      have u := RW.uq (fun j => (hI.W.1 j).1) r1 r3 (fun k hk j hj => by
        show T μ (o k) j = T μ2 (o k) j
        rw [T_cg k12 (by have := ho k hk; omega)])
      unfold rEnd
      split
      · rfl
      · exact (u (t - 1) (by omega) (B - 1) (by omega)).2
  · have htn' : t < n := by omega
    unfold wp_X11_judge
    intro G hG
    unfold b_X11_judge_e
    rw [in_iff]
    exact ⟨fun _ => ⟨fun _ => ⟨fun h' => by omega, fun _ => okI hI⟩, fun h' => absurd h' (by decide)⟩, fun h' => absurd ha h'⟩
  · unfold wp_X11_judge
    intro G hG
    unfold b_X11_judge_e
    rw [in_iff]
    exact ⟨fun h' => absurd h' ha, fun _ => ⟨fun h' => absurd rfl h', fun _ => okI hI⟩⟩
