/-! The calls that only look and put, further. -/
theorem natOf {a : Int} (h : 0 ≤ a) : ∃ n : Nat, a = (n : Int) := ⟨a.toNat, by omega⟩
theorem o_change {μ : Mem} {a b v : Int} (hI : Inv μ) : wp_X10_change μ a b v (fun r μ1 => wp_X11_change μ1 a b v (Ok r)) := by
  unfold wp_X10_change b_X10_change_e wp_X11_change b_X11_change_e
  by_cases h : 0 ≤ a ∧ a ≤ 2
  · by_cases h2 : 0 ≤ b ∧ b ≤ 2
    · by_cases h3 : a = b
      · simp only [isFrom_iff, isTool_iff, h, h2, h3, forall_eq]
        simp
        intros
        exact okI hI
      · by_cases h4 : 0 ≤ v ∧ v ≤ 20
        · have h5 : 0 ≤ a ∧ a < 3 := by omega
          have h6 : 0 ≤ b ∧ b < 3 := by omega
          have e : wrap (wrap (3 * a) + b) = 3 * a + b := by rw [wrap_id (x := 3 * a) (by omega) (by omega), wrap_id (by omega) (by omega)]
          have h7 : 0 ≤ 3 * a + b ∧ 3 * a + b < 9 := by omega
          simp only [isFrom_iff, isTool_iff, in_iff, h, h2, h3, h4, h5, h6, h7, e, forall_eq]
          simp only [and_self, true_implies, not_true_eq_false, false_implies, and_true, true_and, Int.one_ne_zero, not_false_eq_true]
          obtain ⟨m, rfl⟩ := natOf h.1
          obtain ⟨n, rfl⟩ := natOf h2.1
          have em : ((m : Int)).toNat = m := by omega
          have en : ((n : Int)).toNat = n := by omega
          have emn : (3 * (m : Int) + (n : Int)).toNat = 3 * m + n := by omega
          rw [em, en, emn]
          have hC := hI.2.2.2.2.1
          have hm : m < 3 := by omega
          have hn : n < 3 := by omega
          refine ⟨by rw [wr_o (by omega)]; exact (hC m n hm hn).1, hI.setC (fun c hc hn => by rw [wr_ne (by omega), wr_ne (by omega)]) (fun i hi => by rw [wr_o (by omega), wr_o (by omega)]) (fun f t hf ht => ?_)⟩
          by_cases hft : f = m ∧ t = n
          · obtain ⟨rfl, rfl⟩ := hft
            rw [wr_o (by omega), wr_s, wr_s]
            exact ⟨rfl, h4.1, h4.2⟩
          · have h9 := hC f t hf ht
            have e1 : wr (wr μ (29 + m) n v) 96 (3 * m + n) v (29 + f) t = μ (29 + f) t := by
              rw [wr_o (by omega)]
              by_cases hfm : f = m
              · subst hfm
                exact wr_i (by omega)
              · exact wr_o (by omega)
            have e2 : wr (wr μ (29 + m) n v) 96 (3 * m + n) v 96 (3 * f + t) = μ 96 (3 * f + t) := by
              rw [wr_i (by omega), wr_o (by omega)]
            rw [e1, e2]
            exact h9
        · simp only [isFrom_iff, isTool_iff, in_iff, h, h2, h3, h4, forall_eq]
          simp
          exact okI hI
    · simp only [isFrom_iff, isTool_iff, in_iff, h, h2, forall_eq]
      simp
      exact okI hI
  · simp only [isFrom_iff, isTool_iff, in_iff, h, forall_eq]
    simp
    exact okI hI
theorem o_needs {μ : Mem} {a b v : Int} (hI : Inv μ) : wp_X10_needs μ a b v (fun r μ1 => wp_X11_needs μ1 a b v (Ok r)) := by
  have hN := hI.1
  unfold wp_X10_needs b_X10_needs_e wp_X11_needs b_X11_needs_e
  rw [has_iff hN]
  by_cases h : 0 ≤ a ∧ a < μ 1 0
  · by_cases h2 : 0 ≤ b ∧ b ≤ 3
    · by_cases h4 : 1 ≤ v ∧ v ≤ 40
      · have h8 := hN.2.1
        have h5 : 0 ≤ a ∧ a < 8 := by omega
        have h6 : 0 ≤ b ∧ b < 4 := by omega
        have e : wrap (wrap (4 * a) + b) = 4 * a + b := by rw [wrap_id (x := 4 * a) (by omega) (by omega), wrap_id (by omega) (by omega)]
        have h7 : 0 ≤ 4 * a + b ∧ 4 * a + b < 32 := by omega
        simp only [isFrom_iff, h, h2, h4, h5, h6, forall_eq]
        simp only [and_self, true_implies, not_true_eq_false, false_implies, and_true, true_and, Int.one_ne_zero, not_false_eq_true]
        obtain ⟨m, rfl⟩ := natOf h.1
        obtain ⟨n, rfl⟩ := natOf h2.1
        have em : ((m : Int)).toNat = m := by omega
        have en : ((n : Int)).toNat = n := by omega
        have emn : (4 * (m : Int) + (n : Int)).toNat = 4 * m + n := by omega
        rw [em, en]
        have hm : m < 8 := by omega
        have hn : n < 4 := by omega
        have hN1 : IN (wr μ (32 + m) n v) := hN.cg (wr_o (by omega)) (wr_o (by omega))
        rw [isWork_iff hN1, wr_o (by omega)]
        simp only [in_iff, h, h2, h4, h7, e, forall_eq]
        simp only [and_self, true_implies, not_true_eq_false, false_implies, and_true, true_and, Int.one_ne_zero, not_false_eq_true]
        rw [emn]
        have hB := hI.2.2.1
        refine ⟨by rw [wr_o (by omega)]; exact (hB m n h.2 hn).1, hI.setB (fun c hc hn => by rw [wr_ne (by omega), wr_ne (by omega)]) (fun i hi => by rw [wr_o (by omega), wr_o (by omega)]) (fun f t hf ht => ?_)⟩
        rw [wr_o (by omega), wr_o (by omega)] at hf
        by_cases hft : f = m ∧ t = n
        · obtain ⟨rfl, rfl⟩ := hft
          rw [wr_o (by omega), wr_s, wr_s]
          exact ⟨rfl, h4.1, h4.2⟩
        · have h9 := hB f t hf ht
          have e1 : wr (wr μ (32 + m) n v) 97 (4 * m + n) v (32 + f) t = μ (32 + f) t := by
            rw [wr_o (by omega)]
            by_cases hfm : f = m
            · subst hfm
              exact wr_i (by omega)
            · exact wr_o (by omega)
          have e2 : wr (wr μ (32 + m) n v) 97 (4 * m + n) v 97 (4 * f + t) = μ 97 (4 * f + t) := by
            rw [wr_i (by omega), wr_o (by omega)]
          rw [e1, e2]
          exact h9
      · simp only [isFrom_iff, isWork_iff hN, in_iff, h, h2, h4, forall_eq]
        simp
        exact okI hI
    · simp only [isFrom_iff, isWork_iff hN, in_iff, h, h2, forall_eq]
      simp
      exact okI hI
  · simp only [isWork_iff hN, h, forall_eq]
    simp
    exact okI hI
