/-! leaf, next, work. -/
theorem k_leaf {μ : Mem} {n : Nat} {a lvl : Int} {Post : Pst} (hn : μ 10 0 = n) (h12 : n < 12) (ha : -1 ≤ a ∧ a < n) (hl : lvl = if a = -1 then 1 else μ 89 a.toNat + 1) (hr : lvl ≤ 1000 ∧ -1000 ≤ lvl) (hp : Post (n : Int) (wr (wr (wr μ 88 n a) 89 n lvl) 10 0 ((n + 1 : Nat) : Int))) : wp_X10_leaf μ a Post := by
  unfold wp_X10_leaf b_X10_leaf_e wp_X7_add b_X7_add_e b_X7_add_34
  have w0 : wrap ((n : Int) - 1) = (n : Int) - 1 := wrap_id (by omega) (by omega)
  have w1 : wrap ((n : Int) + 1) = ((n + 1 : Nat) : Int) := by rw [wrap_id (by omega) (by omega)]; omega
  have en : ((n : Int)).toNat = n := by omega
  have c1 : -1 ≤ a ∧ a ≤ (n : Int) - 1 := by omega
  have c2 : (n : Int) < 12 := by omega
  have c3 : 0 ≤ (n : Int) ∧ (n : Int) < 12 := by omega
  have g1 : ∀ z : Int, wr (wr μ 88 n a) 89 n z 10 0 = (n : Int) := fun z => by rw [wr_o (by decide), wr_o (by decide), hn]
  simp only [isFrom_iff, hn, forall_eq, w0, en, g1, w1]
  refine ⟨fun _ => ⟨fun _ => ⟨fun _ => ⟨c3, fun hne => ⟨by omega, c3, ?_⟩, fun he => ⟨c3, ?_⟩⟩, fun h => absurd c2 h⟩, fun h => absurd h (by decide)⟩, fun h => absurd c1 h⟩
  · rw [if_neg hne] at hl
    rw [wr_o (by decide), wrap_id (by omega) (by omega), ← hl]
    exact hp
  · rw [if_pos he] at hl
    rw [← hl]
    exact hp
theorem m_leaf {μ : Mem} {n : Nat} {a : Int} {Post : Pst} (hn : μ 11 15 = n) (h12 : n < 12) (ha : -1 ≤ a ∧ a < n) (hp : Post (n : Int) (wr (wr μ 102 n a) 11 15 ((n + 1 : Nat) : Int))) : wp_X11_leaf μ a Post := by
  unfold wp_X11_leaf b_X11_leaf_e
  have w0 : wrap ((n : Int) - 1) = (n : Int) - 1 := wrap_id (by omega) (by omega)
  have w1 : wrap ((n : Int) + 1) = ((n + 1 : Nat) : Int) := by rw [wrap_id (by omega) (by omega)]; omega
  have w2 : wrap (((n + 1 : Nat) : Int) - 1) = (n : Int) := by rw [wrap_id (by omega) (by omega)]; omega
  have en : ((n : Int)).toNat = n := by omega
  have c1 : -1 ≤ a ∧ a ≤ (n : Int) - 1 := by omega
  have c2 : ¬ (n : Int) = 12 := by omega
  have c3 : 0 ≤ (n : Int) ∧ (n : Int) < 12 := by omega
  have g1 : wr μ 102 n a 11 15 = (n : Int) := by rw [wr_o (by decide), hn]
  simp only [in_iff, hn, forall_eq, w0, en, g1, w1, wr_s, w2]
  exact ⟨fun _ => ⟨fun _ => ⟨fun _ => ⟨c3, hp⟩, fun h => absurd h c2⟩, fun h => absurd h (by decide)⟩, fun h => absurd c1 h⟩
/-- levels stay small -/
theorem lvl_le {μ : Mem} (hL : IL μ) : ∀ i : Nat, (i : Int) < μ 10 0 → 1 ≤ μ 89 i ∧ μ 89 i ≤ (i : Int) + 1 := by
  obtain ⟨l1, l2, l3, l4, l5, l6, l7⟩ := hL
  intro i
  induction i using Nat.strongRecOn with
  | _ i ih =>
    intro hi
    obtain ⟨a1, a2, a3, a4⟩ := l7 i hi
    rw [a4]
    by_cases h : μ 88 i = -1
    · rw [if_pos h]; omega
    · rw [if_neg h]
      have := ih (μ 88 i).toNat (by omega) (by omega)
      omega
theorem o_leaf {μ : Mem} {a : Int} (hI : Inv μ) : wp_X10_leaf μ a (fun r μ1 => wp_X11_leaf μ1 a (Ok r)) := by
  have hL := hI.2.2.2.2.2.2.2.2
  have hle := lvl_le hL
  obtain ⟨l1, l2, l3, l4, l5, l6, l7⟩ := hL
  obtain ⟨n, hn⟩ := natOf l2
  have w0 : wrap ((n : Int) - 1) = (n : Int) - 1 := wrap_id (by omega) (by omega)
  have hn' : μ 11 15 = (n : Int) := by rw [← l1, hn]
  by_cases h : -1 ≤ a ∧ a ≤ (n : Int) - 1
  · by_cases h12 : n < 12
    · obtain ⟨lvl, hlvl⟩ : ∃ lvl : Int, lvl = if a = -1 then 1 else μ 89 a.toNat + 1 := ⟨_, rfl⟩
      have hr : lvl ≤ 1000 ∧ -1000 ≤ lvl := by
        rw [hlvl]
        split
        · omega
        · have := hle a.toNat (by omega)
          omega
      refine k_leaf hn h12 (by omega) hlvl hr (m_leaf (n := n) (by rw [wr_o (by decide), wr_o (by decide), wr_o (by decide), hn']) h12 (by omega) ⟨rfl, hI.setL (fun c hc hn => by rw [wr_ne (by omega), wr_ne (by omega), wr_ne (by omega), wr_ne (by omega), wr_ne (by omega)]) (fun i hi => by rw [wr_i (by omega), wr_o (by decide), wr_o (by decide), wr_o (by decide), wr_o (by decide)]) ?_⟩)
      obtain ⟨z, hz⟩ : ∃ z : Int, z = ((n + 1 : Nat) : Int) := ⟨_, rfl⟩
      rw [← hz]
      refine ⟨by simp [wr_app], by simp [wr_app]; omega, by simp [wr_app]; omega, by simp [wr_app]; exact l4, by simp [wr_app]; exact l5, by simp [wr_app]; exact l6, fun i hi => ?_⟩
      have hi' : (i : Int) < z := by simpa [wr_app] using hi
      have e88 : ∀ j, wr (wr (wr (wr (wr μ 88 n a) 89 n lvl) 10 0 z) 102 n a) 11 15 z 88 j = if j = n then a else μ 88 j := fun j => by simp [wr_app]
      have e89 : ∀ j, wr (wr (wr (wr (wr μ 88 n a) 89 n lvl) 10 0 z) 102 n a) 11 15 z 89 j = if j = n then lvl else μ 89 j := fun j => by simp [wr_app]
      have e102 : ∀ j, wr (wr (wr (wr (wr μ 88 n a) 89 n lvl) 10 0 z) 102 n a) 11 15 z 102 j = if j = n then a else μ 102 j := fun j => by simp [wr_app]
      rw [e88, e89, e102, e89]
      by_cases hin : i = n
      · subst hin
        simp only [↓reduceIte]
        refine ⟨trivial, by omega, by omega, ?_⟩
        by_cases ha : a = -1
        · rw [if_pos ha] at hlvl ⊢
          exact hlvl
        · rw [if_neg ha] at hlvl ⊢
          rw [if_neg (by omega)]
          exact hlvl
      · have h9 := l7 i (by omega)
        rw [if_neg hin, if_neg hin, if_neg hin]
        refine ⟨h9.1, h9.2.1, h9.2.2.1, ?_⟩
        have h10 := h9.2.2.2
        have h11 := h9.2.2.1
        have h12' := h9.2.1
        by_cases ha : μ 88 i = -1
        · rw [if_pos ha] at h10 ⊢
          exact h10
        · rw [if_neg ha] at h10 ⊢
          rw [if_neg (by omega)]
          exact h10
    · have h12' : n = 12 := by omega
      subst h12'
      unfold wp_X10_leaf b_X10_leaf_e wp_X11_leaf b_X11_leaf_e
      simp only [isFrom_iff, in_iff, hn, hn', w0, h, forall_eq]
      simp
      exact okI hI
  · unfold wp_X10_leaf b_X10_leaf_e wp_X11_leaf b_X11_leaf_e
    simp only [isFrom_iff, in_iff, hn, hn', w0, h, forall_eq]
    simp
    exact okI hI
