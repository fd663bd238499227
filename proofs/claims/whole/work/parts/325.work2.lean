/-! work, next, both sides together. -/
def wk1 (μ : Mem) (n : Nat) (a : Int) : Mem := wr (wr (fillM (wr (wr (wr (wr (wr (wr μ 24 n 1) 25 n 0) 26 n 300) 27 n 1) 28 n 0) 24 n a) (32 + n) 4 1) (32 + n) 0 a) 1 0 ((n + 1 : Nat) : Int)
def wk2 (μ : Mem) (n : Nat) (a : Int) : Mem := wr (wr (wr (wr (wr (wr (wr (wr (wr (wr (wr μ 90 n a) 91 n 0) 92 n 300) 93 n 1) 94 n 0) 95 n 0) 97 (4 * n + 0) a) 97 (4 * n + 1) 1) 97 (4 * n + 2) 1) 97 (4 * n + 3) 1) 11 0 ((n + 1 : Nat) : Int)
theorem wk_oth {μ : Mem} {n : Nat} {a : Int} {c : Nat} (hn : n < 8) (h : ¬ ((24 ≤ c ∧ c ≤ 28) ∨ c = 32 + n ∨ c = 1 ∨ (90 ≤ c ∧ c ≤ 95) ∨ c = 97 ∨ c = 11)) : wk2 (wk1 μ n a) n a c = μ c := by
  unfold wk2 wk1
  rw [wr_ne (by omega), wr_ne (by omega), wr_ne (by omega), wr_ne (by omega), wr_ne (by omega), wr_ne (by omega), wr_ne (by omega), wr_ne (by omega), wr_ne (by omega), wr_ne (by omega), wr_ne (by omega), wr_ne (by omega), wr_ne (by omega), fillM_ne (by omega), wr_ne (by omega), wr_ne (by omega), wr_ne (by omega), wr_ne (by omega), wr_ne (by omega), wr_ne (by omega)]
theorem wk_n {μ : Mem} {n : Nat} {a : Int} (hn : n < 8) : wk2 (wk1 μ n a) n a 1 0 = ((n + 1 : Nat) : Int) := by
  unfold wk2
  rw [wr_o (by decide), wr_o (by decide), wr_o (by decide), wr_o (by decide), wr_o (by decide), wr_o (by decide), wr_o (by decide), wr_o (by decide), wr_o (by decide), wr_o (by decide), wr_o (by decide)]
  unfold wk1
  exact wr_s
theorem wk_11 {μ : Mem} {n : Nat} {a : Int} (hn : n < 8) (i : Nat) : wk2 (wk1 μ n a) n a 11 i = if i = 0 then ((n + 1 : Nat) : Int) else μ 11 i := by
  unfold wk2
  rw [wr_app, if_pos rfl]
  split
  · rfl
  · rw [wr_o (by decide), wr_o (by decide), wr_o (by decide), wr_o (by decide), wr_o (by decide), wr_o (by decide), wr_o (by decide), wr_o (by decide), wr_o (by decide), wr_o (by decide)]
    unfold wk1
    rw [wr_o (by decide), wr_o (by omega), fillM_ne (by omega), wr_o (by decide), wr_o (by decide), wr_o (by decide), wr_o (by decide), wr_o (by decide), wr_o (by decide)]
theorem wk1_t {μ : Mem} {n : Nat} {a : Int} (hn : n < 8) (c j : Nat) (hc : c = 24 ∨ c = 25 ∨ c = 26 ∨ c = 27 ∨ c = 28) : wk1 μ n a c j = if j = n then (if c = 24 then a else if c = 26 then 300 else if c = 27 then 1 else 0) else μ c j := by
  unfold wk1
  rw [wr_o (by omega), wr_o (by omega), fillM_ne (by omega)]
  rcases hc with rfl | rfl | rfl | rfl | rfl <;> by_cases h : j = n <;> simp [wr_app, h]
theorem wk_t {μ : Mem} {n : Nat} {a : Int} (hn : n < 8) (c j : Nat) (hc : c = 24 ∨ c = 25 ∨ c = 26 ∨ c = 27 ∨ c = 28) : wk2 (wk1 μ n a) n a c j = if j = n then (if c = 24 then a else if c = 26 then 300 else if c = 27 then 1 else 0) else μ c j := by
  rw [← wk1_t hn c j hc]
  unfold wk2
  rw [wr_o (by omega), wr_o (by omega), wr_o (by omega), wr_o (by omega), wr_o (by omega), wr_o (by omega), wr_o (by omega), wr_o (by omega), wr_o (by omega), wr_o (by omega), wr_o (by omega)]
theorem wk1_o {μ : Mem} {n : Nat} {a : Int} (hn : n < 8) (c j : Nat) (hc : 90 ≤ c) : wk1 μ n a c j = μ c j := by
  unfold wk1
  rw [wr_o (by omega), wr_o (by omega), fillM_ne (by omega), wr_o (by omega), wr_o (by omega), wr_o (by omega), wr_o (by omega), wr_o (by omega), wr_o (by omega)]
theorem wk_m {μ : Mem} {n : Nat} {a : Int} (hn : n < 8) (c j : Nat) (hc : c = 90 ∨ c = 91 ∨ c = 92 ∨ c = 93 ∨ c = 94 ∨ c = 95) : wk2 (wk1 μ n a) n a c j = if j = n then (if c = 90 then a else if c = 92 then 300 else if c = 93 then 1 else 0) else μ c j := by
  rw [← wk1_o (μ := μ) (a := a) hn c j (by omega)]
  unfold wk2
  rw [wr_o (by omega), wr_o (by omega), wr_o (by omega), wr_o (by omega), wr_o (by omega)]
  rcases hc with rfl | rfl | rfl | rfl | rfl | rfl <;> by_cases h : j = n <;> simp [wr_app, h]
theorem wk_b {μ : Mem} {n : Nat} {a : Int} (hn : n < 8) (w b : Nat) (hw : w < 8) (hb : b < 4) : wk2 (wk1 μ n a) n a (32 + w) b = if w = n then (if b = 0 then a else 1) else μ (32 + w) b := by
  unfold wk2
  rw [wr_o (by omega), wr_o (by omega), wr_o (by omega), wr_o (by omega), wr_o (by omega), wr_o (by omega), wr_o (by omega), wr_o (by omega), wr_o (by omega), wr_o (by omega), wr_o (by omega)]
  unfold wk1
  rw [wr_o (by omega)]
  by_cases h : w = n
  · subst h
    rw [wr_app, if_pos rfl, if_pos rfl]
    by_cases h0 : b = 0
    · rw [if_pos h0, if_pos h0]
    · rw [if_neg h0, if_neg h0, fillM_app, if_pos rfl, if_pos hb]
  · rw [if_neg h, wr_o (by omega), fillM_ne (by omega), wr_o (by omega), wr_o (by omega), wr_o (by omega), wr_o (by omega), wr_o (by omega), wr_o (by omega)]
theorem wk_97 {μ : Mem} {n : Nat} {a : Int} (hn : n < 8) (w b : Nat) (hb : b < 4) : wk2 (wk1 μ n a) n a 97 (4 * w + b) = if w = n then (if b = 0 then a else 1) else μ 97 (4 * w + b) := by
  unfold wk2
  rw [wr_o (by decide)]
  by_cases h : w = n
  · subst h
    rw [if_pos rfl]
    have : b = 0 ∨ b = 1 ∨ b = 2 ∨ b = 3 := by omega
    rcases this with rfl | rfl | rfl | rfl
    · rw [wr_i (by omega), wr_i (by omega), wr_i (by omega), wr_s]; rfl
    · rw [wr_i (by omega), wr_i (by omega), wr_s]; rfl
    · rw [wr_i (by omega), wr_s]; rfl
    · rw [wr_s]; rfl
  · rw [if_neg h, wr_i (by omega), wr_i (by omega), wr_i (by omega), wr_i (by omega), wr_o (by decide), wr_o (by decide), wr_o (by decide), wr_o (by decide), wr_o (by decide), wr_o (by decide), wk1_o hn _ _ (by decide)]
theorem o_work {μ : Mem} {a : Int} (hI : Inv μ) : wp_X10_work μ a (fun r μ1 => wp_X11_work μ1 a (Ok r)) := by
  obtain ⟨hN, hW, hB, hA, hC, hT, hR, hS, hL⟩ := id hI
  obtain ⟨n, hn⟩ := natOf hN.1
  have hn' : μ 11 0 = (n : Int) := by rw [hN.2.2, hn]
  have h8' := hN.2.1
  by_cases h : 1 ≤ a ∧ a ≤ 40
  · by_cases h8 : n < 8
    · refine k_work hn h8 h (m_work (n := n) (by
        have := wk1_o (μ := μ) (a := a) h8 11 0
        show wk1 μ n a 11 0 = _
        unfold wk1
        rw [wr_o (by decide), wr_o (by omega), fillM_ne (by omega), wr_o (by decide), wr_o (by decide), wr_o (by decide), wr_o (by decide), wr_o (by decide), wr_o (by decide), hn']) h8 h ?_)
      show Ok (n : Int) (n : Int) (wk2 (wk1 μ n a) n a)
      refine ⟨rfl, ⟨by rw [wk_n h8]; omega, by rw [wk_n h8]; omega, by rw [wk_n h8, wk_11 h8, if_pos rfl]⟩, fun w hw => ?_, fun w b hw hb => ?_, ?_, hC.cg (fun c hc => wk_oth h8 (by omega)), ?_, hR.cg (by rw [wk_oth h8 (by omega)]) (by rw [wk_11 h8, if_neg (by decide)]) (wk_oth h8 (by omega)) (wk_oth h8 (by omega)), hS.cg (fun c hc => wk_oth h8 (by omega)), hL.cg (by rw [wk_oth h8 (by omega)]) (by rw [wk_oth h8 (by omega)]) (by rw [wk_11 h8, if_neg (by decide)]) (by rw [wk_11 h8, if_neg (by decide)]) (wk_oth h8 (by omega)) (wk_oth h8 (by omega)) (wk_oth h8 (by omega))⟩
      · rw [wk_n h8] at hw
        rw [wk_t h8 24 w (by omega), wk_t h8 25 w (by omega), wk_t h8 26 w (by omega), wk_t h8 27 w (by omega), wk_t h8 28 w (by omega), wk_m h8 90 w (by omega), wk_m h8 91 w (by omega), wk_m h8 92 w (by omega), wk_m h8 93 w (by omega), wk_m h8 94 w (by omega)]
        by_cases e : w = n
        · simp [e]
          omega
        · have := hW w (by omega)
          simp only [e, if_false]
          exact this
      · rw [wk_n h8] at hw
        rw [wk_b h8 w b (by omega) hb, wk_97 h8 w b hb]
        by_cases e : w = n
        · simp only [e, if_true]
          by_cases hb0 : b = 0
          · simp [hb0]; omega
          · simp [hb0]
        · simp only [e, if_false]
          exact hB w b (by omega) hb
      · obtain ⟨A, rk, a1, a2, a3, a4⟩ := hA
        refine ⟨A, rk, fun w hw => by rw [wk_oth h8 (by omega)]; exact a1 w hw, fun w hw => ?_, fun w hw => a3 w (by rw [wk_n h8] at hw; omega), fun u w hu => by
          have := a4 u w hu
          rw [wk_n h8]
          omega⟩
        rw [wk_n h8] at hw
        rw [wk_m h8 95 w (by omega)]
        by_cases e : w = n
        · have := a3 w (by omega)
          simp [e]
          rw [← e, this]
          rfl
        · rw [if_neg e]
          exact a2 w (by omega)
      · obtain ⟨t1, t2, t3, t4, t5, t6⟩ := hT
        have e2 : wk2 (wk1 μ n a) n a 2 = μ 2 := wk_oth h8 (by omega)
        have e75 : wk2 (wk1 μ n a) n a 75 = μ 75 := wk_oth h8 (by omega)
        have e99 : wk2 (wk1 μ n a) n a 99 = μ 99 := wk_oth h8 (by omega)
        unfold IT
        rw [e2, e75, e99, wk_11 h8, if_neg (by decide), wk_n h8]
        exact ⟨t1, t2, t3, fun i hi => ⟨(t4 i hi).1, (t4 i hi).2.1, by have := (t4 i hi).2.2; omega⟩, t5, t6⟩
    · have h8'' : n = 8 := by omega
      subst h8''
      unfold wp_X10_work b_X10_work_e wp_X11_work b_X11_work_e
      have e0 : stv 0 ((0 : Int).toNat) = 1 := rfl
      have e1 : stv 1 ((0 : Int).toNat) = 40 := rfl
      simp only [e0, e1, isFrom_iff, in_iff, hn, h, forall_eq]
      simp
      intro G hG
      simp only [hn']
      simp
      exact okI hI
  · unfold wp_X10_work b_X10_work_e wp_X11_work b_X11_work_e
    have e0 : stv 0 ((0 : Int).toNat) = 1 := rfl
    have e1 : stv 1 ((0 : Int).toNat) = 40 := rfl
    simp only [e0, e1, isFrom_iff, in_iff, h, forall_eq]
    simp
    intro G hG
    exact okI hI
