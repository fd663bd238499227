/-! put, step, leaf, next, work. -/
theorem o_put0 {μ : Mem} {a v : Int} (hI : Inv μ) : wp_X10_put μ a 0 v (fun r μ1 => wp_X11_put μ1 a 0 v (Ok r)) := by
  have hN := hI.1
  have h8 := hN.2.1
  unfold wp_X10_put b_X10_put_e
  have e0 : stv 0 0 = 1 := rfl
  have e1 : stv 1 0 = 40 := rfl
  have e2 : (0 : Int).toNat = 0 := rfl
  rw [has_iff hN]
  simp only [e2, e0, e1]
  by_cases h : 0 ≤ a ∧ a < μ 1 0
  · by_cases h2 : 1 ≤ v ∧ v ≤ 40
    · have h5 : 0 ≤ a ∧ a < 8 := by omega
      simp only [isFrom_iff, h, h2, h5, forall_eq]
      simp
      obtain ⟨m, rfl⟩ := natOf h.1
      have em : ((m : Int)).toNat = m := by omega
      rw [em]
      have hN1 : IN (wr μ 24 m v) := hN.cg (wr_o (by omega)) (wr_o (by omega))
      unfold wp_X11_put b_X11_put_e b_X11_put_61 b_X11_put_96 b_X11_put_131 b_X11_put_166
      rw [isWork_iff hN1, wr_o (by omega)]
      simp only [in_iff, h, h2, h5, forall_eq]
      simp
      have hW := hI.2.1
      refine ⟨?_, hI.setW (fun c hc hn => by rw [wr_ne (by omega), wr_ne (by omega)]) (fun i hi => by rw [wr_o (by omega), wr_o (by omega)]) (fun x hx => ?_)⟩
      · have := hW m h.2
        simp [wr_app]
        omega
      · have hx' : (x : Int) < μ 1 0 := by simpa [wr_app] using hx
        have h9 := hW x hx'
        by_cases e : x = m
        · subst e
          simp [wr_app]
          omega
        · simpa [wr_app, e] using h9
    · unfold wp_X11_put b_X11_put_e b_X11_put_61 b_X11_put_96 b_X11_put_131 b_X11_put_166
      simp only [isFrom_iff, isWork_iff hN, in_iff, h, h2, forall_eq]
      simp
      exact okI hI
  · unfold wp_X11_put b_X11_put_e
    simp only [isWork_iff hN, h, forall_eq]
    simp
    exact okI hI
theorem o_put1 {μ : Mem} {a v : Int} (hI : Inv μ) : wp_X10_put μ a 1 v (fun r μ1 => wp_X11_put μ1 a 1 v (Ok r)) := by
  have hN := hI.1
  have h8 := hN.2.1
  unfold wp_X10_put b_X10_put_e
  have e0 : stv 0 1 = 0 := rfl
  have e1 : stv 1 1 = 99 := rfl
  have e2 : (1 : Int).toNat = 1 := rfl
  rw [has_iff hN]
  simp only [e2, e0, e1]
  by_cases h : 0 ≤ a ∧ a < μ 1 0
  · by_cases h2 : 0 ≤ v ∧ v ≤ 99
    · have h5 : 0 ≤ a ∧ a < 8 := by omega
      simp only [isFrom_iff, h, h2, h5, forall_eq]
      simp
      obtain ⟨m, rfl⟩ := natOf h.1
      have em : ((m : Int)).toNat = m := by omega
      rw [em]
      have hN1 : IN (wr μ 25 m v) := hN.cg (wr_o (by omega)) (wr_o (by omega))
      unfold wp_X11_put b_X11_put_e b_X11_put_61 b_X11_put_96 b_X11_put_131 b_X11_put_166
      rw [isWork_iff hN1, wr_o (by omega)]
      simp only [in_iff, h, h2, h5, forall_eq]
      simp
      have hW := hI.2.1
      refine ⟨?_, hI.setW (fun c hc hn => by rw [wr_ne (by omega), wr_ne (by omega)]) (fun i hi => by rw [wr_o (by omega), wr_o (by omega)]) (fun x hx => ?_)⟩
      · have := hW m h.2
        simp [wr_app]
        omega
      · have hx' : (x : Int) < μ 1 0 := by simpa [wr_app] using hx
        have h9 := hW x hx'
        by_cases e : x = m
        · subst e
          simp [wr_app]
          omega
        · simpa [wr_app, e] using h9
    · unfold wp_X11_put b_X11_put_e b_X11_put_61 b_X11_put_96 b_X11_put_131 b_X11_put_166
      simp only [isFrom_iff, isWork_iff hN, in_iff, h, h2, forall_eq]
      simp
      exact okI hI
  · unfold wp_X11_put b_X11_put_e
    simp only [isWork_iff hN, h, forall_eq]
    simp
    exact okI hI
theorem o_put2 {μ : Mem} {a v : Int} (hI : Inv μ) : wp_X10_put μ a 2 v (fun r μ1 => wp_X11_put μ1 a 2 v (Ok r)) := by
  have hN := hI.1
  have h8 := hN.2.1
  unfold wp_X10_put b_X10_put_e
  have e0 : stv 0 2 = 0 := rfl
  have e1 : stv 1 2 = 300 := rfl
  have e2 : (2 : Int).toNat = 2 := rfl
  rw [has_iff hN]
  simp only [e2, e0, e1]
  by_cases h : 0 ≤ a ∧ a < μ 1 0
  · by_cases h2 : 0 ≤ v ∧ v ≤ 300
    · have h5 : 0 ≤ a ∧ a < 8 := by omega
      simp only [isFrom_iff, h, h2, h5, forall_eq]
      simp
      obtain ⟨m, rfl⟩ := natOf h.1
      have em : ((m : Int)).toNat = m := by omega
      rw [em]
      have hN1 : IN (wr μ 26 m v) := hN.cg (wr_o (by omega)) (wr_o (by omega))
      unfold wp_X11_put b_X11_put_e b_X11_put_61 b_X11_put_96 b_X11_put_131 b_X11_put_166
      rw [isWork_iff hN1, wr_o (by omega)]
      simp only [in_iff, h, h2, h5, forall_eq]
      simp
      have hW := hI.2.1
      refine ⟨?_, hI.setW (fun c hc hn => by rw [wr_ne (by omega), wr_ne (by omega)]) (fun i hi => by rw [wr_o (by omega), wr_o (by omega)]) (fun x hx => ?_)⟩
      · have := hW m h.2
        simp [wr_app]
        omega
      · have hx' : (x : Int) < μ 1 0 := by simpa [wr_app] using hx
        have h9 := hW x hx'
        by_cases e : x = m
        · subst e
          simp [wr_app]
          omega
        · simpa [wr_app, e] using h9
    · unfold wp_X11_put b_X11_put_e b_X11_put_61 b_X11_put_96 b_X11_put_131 b_X11_put_166
      simp only [isFrom_iff, isWork_iff hN, in_iff, h, h2, forall_eq]
      simp
      exact okI hI
  · unfold wp_X11_put b_X11_put_e
    simp only [isWork_iff hN, h, forall_eq]
    simp
    exact okI hI
theorem o_put3 {μ : Mem} {a v : Int} (hI : Inv μ) : wp_X10_put μ a 3 v (fun r μ1 => wp_X11_put μ1 a 3 v (Ok r)) := by
  have hN := hI.1
  have h8 := hN.2.1
  unfold wp_X10_put b_X10_put_e
  have e0 : stv 0 3 = 0 := rfl
  have e1 : stv 1 3 = 20 := rfl
  have e2 : (3 : Int).toNat = 3 := rfl
  rw [has_iff hN]
  simp only [e2, e0, e1]
  by_cases h : 0 ≤ a ∧ a < μ 1 0
  · by_cases h2 : 0 ≤ v ∧ v ≤ 20
    · have h5 : 0 ≤ a ∧ a < 8 := by omega
      simp only [isFrom_iff, h, h2, h5, forall_eq]
      simp
      obtain ⟨m, rfl⟩ := natOf h.1
      have em : ((m : Int)).toNat = m := by omega
      rw [em]
      have hN1 : IN (wr μ 27 m v) := hN.cg (wr_o (by omega)) (wr_o (by omega))
      unfold wp_X11_put b_X11_put_e b_X11_put_61 b_X11_put_96 b_X11_put_131 b_X11_put_166
      rw [isWork_iff hN1, wr_o (by omega)]
      simp only [in_iff, h, h2, h5, forall_eq]
      simp
      have hW := hI.2.1
      refine ⟨?_, hI.setW (fun c hc hn => by rw [wr_ne (by omega), wr_ne (by omega)]) (fun i hi => by rw [wr_o (by omega), wr_o (by omega)]) (fun x hx => ?_)⟩
      · have := hW m h.2
        simp [wr_app]
        omega
      · have hx' : (x : Int) < μ 1 0 := by simpa [wr_app] using hx
        have h9 := hW x hx'
        by_cases e : x = m
        · subst e
          simp [wr_app]
          omega
        · simpa [wr_app, e] using h9
    · unfold wp_X11_put b_X11_put_e b_X11_put_61 b_X11_put_96 b_X11_put_131 b_X11_put_166
      simp only [isFrom_iff, isWork_iff hN, in_iff, h, h2, forall_eq]
      simp
      exact okI hI
  · unfold wp_X11_put b_X11_put_e
    simp only [isWork_iff hN, h, forall_eq]
    simp
    exact okI hI
theorem o_put4 {μ : Mem} {a v : Int} (hI : Inv μ) : wp_X10_put μ a 4 v (fun r μ1 => wp_X11_put μ1 a 4 v (Ok r)) := by
  have hN := hI.1
  have h8 := hN.2.1
  unfold wp_X10_put b_X10_put_e
  have e0 : stv 0 4 = 0 := rfl
  have e1 : stv 1 4 = 2 := rfl
  have e2 : (4 : Int).toNat = 4 := rfl
  rw [has_iff hN]
  simp only [e2, e0, e1]
  by_cases h : 0 ≤ a ∧ a < μ 1 0
  · by_cases h2 : 0 ≤ v ∧ v ≤ 2
    · have h5 : 0 ≤ a ∧ a < 8 := by omega
      simp only [isFrom_iff, h, h2, h5, forall_eq]
      simp
      obtain ⟨m, rfl⟩ := natOf h.1
      have em : ((m : Int)).toNat = m := by omega
      rw [em]
      have hN1 : IN (wr μ 28 m v) := hN.cg (wr_o (by omega)) (wr_o (by omega))
      unfold wp_X11_put b_X11_put_e b_X11_put_61 b_X11_put_96 b_X11_put_131 b_X11_put_166
      rw [isWork_iff hN1, wr_o (by omega)]
      simp only [in_iff, h, h2, h5, forall_eq]
      simp
      have hW := hI.2.1
      refine ⟨?_, hI.setW (fun c hc hn => by rw [wr_ne (by omega), wr_ne (by omega)]) (fun i hi => by rw [wr_o (by omega), wr_o (by omega)]) (fun x hx => ?_)⟩
      · have := hW m h.2
        simp [wr_app]
        omega
      · have hx' : (x : Int) < μ 1 0 := by simpa [wr_app] using hx
        have h9 := hW x hx'
        by_cases e : x = m
        · subst e
          simp [wr_app]
          omega
        · simpa [wr_app, e] using h9
    · unfold wp_X11_put b_X11_put_e b_X11_put_61 b_X11_put_96 b_X11_put_131 b_X11_put_166
      simp only [isFrom_iff, isWork_iff hN, in_iff, h, h2, forall_eq]
      simp
      exact okI hI
  · unfold wp_X11_put b_X11_put_e
    simp only [isWork_iff hN, h, forall_eq]
    simp
    exact okI hI
theorem o_put {μ : Mem} {a w v : Int} (hI : Inv μ) : wp_X10_put μ a w v (fun r μ1 => wp_X11_put μ1 a w v (Ok r)) := by
  by_cases hw : 0 ≤ w ∧ w ≤ 4
  · have : w = 0 ∨ w = 1 ∨ w = 2 ∨ w = 3 ∨ w = 4 := by omega
    rcases this with rfl | rfl | rfl | rfl | rfl
    · exact o_put0 hI
    · exact o_put1 hI
    · exact o_put2 hI
    · exact o_put3 hI
    · exact o_put4 hI
  · have hN := hI.1
    unfold wp_X10_put b_X10_put_e wp_X11_put b_X11_put_e
    rw [has_iff hN]
    by_cases h : 0 ≤ a ∧ a < μ 1 0
    · simp only [isFrom_iff, isWork_iff hN, in_iff, h, hw, forall_eq]
      simp
      exact okI hI
    · simp only [isWork_iff hN, h, forall_eq]
      simp
      exact okI hI
theorem k_step {μ : Mem} {m n : Nat} {b v : Int} {Post : Pst} (hm : m < 2) (hb : 0 ≤ b ∧ b ≤ 5) (hv : 1 ≤ v ∧ v ≤ 20) (hn : μ 86 m = n) (h6 : n < 6) (hp : Post ((n + 1 : Nat) : Int) (wr (wr (wr μ (64 + m) n b) (66 + m) n v) 86 m ((n + 1 : Nat) : Int))) : wp_X10_step μ (m : Int) b v Post := by
  unfold wp_X10_step b_X10_step_e wp_X8_add b_X8_add_e
  have em : ((m : Int)).toNat = m := by omega
  have en : ((n : Int)).toNat = n := by omega
  have g1 : wr (wr μ (64 + m) n b) (66 + m) n v 86 m = (n : Int) := by rw [wr_o (by omega), wr_o (by omega), hn]
  have w1 : wrap ((n : Int) + 1) = ((n + 1 : Nat) : Int) := by rw [wrap_id (by omega) (by omega)]; omega
  have c1 : 0 ≤ (m : Int) ∧ (m : Int) ≤ 1 := by omega
  have c2 : 0 ≤ (m : Int) ∧ (m : Int) < 2 := by omega
  have c3 : 0 ≤ (n : Int) ∧ (n : Int) < 6 := by omega
  have c4 : (n : Int) < 6 := by omega
  simp only [isFrom_iff, em, hn, forall_eq, en, g1, w1, wr_s]
  exact ⟨fun _ => ⟨fun h => absurd h (by decide), fun _ => ⟨fun _ => ⟨fun h => absurd h (by decide), fun _ => ⟨fun _ => ⟨fun _ => ⟨c2, fun _ => ⟨c2, c2, c3, c2, c3, c2, c2, c2, hp⟩, fun h => absurd c4 h⟩, fun h => absurd h (by decide)⟩, fun h => absurd hv h⟩⟩, fun h => absurd hb h⟩⟩, fun h => absurd c1 h⟩
theorem m_step {μ : Mem} {m n : Nat} {b v : Int} {Post : Pst} (hm : m < 2) (hb : 0 ≤ b ∧ b ≤ 5) (hv : 1 ≤ v ∧ v ≤ 20) (hn : μ 101 m = n) (h6 : n < 6) (hp : Post ((n + 1 : Nat) : Int) (wr (wr (wr μ 100 (12 * m + 2 * n) b) 100 (12 * m + 2 * n + 1) v) 101 m ((n + 1 : Nat) : Int))) : wp_X11_step μ (m : Int) b v Post := by
  unfold wp_X11_step b_X11_step_e
  have em : ((m : Int)).toNat = m := by omega
  have w1 : wrap ((n : Int) + 1) = ((n + 1 : Nat) : Int) := by rw [wrap_id (by omega) (by omega)]; omega
  have w2 : wrap (wrap (12 * (m : Int)) + wrap (2 * (n : Int))) = ((12 * m + 2 * n : Nat) : Int) := by rw [wrap_id (x := 12 * (m : Int)) (by omega) (by omega), wrap_id (x := 2 * (n : Int)) (by omega) (by omega), wrap_id (by omega) (by omega)]; omega
  have w3 : wrap (((12 * m + 2 * n : Nat) : Int) + 1) = ((12 * m + 2 * n + 1 : Nat) : Int) := by rw [wrap_id (by omega) (by omega)]; omega
  have t1 : (((12 * m + 2 * n : Nat) : Int)).toNat = 12 * m + 2 * n := by omega
  have t2 : (((12 * m + 2 * n + 1 : Nat) : Int)).toNat = 12 * m + 2 * n + 1 := by omega
  have g1 : wr (wr μ 100 (12 * m + 2 * n) b) 100 (12 * m + 2 * n + 1) v 101 m = (n : Int) := by rw [wr_o (by omega), wr_o (by omega), hn]
  have c1 : 0 ≤ (m : Int) ∧ (m : Int) ≤ 1 := by omega
  have c2 : 0 ≤ (m : Int) ∧ (m : Int) < 2 := by omega
  have c3 : 0 ≤ ((12 * m + 2 * n : Nat) : Int) ∧ ((12 * m + 2 * n : Nat) : Int) < 24 := by omega
  have c5 : 0 ≤ ((12 * m + 2 * n + 1 : Nat) : Int) ∧ ((12 * m + 2 * n + 1 : Nat) : Int) < 24 := by omega
  have c4 : ¬ (n : Int) = 6 := by omega
  simp only [in_iff, em, hn, forall_eq, w2, w3, t1, t2, g1, w1]
  exact ⟨fun _ => ⟨fun h => absurd h (by decide), fun _ => ⟨fun _ => ⟨fun h => absurd h (by decide), fun _ => ⟨fun _ => ⟨fun _ => ⟨c2, fun _ => ⟨c3, c5, c2, c2, hp⟩, fun h => absurd h c4⟩, fun h => absurd h (by decide)⟩, fun h => absurd hv h⟩⟩, fun h => absurd hb h⟩⟩, fun h => absurd c1 h⟩
theorem o_step {μ : Mem} {a b v : Int} (hI : Inv μ) : wp_X10_step μ a b v (fun r μ1 => wp_X11_step μ1 a b v (Ok r)) := by
  have hS := hI.2.2.2.2.2.2.2.1
  by_cases h : 0 ≤ a ∧ a ≤ 1
  · by_cases h2 : 0 ≤ b ∧ b ≤ 5
    · by_cases h4 : 1 ≤ v ∧ v ≤ 20
      · obtain ⟨m, rfl⟩ := natOf h.1
        have hm : m < 2 := by omega
        obtain ⟨s1, s2, s3, s4⟩ := hS m hm
        obtain ⟨n, hn⟩ := natOf s2
        by_cases h6 : n < 6
        · refine k_step hm h2 h4 hn h6 (m_step hm h2 h4 (n := n) (by rw [wr_o (by omega), wr_o (by omega), wr_o (by omega), ← s1, hn]) h6 ⟨rfl, hI.setS (fun c hc hn => by rw [wr_ne (by omega), wr_ne (by omega), wr_ne (by omega), wr_ne (by omega), wr_ne (by omega), wr_ne (by omega)]) (fun i hi => by rw [wr_o (by omega), wr_o (by omega), wr_o (by omega), wr_o (by omega), wr_o (by omega), wr_o (by omega)]) (fun k hk => ?_)⟩)
          obtain ⟨z, hz⟩ : ∃ z : Int, z = ((n + 1 : Nat) : Int) := ⟨_, rfl⟩
          rw [← hz]
          have q := hS k hk
          have e86 : wr (wr (wr (wr (wr (wr μ (64 + m) n b) (66 + m) n v) 86 m z) 100 (12 * m + 2 * n) b) 100 (12 * m + 2 * n + 1) v) 101 m z 86 k = if k = m then z else μ 86 k := by
            rw [wr_o (by omega), wr_o (by omega), wr_o (by omega), wr_app, if_pos rfl]
            split
            · rfl
            · rw [wr_o (by omega), wr_o (by omega)]
          have e101 : wr (wr (wr (wr (wr (wr μ (64 + m) n b) (66 + m) n v) 86 m z) 100 (12 * m + 2 * n) b) 100 (12 * m + 2 * n + 1) v) 101 m z 101 k = if k = m then z else μ 101 k := by
            rw [wr_app, if_pos rfl]
            split
            · rfl
            · rw [wr_o (by omega), wr_o (by omega), wr_o (by omega), wr_o (by omega), wr_o (by omega)]
          have e64 : ∀ i, wr (wr (wr (wr (wr (wr μ (64 + m) n b) (66 + m) n v) 86 m z) 100 (12 * m + 2 * n) b) 100 (12 * m + 2 * n + 1) v) 101 m z (64 + k) i = if k = m ∧ i = n then b else μ (64 + k) i := by
            intro i
            rw [wr_o (by omega), wr_o (by omega), wr_o (by omega), wr_o (by omega), wr_o (by omega), wr_app]
            by_cases hkm : k = m
            · subst hkm
              rw [if_pos rfl]
              simp
            · rw [if_neg (by omega), if_neg (by omega)]
          have e66 : ∀ i, wr (wr (wr (wr (wr (wr μ (64 + m) n b) (66 + m) n v) 86 m z) 100 (12 * m + 2 * n) b) 100 (12 * m + 2 * n + 1) v) 101 m z (66 + k) i = if k = m ∧ i = n then v else μ (66 + k) i := by
            intro i
            rw [wr_o (by omega), wr_o (by omega), wr_o (by omega), wr_o (by omega), wr_app]
            by_cases hkm : k = m
            · subst hkm
              rw [if_pos rfl]
              by_cases hin : i = n
              · simp [hin]
              · rw [if_neg hin, if_neg (by omega), wr_o (by omega)]
            · rw [if_neg (by omega), if_neg (by omega), wr_o (by omega)]
          have e100 : ∀ i, wr (wr (wr (wr (wr (wr μ (64 + m) n b) (66 + m) n v) 86 m z) 100 (12 * m + 2 * n) b) 100 (12 * m + 2 * n + 1) v) 101 m z 100 i = if i = 12 * m + 2 * n + 1 then v else if i = 12 * m + 2 * n then b else μ 100 i := by
            intro i
            rw [wr_o (by omega), wr_app, if_pos rfl]
            split
            · rfl
            · rw [wr_app, if_pos rfl]
              split
              · rfl
              · rw [wr_o (by omega), wr_o (by omega), wr_o (by omega)]
          rw [e86, e101]
          by_cases hkm : k = m
          · subst hkm
            rw [if_pos rfl, if_pos rfl]
            refine ⟨rfl, by omega, by omega, fun i hi => ?_⟩
            rw [e64, e66, e100, e100]
            by_cases hin : i = n
            · subst hin
              simp
              omega
            · rw [if_neg (by omega), if_neg (by omega), if_neg (by omega), if_neg (by omega), if_neg (by omega), if_neg (by omega)]
              exact q.2.2.2 i (by omega)
          · rw [if_neg hkm, if_neg hkm]
            refine ⟨q.1, q.2.1, q.2.2.1, fun i hi => ?_⟩
            have h9 := q.2.2.2 i hi
            have h8 := q.2.2.1
            rw [e64, e66, e100, e100, if_neg (by omega), if_neg (by omega), if_neg (by omega), if_neg (by omega), if_neg (by omega), if_neg (by omega)]
            exact h9
        · have hn6 : n = 6 := by omega
          subst hn6
          have em : ((m : Int)).toNat = m := by omega
          have g1 : μ 101 m = 6 := by rw [← s1, hn]; rfl
          unfold wp_X10_step b_X10_step_e wp_X11_step b_X11_step_e
          have c2 : 0 ≤ (m : Int) ∧ (m : Int) < 2 := by omega
          simp only [isFrom_iff, in_iff, h, h2, h4, em, hn, g1, c2, forall_eq]
          simp
          exact okI hI
      · unfold wp_X10_step b_X10_step_e wp_X11_step b_X11_step_e
        simp only [isFrom_iff, in_iff, h, h2, h4, forall_eq]
        simp
        exact okI hI
    · unfold wp_X10_step b_X10_step_e wp_X11_step b_X11_step_e
      simp only [isFrom_iff, in_iff, h, h2, forall_eq]
      simp
      exact okI hI
  · unfold wp_X10_step b_X10_step_e wp_X11_step b_X11_step_e
    simp only [isFrom_iff, in_iff, h, forall_eq]
    simp
    exact okI hI
