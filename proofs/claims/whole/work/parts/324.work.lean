/-! next and work. -/
def fillM (μ : Mem) (c n : Nat) (v : Int) : Mem := fun x => if x = c then (fun j => if j < n then v else μ c j) else μ x
theorem fillM_app (μ : Mem) (c n : Nat) (v : Int) (a j : Nat) : fillM μ c n v a j = if a = c then (if j < n then v else μ c j) else μ a j := by
  unfold fillM
  by_cases h : a = c
  · rw [if_pos h, if_pos h]
  · rw [if_neg h, if_neg h]
theorem fillM_0 (μ : Mem) (c : Nat) (v : Int) : fillM μ c 0 v = μ := by
  funext a j
  rw [fillM_app]
  by_cases h : a = c
  · subst h; simp
  · rw [if_neg h]
theorem fillM_s (μ : Mem) (c n : Nat) (v : Int) : wr (fillM μ c n v) c n v = fillM μ c (n + 1) v := by
  funext a j
  by_cases h : a = c
  · subst h
    rw [wr_app, if_pos rfl, fillM_app, fillM_app, if_pos rfl, if_pos rfl]
    by_cases h1 : j = n
    · rw [if_pos h1, if_pos (by omega)]
    · rw [if_neg h1]
      by_cases h2 : j < n
      · rw [if_pos h2, if_pos (by omega)]
      · rw [if_neg h2, if_neg (by omega)]
  · rw [wr_o h, fillM_app, fillM_app, if_neg h, if_neg h]
theorem fillM_ne {μ : Mem} {c n d : Nat} {v : Int} (h : d ≠ c) : fillM μ c n v d = μ d := by unfold fillM; rw [if_neg h]
theorem s_fill {μ : Mem} {c : Nat} {v : Int} {Post : Pst} (h1 : 24 ≤ c) (h2 : c < 112) (hl : len c ≤ 100000) (hp : Post 0 (fillM μ c (len c) v)) : wp_J7_fill_53178 μ c v Post := by
  intro G5 hG
  refine ⟨⟨h1, h2⟩, fun x hx => ?_⟩
  subst hx
  have loop : ∀ k i : Nat, i + k = len c → G5 (fillM μ c i v) c v (i : Int) (len c : Int) := by
    intro k
    induction k with
    | zero =>
      intro i hi
      have : i = len c := by omega
      subst this
      exact hG _ _ _ _ _ ⟨fun _ => hp, fun h => absurd (Int.le_refl _) h⟩
    | succ k ih =>
      intro i hi
      refine hG _ _ _ _ _ ⟨fun h => by omega, fun _ => ⟨⟨h1, h2, by omega, by omega⟩, ?_⟩⟩
      intro m1 e1 x1 e2
      rw [e1, e2, wrap_id (by omega) (by omega), show ((i : Int)).toNat = i by omega, fillM_s]
      have := ih (i + 1) (by omega)
      simpa using this
  have := loop (len c) 0 (by omega)
  rw [fillM_0] at this
  exact this
theorem k_work {μ : Mem} {n : Nat} {a : Int} {Post : Pst} (hn : μ 1 0 = n) (h8 : n < 8) (ha : 1 ≤ a ∧ a ≤ 40) (hp : Post (n : Int) (wr (wr (fillM (wr (wr (wr (wr (wr (wr μ 24 n 1) 25 n 0) 26 n 300) 27 n 1) 28 n 0) 24 n a) (32 + n) 4 1) (32 + n) 0 a) 1 0 ((n + 1 : Nat) : Int))) : wp_X10_work μ a Post := by
  unfold wp_X10_work b_X10_work_e
  have e0 : stv 0 ((0 : Int).toNat) = 1 := rfl
  have e1 : stv 1 ((0 : Int).toNat) = 40 := rfl
  rw [e0, e1, isFrom_iff, hn]
  refine ⟨fun _ => ⟨fun _ => ⟨fun _ => ?_, fun h => absurd (show (n : Int) < 8 by omega) h⟩, fun h => absurd h (by decide)⟩, fun h => absurd ha h⟩
  intro G7 h
  have hn8 : 0 ≤ (n : Int) ∧ (n : Int) < 8 := by omega
  have en : ((n : Int)).toNat = n := by omega
  refine fun x hx => ?_
  rw [hn] at hx
  subst hx
  · have s0 : stv 2 ((0 : Int).toNat) = 1 := rfl
    refine h _ _ _ _ ⟨fun hk => absurd hk (by decide), fun _ => ⟨by decide, by decide, hn8, ?_⟩⟩
    rintro _ rfl _ rfl
    rw [show wrap (0 + 1) = 1 from by decide, en]
    refine h _ _ _ _ ⟨fun hk => absurd hk (by decide), fun _ => ⟨by decide, by decide, hn8, ?_⟩⟩
    rintro _ rfl _ rfl
    rw [show wrap (1 + 1) = 2 from by decide, en]
    refine h _ _ _ _ ⟨fun hk => absurd hk (by decide), fun _ => ⟨by decide, by decide, hn8, ?_⟩⟩
    rintro _ rfl _ rfl
    rw [show wrap (2 + 1) = 3 from by decide, en]
    refine h _ _ _ _ ⟨fun hk => absurd hk (by decide), fun _ => ⟨by decide, by decide, hn8, ?_⟩⟩
    rintro _ rfl _ rfl
    rw [show wrap (3 + 1) = 4 from by decide, en]
    refine h _ _ _ _ ⟨fun hk => absurd hk (by decide), fun _ => ⟨by decide, by decide, hn8, ?_⟩⟩
    rintro _ rfl _ rfl
    rw [show wrap (4 + 1) = 5 from by decide, en]
    refine h _ _ _ _ ⟨fun _ => ⟨hn8, ?_⟩, fun hk => absurd (by decide) hk⟩
    rintro _ rfl
    refine ⟨hn8, ?_⟩
    rw [en]
    have hlen : len (32 + n) = 4 := by
      have e : ∀ m, m < 8 → len (32 + m) = 4 := by decide
      exact e n h8
    refine s_fill (by omega) (by omega) (by rw [hlen]; decide) ?_
    rw [hlen]
    refine ⟨hn8, ?_⟩
    rintro _ rfl _ rfl
    have g1 : wr (fillM (wr (wr (wr (wr (wr (wr μ 24 n 1) 25 n 0) 26 n 300) 27 n 1) 28 n 0) 24 n a) (32 + n) 4 1) (32 + n) 0 a 1 0 = (n : Int) := by
      rw [wr_o (by omega), fillM_ne (by omega)]
      rw [wr_o (by omega), wr_o (by omega), wr_o (by omega), wr_o (by omega), wr_o (by omega), wr_o (by omega), hn]
    have w1 : wrap ((n : Int) + 1) = ((n + 1 : Nat) : Int) := by rw [wrap_id (by omega) (by omega)]; omega
    show Post (n : Int) (wr (wr (fillM (wr (wr (wr (wr (wr (wr μ 24 n 1) 25 n 0) 26 n 300) 27 n 1) 28 n 0) 24 n a) (32 + n) 4 1) (32 + n) 0 a) 1 0 (wrap (wr (fillM (wr (wr (wr (wr (wr (wr μ 24 n 1) 25 n 0) 26 n 300) 27 n 1) 28 n 0) 24 n a) (32 + n) 4 1) (32 + n) 0 a 1 0 + 1)))
    rw [g1, w1]
    exact hp
theorem m_work {μ : Mem} {n : Nat} {a : Int} {Post : Pst} (hn : μ 11 0 = n) (h8 : n < 8) (ha : 1 ≤ a ∧ a ≤ 40) (hp : Post (n : Int) (wr (wr (wr (wr (wr (wr (wr (wr (wr (wr (wr μ 90 n a) 91 n 0) 92 n 300) 93 n 1) 94 n 0) 95 n 0) 97 (4 * n + 0) a) 97 (4 * n + 1) 1) 97 (4 * n + 2) 1) 97 (4 * n + 3) 1) 11 0 ((n + 1 : Nat) : Int))) : wp_X11_work μ a Post := by
  intro G91 hG
  unfold b_X11_work_e
  rw [in_iff]
  have hn8 : 0 ≤ (n : Int) ∧ (n : Int) < 8 := by omega
  have en : ((n : Int)).toNat = n := by omega
  have hidx : ∀ k : Int, 0 ≤ k ∧ k < 4 → 0 ≤ wrap (wrap (4 * (n : Int)) + k) ∧ wrap (wrap (4 * (n : Int)) + k) < 32 := fun k hk => by
    rw [wrap_id (x := 4 * (n : Int)) (by omega) (by omega), wrap_id (by omega) (by omega)]; omega
  have hix : ∀ k : Int, 0 ≤ k ∧ k < 4 → (wrap (wrap (4 * (n : Int)) + k)).toNat = 4 * n + k.toNat := fun k hk => by
    rw [wrap_id (x := 4 * (n : Int)) (by omega) (by omega), wrap_id (by omega) (by omega)]; omega
  have w1 : wrap ((n : Int) + 1) = ((n + 1 : Nat) : Int) := by rw [wrap_id (by omega) (by omega)]; omega
  have w2 : wrap (((n + 1 : Nat) : Int) - 1) = (n : Int) := by rw [wrap_id (by omega) (by omega)]; omega
  refine ⟨fun _ => ⟨fun _ => ⟨fun _ => ?_, fun h => by rw [hn] at h; omega⟩, fun h => absurd h (by decide)⟩, fun h => absurd ha h⟩
  rw [hn, en]
  refine ⟨hn8, ?_⟩
  rintro _ rfl
  have g0 : (wr μ 90 n a) 11 0 = (n : Int) := by rw [wr_o (by decide), hn]
  rw [g0]
  refine ⟨hn8, ?_⟩
  rintro _ rfl
  rw [en]
  have g1 : (wr (wr μ 90 n a) 91 n 0) 11 0 = (n : Int) := by rw [wr_o (by decide) , wr_o (by decide), hn]
  rw [g1]
  refine ⟨hn8, ?_⟩
  rintro _ rfl
  rw [en]
  have g2 : (wr (wr (wr μ 90 n a) 91 n 0) 92 n 300) 11 0 = (n : Int) := by rw [wr_o (by decide) , wr_o (by decide) , wr_o (by decide), hn]
  rw [g2]
  refine ⟨hn8, ?_⟩
  rintro _ rfl
  rw [en]
  have g3 : (wr (wr (wr (wr μ 90 n a) 91 n 0) 92 n 300) 93 n 1) 11 0 = (n : Int) := by rw [wr_o (by decide) , wr_o (by decide) , wr_o (by decide) , wr_o (by decide), hn]
  rw [g3]
  refine ⟨hn8, ?_⟩
  rintro _ rfl
  rw [en]
  have g4 : (wr (wr (wr (wr (wr μ 90 n a) 91 n 0) 92 n 300) 93 n 1) 94 n 0) 11 0 = (n : Int) := by rw [wr_o (by decide) , wr_o (by decide) , wr_o (by decide) , wr_o (by decide) , wr_o (by decide), hn]
  rw [g4]
  refine ⟨hn8, ?_⟩
  rintro _ rfl
  rw [en]
  have g5 : (wr (wr (wr (wr (wr (wr μ 90 n a) 91 n 0) 92 n 300) 93 n 1) 94 n 0) 95 n 0) 11 0 = (n : Int) := by rw [wr_o (by decide) , wr_o (by decide) , wr_o (by decide) , wr_o (by decide) , wr_o (by decide) , wr_o (by decide), hn]
  refine hG _ _ _ ⟨fun hk => absurd hk (by decide), fun _ => ⟨fun h0 => absurd rfl h0, fun _ => ?_⟩⟩
  rw [g5]
  refine ⟨hidx 0 (by decide), ?_⟩
  rintro _ rfl _ rfl
  rw [hix 0 (by decide), show wrap (0 + 1) = 1 from by decide, show (0 : Int).toNat = 0 from rfl]
  have g6 : (wr (wr (wr (wr (wr (wr (wr μ 90 n a) 91 n 0) 92 n 300) 93 n 1) 94 n 0) 95 n 0) 97 (4 * n + 0) a) 11 0 = (n : Int) := by rw [wr_o (by decide)]; exact g5
  refine hG _ _ _ ⟨fun hk => absurd hk (by decide), fun _ => ⟨fun _ => ?_, fun h0 => absurd h0 (by decide)⟩⟩
  rw [g6]
  refine ⟨hidx 1 (by decide), ?_⟩
  rintro _ rfl _ rfl
  rw [hix 1 (by decide), show wrap (1 + 1) = 2 from by decide, show (1 : Int).toNat = 1 from rfl]
  have g7 : (wr (wr (wr (wr (wr (wr (wr (wr μ 90 n a) 91 n 0) 92 n 300) 93 n 1) 94 n 0) 95 n 0) 97 (4 * n + 0) a) 97 (4 * n + 1) 1) 11 0 = (n : Int) := by rw [wr_o (by decide)]; exact g6
  refine hG _ _ _ ⟨fun hk => absurd hk (by decide), fun _ => ⟨fun _ => ?_, fun h0 => absurd h0 (by decide)⟩⟩
  rw [g7]
  refine ⟨hidx 2 (by decide), ?_⟩
  rintro _ rfl _ rfl
  rw [hix 2 (by decide), show wrap (2 + 1) = 3 from by decide, show (2 : Int).toNat = 2 from rfl]
  have g8 : (wr (wr (wr (wr (wr (wr (wr (wr (wr μ 90 n a) 91 n 0) 92 n 300) 93 n 1) 94 n 0) 95 n 0) 97 (4 * n + 0) a) 97 (4 * n + 1) 1) 97 (4 * n + 2) 1) 11 0 = (n : Int) := by rw [wr_o (by decide)]; exact g7
  refine hG _ _ _ ⟨fun hk => absurd hk (by decide), fun _ => ⟨fun _ => ?_, fun h0 => absurd h0 (by decide)⟩⟩
  rw [g8]
  refine ⟨hidx 3 (by decide), ?_⟩
  rintro _ rfl _ rfl
  rw [hix 3 (by decide), show wrap (3 + 1) = 4 from by decide, show (3 : Int).toNat = 3 from rfl]
  have g9 : (wr (wr (wr (wr (wr (wr (wr (wr (wr (wr μ 90 n a) 91 n 0) 92 n 300) 93 n 1) 94 n 0) 95 n 0) 97 (4 * n + 0) a) 97 (4 * n + 1) 1) 97 (4 * n + 2) 1) 97 (4 * n + 3) 1) 11 0 = (n : Int) := by rw [wr_o (by decide)]; exact g8
  refine hG _ _ _ ⟨fun _ => ?_, fun hk => absurd (by decide) hk⟩
  rintro _ rfl
  rw [wr_s, g9, w1, w2]
  exact hp
