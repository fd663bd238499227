/-! Trees: what is free, the highest, the level. -/
theorem Inv.l {μ : Mem} (h : Inv μ) : ∃ N q : Nat, μ 10 0 = N ∧ μ 11 15 = N ∧ N ≤ 12 ∧ μ 10 1 = q ∧ μ 11 17 = q ∧ 1 ≤ q ∧ q ≤ 4 ∧ (∀ i, i < N → μ 102 i = μ 88 i ∧ -1 ≤ μ 88 i ∧ μ 88 i < i) ∧ (∀ i, i < N → μ 89 i = if μ 88 i = -1 then 1 else μ 89 (μ 88 i).toNat + 1) ∧ (∀ i : Nat, i < N → 1 ≤ μ 89 i ∧ μ 89 i ≤ i + 1) := by
  obtain ⟨l1, l2, l3, l4, l5, l6, l7⟩ := h.2.2.2.2.2.2.2.2
  obtain ⟨N, hN⟩ := natOf l2
  obtain ⟨q, hq⟩ := natOf (a := μ 10 1) (by omega)
  refine ⟨N, q, hN, by omega, by omega, hq, by omega, by omega, by omega, fun i hi => ?_, fun i hi => (l7 i (by omega)).2.2.2, fun i => ?_⟩
  · have := l7 i (by omega)
    exact ⟨this.1.symm, this.2.1, this.2.2.1⟩
  · induction i using Nat.strongRecOn with
    | ind i ih =>
      intro hi
      have t := l7 i (by omega)
      have e := t.2.2.2
      by_cases c : μ 88 i = -1
      · rw [if_pos c] at e; omega
      · rw [if_neg c] at e
        have := ih (μ 88 i).toNat (by omega) (by omega)
        omega
/-- those on which one hangs that isn't done -/
def wtg (h : Nat → Int) (D : Nat) : Nat → Nat
  | 0 => 0
  | i + 1 => if D.testBit i = true ∨ h i = -1 then wtg h D i else wtg h D i ||| 2 ^ (h i).toNat
theorem wtg_bit {h : Nat → Int} {D u : Nat} (i : Nat) (hh : ∀ j, j < i → -1 ≤ h j) : (wtg h D i).testBit u = true ↔ ∃ j, j < i ∧ D.testBit j = false ∧ h j = u := by
  induction i with
  | zero => simp [wtg]
  | succ i ih =>
    have ih' := ih (fun j hj => hh j (by omega))
    have hi := hh i (by omega)
    unfold wtg
    by_cases c : D.testBit i = true ∨ h i = -1
    · rw [if_pos c, ih']
      constructor
      · rintro ⟨j, h1, h2, h3⟩; exact ⟨j, by omega, h2, h3⟩
      · rintro ⟨j, h1, h2, h3⟩
        by_cases e : j = i
        · rw [e] at h2 h3
          rcases c with c | c
          · rw [c] at h2; cases h2
          · omega
        · exact ⟨j, by omega, h2, h3⟩
    · rw [if_neg c, Nat.testBit_or, Bool.or_eq_true, ih', Nat.testBit_two_pow, decide_eq_true_eq]
      constructor
      · rintro (⟨j, h1, h2, h3⟩ | e)
        · exact ⟨j, by omega, h2, h3⟩
        · refine ⟨i, by omega, ?_, by omega⟩
          cases hc : D.testBit i with
          | false => rfl
          | true => exact absurd (Or.inl hc) c
      · rintro ⟨j, h1, h2, h3⟩
        by_cases e : j = i
        · rw [e] at h3; right; omega
        · exact Or.inl ⟨j, by omega, h2, h3⟩
def FB (h : Nat → Int) (N D : Nat) : Nat := ndf (ndf (2 ^ N - 1) D) (wtg h D N)
theorem FB_bit {h : Nat → Int} {N D u : Nat} (hh : ∀ j, j < N → -1 ≤ h j) : (FB h N D).testBit u = true ↔ u < N ∧ D.testBit u = false ∧ ∀ j, j < N → h j = u → D.testBit j = true := by
  unfold FB
  rw [ndf_bit, ndf_bit, all_bit, Bool.and_eq_true, Bool.and_eq_true, decide_eq_true_eq, Bool.not_eq_true', Bool.not_eq_true']
  constructor
  · rintro ⟨⟨h1, h2⟩, h3⟩
    refine ⟨h1, h2, fun j hj e => ?_⟩
    cases hc : D.testBit j with
    | true => rfl
    | false =>
      rw [(wtg_bit N hh).mpr ⟨j, hj, hc, e⟩] at h3
      cases h3
  · rintro ⟨h1, h2, h3⟩
    refine ⟨⟨h1, h2⟩, ?_⟩
    cases hc : (wtg h D N).testBit u with
    | false => rfl
    | true =>
      obtain ⟨j, hj, h4, e⟩ := (wtg_bit N hh).mp hc
      rw [h3 j hj e] at h4
      cases h4
theorem FB_lt {h : Nat → Int} {N D : Nat} : FB h N D < 2 ^ N := by
  have p0 : 0 < 2 ^ N := Nat.pow_pos (by decide)
  have h1 := ndf_le (ndf (2 ^ N - 1) D) (wtg h D N)
  have h2 := ndf_le (2 ^ N - 1) D
  unfold FB
  omega
theorem pow12 {N : Nat} (h : N ≤ 12) : 2 ^ N ≤ 4096 := Nat.pow_le_pow_right (n := 2) (j := 12) (by decide) h
theorem k_allL {μ : Mem} {N : Nat} (hN : μ 10 0 = N) (h12 : N ≤ 12) {Post : Pst} (hp : Post ((2 ^ N - 1 : Nat) : Int) μ) : wp_X7_all μ Post := by
  unfold wp_X7_all b_X7_all_e
  have p8 := pow12 h12
  have p0 : 0 < 2 ^ N := Nat.pow_pos (by decide)
  rw [hN, ishl_n (by omega), wrap_id (by omega) (by omega)]
  rw [show ((2 ^ N - 1 : Nat) : Int) = ((2 ^ N : Nat) : Int) - 1 by omega] at hp
  exact hp
theorem wtg_lt {h : Nat → Int} {D N i : Nat} (hh : ∀ j, j < i → -1 ≤ h j ∧ h j < N) : wtg h D i < 2 ^ N := lt_of_bits (fun u hu => by
  obtain ⟨j, hj, -, e⟩ := (wtg_bit i (fun j hj => (hh j hj).1)).mp hu
  have := hh j hj
  omega)
theorem k_free {μ : Mem} {N D : Nat} {h : Nat → Int} (hN : μ 10 0 = N) (h12 : N ≤ 12) (hD : D < 4096) (hh : ∀ i, i < N → μ 88 i = h i) (hb : ∀ i : Nat, i < N → -1 ≤ h i ∧ h i < i) {Post : Pst} (hp : Post (FB h N D : Int) μ) : wp_X7_freeBehind μ (D : Int) Post := by
  unfold wp_X7_freeBehind b_X7_freeBehind_e
  intro G hG
  have p8 := pow12 h12
  have p0 : 0 < 2 ^ N := Nat.pow_pos (by decide)
  refine upTo (P := fun i => G μ (D : Int) (wtg h D i : Int) (i : Int)) (n := N) ?_ ?_
  · refine hG _ _ _ _ ⟨fun _ => k_allL hN h12 ?_, fun h' => absurd h' (by omega)⟩
    have w := wtg_lt (h := h) (D := D) (N := N) (i := N) (fun j hj => ⟨(hb j hj).1, by have := (hb j hj).2; omega⟩)
    have n1 := ndf_le (2 ^ N - 1) D
    rw [iandn_n (by omega) (by omega), iandn_n (by omega) (by omega)]
    exact hp
  · intro i hi ih
    have w := wtg_lt (h := h) (D := D) (N := N) (i := i) (fun j hj => ⟨(hb j (by omega)).1, by have := (hb j (by omega)).2; omega⟩)
    have b := hb i hi
    rw [cs] at ih
    unfold wtg at ih
    refine hG _ _ _ _ ⟨fun h' => absurd h' (by omega), fun _ => s_isIn (by omega) (by omega) ?_⟩
    unfold b_X7_freeBehind_41
    rw [wrap_id (by omega) (by omega), tn, hh i hi]
    cases hc : D.testBit i with
    | true =>
      rw [if_pos (Or.inl hc)] at ih
      refine ⟨fun _ => ?_, fun h' => absurd h' (by decide)⟩
      rintro _ rfl
      exact ih
    | false =>
      refine ⟨fun h' => absurd rfl h', fun _ => ⟨by omega, fun c => ?_, fun c => ⟨by omega, ?_⟩⟩⟩
      · rw [if_pos (Or.inr c)] at ih
        rintro _ rfl
        exact ih
      · rw [if_neg (by rw [hc]; simp; exact c)] at ih
        obtain ⟨y, hy⟩ := natOf (a := h i) (by omega)
        rw [hy, tn] at ih
        rw [hy, ishl_n (by omega), ior_n (by omega) (pow_lt31 (by omega))]
        rintro _ rfl _ rfl
        exact ih
/-- free as the other side finds it, of the first k -/
def fbR (h : Nat → Int) (N D : Nat) : Nat → Nat
  | 0 => 0
  | k + 1 => if (FB h N D).testBit k then fbR h N D k ||| 2 ^ k else fbR h N D k
theorem fbR_bit {h : Nat → Int} {N D u : Nat} (k : Nat) : (fbR h N D k).testBit u = true ↔ u < k ∧ (FB h N D).testBit u = true := by
  induction k with
  | zero => simp [fbR]
  | succ k ih =>
    unfold fbR
    cases hc : (FB h N D).testBit k with
    | true =>
      rw [if_pos rfl, Nat.testBit_or, Bool.or_eq_true, ih, Nat.testBit_two_pow, decide_eq_true_eq]
      constructor
      · rintro (⟨h1, h2⟩ | e)
        · exact ⟨by omega, h2⟩
        · rw [← e]; exact ⟨by omega, hc⟩
      · rintro ⟨h1, h2⟩
        by_cases e : u = k
        · exact Or.inr e.symm
        · exact Or.inl ⟨by omega, h2⟩
    | false =>
      rw [if_neg (by decide), ih]
      constructor
      · rintro ⟨h1, h2⟩; exact ⟨by omega, h2⟩
      · rintro ⟨h1, h2⟩
        by_cases e : u = k
        · rw [e, hc] at h2; cases h2
        · exact ⟨by omega, h2⟩
theorem fbR_all {h : Nat → Int} {N D : Nat} (hh : ∀ j, j < N → -1 ≤ h j) : fbR h N D N = FB h N D := by
  apply Nat.eq_of_testBit_eq
  intro u
  cases hc : (FB h N D).testBit u with
  | true => exact (fbR_bit N).mpr ⟨((FB_bit hh).mp hc).1, hc⟩
  | false =>
    cases hd : (fbR h N D N).testBit u with
    | false => rfl
    | true => rw [((fbR_bit N).mp hd).2] at hc; cases hc
theorem m_free {μ : Mem} {N D : Nat} {h : Nat → Int} (hN : μ 11 15 = N) (h12 : N ≤ 12) (hD : D < 4096) (hh : ∀ i, i < N → μ 102 i = h i) (hb : ∀ i : Nat, i < N → -1 ≤ h i ∧ h i < i) {Post : Pst} (hp : Post (FB h N D : Int) μ) : wp_X11_freeBehind μ (D : Int) Post := by
  unfold wp_X11_freeBehind b_X11_freeBehind_e
  intro G4 G30 h4 h30
  have p8 := pow12 h12
  have p0 : 0 < 2 ^ N := Nat.pow_pos (by decide)
  have hb1 : ∀ j, j < N → -1 ≤ h j := fun j hj => (hb j hj).1
  refine upTo (P := fun w => G4 μ (D : Int) (fbR h N D w : Int) (w : Int)) (n := N) ?_ ?_
  · refine h4 _ _ _ _ ⟨fun _ => ?_, fun h' => absurd h' (by omega)⟩
    rw [fbR_all hb1]; exact hp
  · intro w hw ih
    have fl : fbR h N D w < 2 ^ N := lt_of_bits (fun u hu => by have := ((fbR_bit w).mp hu).1; omega)
    rw [cs] at ih
    unfold fbR at ih
    -- the inner loop: may it, so far
    have inner : ∀ s : Int, s = (if D.testBit w = false then 1 else 0) → b_X11_freeBehind_25 G4 G30 Post μ (D : Int) (fbR h N D w : Int) (w : Int) s := by
      intro s hs
      unfold b_X11_freeBehind_25
      refine upTo (P := fun o => ∀ s : Int, ((s = 1 ∧ D.testBit w = false ∧ ∀ j, j < o → h j = w → D.testBit j = true) ∨ (s = 0 ∧ ¬ (D.testBit w = false ∧ ∀ j, j < o → h j = w → D.testBit j = true))) → G30 μ (D : Int) (fbR h N D w : Int) (w : Int) s (o : Int)) (n := N) ?_ ?_ s ?_
      · intro s hs
        refine h30 _ _ _ _ _ _ ⟨fun _ => ?_, fun h' => absurd h' (by omega)⟩
        unfold b_X11_freeBehind_91
        rw [wrap_id (by omega) (by omega)]
        rcases hs with ⟨e, h1, h2⟩ | ⟨e, hno⟩
        · rw [if_pos ((FB_bit hb1).mpr ⟨hw, h1, h2⟩)] at ih
          refine ⟨fun h' => by omega, fun _ => ?_⟩
          rw [ishl_n (by omega), ior_n (by omega) (pow_lt31 (by omega))]
          rintro _ rfl _ rfl
          exact ih
        · rw [if_neg (fun hc => hno ((FB_bit hb1).mp hc).2)] at ih
          refine ⟨fun _ => ?_, fun h' => by omega⟩
          rw [show (0 : Int) = ((0 : Nat) : Int) from rfl, ior_n (by omega) (by omega), Nat.or_zero]
          rintro _ rfl _ rfl
          exact ih
      · intro o ho iho s hs
        refine h30 _ _ _ _ _ _ ⟨fun h' => absurd h' (by omega), fun _ => ?_⟩
        unfold b_X11_freeBehind_69 b_X11_freeBehind_65 b_X11_freeBehind_70
        rw [wrap_id (by omega) (by omega), tn, hh o ho, bit1_n (by omega) (by omega), ← cs]
        have no : ¬ (D.testBit w = false ∧ ∀ j, j < o + 1 → h j = w → D.testBit j = true) → ∀ x_1 : Int, x_1 = ((o + 1 : Nat) : Int) → G30 μ (D : Int) (fbR h N D w : Int) (w : Int) 0 x_1 := by
          intro hno
          rintro _ rfl
          exact iho 0 (Or.inr ⟨rfl, hno⟩)
        rcases hs with ⟨e, h1, h2⟩ | ⟨e, hno⟩
        · have yes : (h o = w → D.testBit o = true) → ∀ x_1 : Int, x_1 = ((o + 1 : Nat) : Int) → G30 μ (D : Int) (fbR h N D w : Int) (w : Int) 1 x_1 := by
            intro hy
            rintro _ rfl
            refine iho 1 (Or.inl ⟨rfl, h1, fun j hj e => ?_⟩)
            by_cases c : j = o
            · rw [c] at e ⊢; exact hy e
            · exact h2 j (by omega) e
          refine ⟨fun h' => by omega, fun _ => ⟨by omega, fun c => yes (fun e => absurd e c), fun c => ⟨fun c2 => no (fun hc => ?_), fun c2 => yes (fun _ => ?_)⟩⟩⟩
          · rw [hc.2 o (by omega) c] at c2
            exact c2 rfl
          · cases hc : D.testBit o with
            | true => rfl
            | false => rw [hc] at c2; exact absurd c2 (by decide)
        · exact ⟨fun _ => no (fun hc => hno ⟨hc.1, fun j hj => hc.2 j (by omega)⟩), fun h' => absurd e h'⟩
      · rw [hs]
        cases hc : D.testBit w with
        | false => exact Or.inl ⟨by rw [if_pos rfl], rfl, fun j hj => by omega⟩
        | true => exact Or.inr ⟨by rw [if_neg (by decide)], fun hh => by cases hh.1⟩
    refine h4 _ _ _ _ ⟨fun h' => absurd h' (by omega), fun _ => ?_⟩
    rw [bit1_n (by omega) (by omega)]
    cases hc : D.testBit w with
    | true => exact ⟨fun _ => inner 0 (by rw [hc, if_neg (by decide)]), fun h' => absurd h' (by decide)⟩
    | false => exact ⟨fun h' => absurd rfl h', fun _ => inner 1 (by rw [hc, if_pos rfl])⟩
theorem m_level {μ : Mem} {N w : Nat} {h lv : Nat → Int} (h12 : N ≤ 12) (hw : w < N) (hh : ∀ i, i < N → μ 102 i = h i) (hb : ∀ i : Nat, i < N → -1 ≤ h i ∧ h i < i) (hl : ∀ i, i < N → lv i = if h i = -1 then 1 else lv (h i).toNat + 1) (hlb : ∀ i : Nat, i < N → 1 ≤ lv i ∧ lv i ≤ i + 1) {Post : Pst} (hp : Post (lv w) μ) : wp_X11_levelOf μ (w : Int) Post := by
  unfold wp_X11_levelOf b_X11_levelOf_e
  intro G hG
  have key : ∀ x : Nat, x < N → ∀ v : Int, v + lv x - 1 = lv w → G μ v (x : Int) := by
    intro x
    induction x using Nat.strongRecOn with
    | ind x ih =>
      intro hx v hv
      have b := hb x hx
      have l := hl x hx
      have lb := hlb x hx
      have lbw := hlb w hw
      refine hG _ _ _ ⟨by omega, ?_⟩
      rw [tn, hh x hx]
      refine ⟨fun c => ?_, fun c => ⟨by omega, ?_⟩⟩
      · rw [if_pos c] at l
        rw [show v = lv w by omega]
        exact hp
      · rw [if_neg c] at l
        obtain ⟨y, hy⟩ := natOf (a := h x) (by omega)
        rw [hy, tn] at l
        rw [hy, wrap_id (by omega) (by omega)]
        rintro _ rfl _ rfl
        exact ih y (by omega) (by omega) _ (by omega)
  exact key w hw 1 (by omega)
/-- the highest, the first of such -/
def hgo (lv : Nat → Int) (F : Nat) : Nat → Int
  | 0 => -1
  | i + 1 => if F.testBit i = true ∧ (hgo lv F i = -1 ∨ lv (hgo lv F i).toNat < lv i) then (i : Int) else hgo lv F i
theorem hgo_rng {lv : Nat → Int} {F : Nat} (i : Nat) : (hgo lv F i = -1 ∧ ∀ j, j < i → F.testBit j = false) ∨ ∃ x : Nat, hgo lv F i = x ∧ x < i ∧ F.testBit x = true := by
  induction i with
  | zero => exact Or.inl ⟨rfl, fun j hj => by omega⟩
  | succ i ih =>
    unfold hgo
    by_cases c : F.testBit i = true ∧ (hgo lv F i = -1 ∨ lv (hgo lv F i).toNat < lv i)
    · rw [if_pos c]
      exact Or.inr ⟨i, rfl, by omega, c.1⟩
    · rw [if_neg c]
      rcases ih with ⟨e, h⟩ | ⟨x, e, h1, h2⟩
      · refine Or.inl ⟨e, fun j hj => ?_⟩
        by_cases e' : j = i
        · rw [e']
          cases hc : F.testBit i with
          | false => rfl
          | true => exact absurd ⟨hc, Or.inl e⟩ c
        · exact h j (by omega)
      · exact Or.inr ⟨x, e, by omega, h2⟩
theorem hgo_some {lv : Nat → Int} {F N : Nat} (hF : F < 2 ^ N) (h0 : F ≠ 0) : ∃ x : Nat, hgo lv F N = x ∧ x < N ∧ F.testBit x = true := by
  rcases hgo_rng (lv := lv) (F := F) N with ⟨e, h⟩ | h
  · refine absurd (Nat.eq_of_testBit_eq (fun u => ?_)) h0
    rw [Nat.zero_testBit]
    by_cases c : u < N
    · exact h u c
    · exact Nat.testBit_lt_two_pow (Nat.lt_of_lt_of_le hF (Nat.pow_le_pow_right (by decide) (by omega)))
  · exact h
theorem k_highest {μ : Mem} {N F : Nat} {lv : Nat → Int} (hN : μ 10 0 = N) (h12 : N ≤ 12) (hF : F < 2 ^ N) (h0 : F ≠ 0) (hl : ∀ i, i < N → μ 89 i = lv i) {Post : Pst} (hp : Post (hgo lv F N) μ) : wp_X7_highestOf μ (F : Int) Post := by
  unfold wp_X7_highestOf b_X7_highestOf_e
  intro G hG
  have p8 := pow12 h12
  rcases ntz_t F (by omega) with h | ⟨t1, t2, t3, t4⟩
  · exact absurd h h0
  · obtain ⟨b, hb⟩ : ∃ b, b = lwb F 12 := ⟨_, rfl⟩
    rw [← hb] at t1 t2 t3 t4
    refine s_ntz ?_
    rw [t1, wrap_id (by omega) (by omega)]
    rintro _ rfl
    have hbN : b < N := Classical.byContradiction fun hn => by
      rw [Nat.testBit_lt_two_pow (Nat.lt_of_lt_of_le hF (Nat.pow_le_pow_right (by decide) (by omega)))] at t3
      cases t3
    have low : ∀ j, j < b → F.testBit j = false := by
      intro j hj
      have e1 : F % 2 ^ b = 0 := t4
      have : (F % 2 ^ b).testBit j = F.testBit j := by rw [Nat.testBit_mod_two_pow]; simp [hj]
      rw [← this, e1, Nat.zero_testBit]
    have start : hgo lv F (b + 1) = b := by
      have e : hgo lv F b = -1 := by
        rcases hgo_rng (lv := lv) (F := F) b with ⟨e, _⟩ | ⟨x, _, h1, h2⟩
        · exact e
        · rw [low x h1] at h2; cases h2
      unfold hgo
      rw [if_pos ⟨t3, Or.inl e⟩]
    have key : G μ (F : Int) (hgo lv F (b + 1)) ((b + 1 : Nat) : Int) := by
      refine upFrom (P := fun i => G μ (F : Int) (hgo lv F i) (i : Int)) (m := b + 1) (n := N) (by omega) ?_ ?_
      · exact hG _ _ _ _ ⟨fun _ => hp, fun h' => absurd h' (by omega)⟩
      · intro i h1 hi ih
        rw [cs] at ih
        unfold hgo at ih
        have hr := hgo_rng (lv := lv) (F := F) i
        refine hG _ _ _ _ ⟨fun h' => absurd h' (by omega), fun _ => s_isIn (by omega) (by omega) ?_⟩
        unfold b_X7_highestOf_42
        rw [wrap_id (by omega) (by omega)]
        cases hc : F.testBit i with
        | false =>
          rw [hc, if_neg (by simp)] at ih
          refine ⟨fun _ => ?_, fun h' => absurd rfl h'⟩
          rintro _ rfl
          exact ih
        | true =>
          rw [hc] at ih
          rcases hr with ⟨_, e2⟩ | ⟨x, e1, e2, e3⟩
          · rw [e2 b (by omega)] at t3; cases t3
          · rw [e1, tn] at ih
            rw [e1, tn, tn, hl i hi, hl x (by omega)]
            refine ⟨fun h' => absurd h' (by decide), fun _ => ⟨by omega, by omega, fun c => ?_, fun c => ?_⟩⟩
            · rw [if_neg (by intro hh; omega)] at ih
              rintro _ rfl
              exact ih
            · rw [if_pos ⟨rfl, Or.inr (by omega)⟩] at ih
              rintro _ rfl
              exact ih
    rw [start] at key
    exact key
