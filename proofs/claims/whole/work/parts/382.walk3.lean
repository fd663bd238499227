/-! Two works: the table of fewest minutes, drawn by the class. -/
section
variable (p q r z : Nat → Int)
/-- one place of it: p, q the first one's minutes and what it holds, r, z the second one's -/
def wc (x y : Nat) (a b c : Int) : Int :=
  if x = 0 ∧ y = 0 then 0 else
    imin (imin (imin 1000000000 (if 0 < x ∧ p (x - 1) ≠ z y then a + 1 else 1000000000)) (if 0 < y ∧ r (y - 1) ≠ q x then b + 1 else 1000000000)) (if 0 < x ∧ 0 < y ∧ p (x - 1) ≠ r (y - 1) then c + 1 else 1000000000)
def wrw (x : Nat) (up : Nat → Int) : Nat → Int
  | 0 => wc p q r z x 0 (up 0) 0 0
  | y + 1 => wc p q r z x (y + 1) (up (y + 1)) (wrw x up y) (up y)
def wt : Nat → Nat → Int
  | 0 => wrw p q r z 0 (fun _ => 0)
  | x + 1 => wrw p q r z (x + 1) (wt x)
end
theorem wc_x0 {p q r z : Nat → Int} {y : Nat} {a a' b c c' : Int} : wc p q r z 0 y a b c = wc p q r z 0 y a' b c' := by
  unfold wc
  simp
theorem wc_y0 {p q r z : Nat → Int} {x : Nat} {a b b' c c' : Int} : wc p q r z x 0 a b c = wc p q r z x 0 a b' c' := by
  unfold wc
  simp
theorem wt_eq {p q r z : Nat → Int} (x y : Nat) : wt p q r z x y = wc p q r z x y (wt p q r z (x - 1) y) (wt p q r z x (y - 1)) (wt p q r z (x - 1) (y - 1)) := by
  cases x with
  | zero =>
    cases y with
    | zero =>
      show wc p q r z 0 0 0 0 0 = _
      unfold wc
      simp
    | succ y =>
      show wc p q r z 0 (y + 1) 0 (wrw p q r z 0 (fun _ => 0) y) 0 = wc p q r z 0 (y + 1) _ (wrw p q r z 0 (fun _ => 0) y) _
      exact wc_x0
  | succ x =>
    cases y with
    | zero =>
      show wc p q r z (x + 1) 0 (wt p q r z x 0) 0 0 = wc p q r z (x + 1) 0 (wt p q r z x 0) _ _
      exact wc_y0
    | succ y => rfl
theorem wc_bd {p q r z : Nat → Int} {x y : Nat} {a b c : Int} (ha : 0 ≤ a) (hb : 0 ≤ b) (hc : 0 ≤ c) : 0 ≤ wc p q r z x y a b c ∧ wc p q r z x y a b c ≤ 1000000000 := by
  unfold wc
  split
  · decide
  · obtain ⟨u1, h1⟩ : ∃ u1, u1 = (if 0 < x ∧ p (x - 1) ≠ z y then a + 1 else 1000000000) := ⟨_, rfl⟩
    obtain ⟨u2, h2⟩ : ∃ u2, u2 = (if 0 < y ∧ r (y - 1) ≠ q x then b + 1 else 1000000000) := ⟨_, rfl⟩
    obtain ⟨u3, h3⟩ : ∃ u3, u3 = (if 0 < x ∧ 0 < y ∧ p (x - 1) ≠ r (y - 1) then c + 1 else 1000000000) := ⟨_, rfl⟩
    have p1 : 0 ≤ u1 := by rw [h1]; split <;> omega
    have p2 : 0 ≤ u2 := by rw [h2]; split <;> omega
    have p3 : 0 ≤ u3 := by rw [h3]; split <;> omega
    rw [← h1, ← h2, ← h3]
    have d1 := imin_d 1000000000 u1
    have d2 := imin_d (imin 1000000000 u1) u2
    have d3 := imin_d (imin (imin 1000000000 u1) u2) u3
    omega
theorem wrw_bd {p q r z : Nat → Int} {x : Nat} {up : Nat → Int} (h : ∀ y, 0 ≤ up y) : ∀ y, 0 ≤ wrw p q r z x up y ∧ wrw p q r z x up y ≤ 1000000000 := by
  intro y
  induction y with
  | zero => exact wc_bd (h 0) (by decide) (by decide)
  | succ y ih => exact wc_bd (h _) ih.1 (h _)
theorem wt_bd {p q r z : Nat → Int} (x : Nat) : ∀ y, 0 ≤ wt p q r z x y ∧ wt p q r z x y ≤ 1000000000 := by
  induction x with
  | zero => exact wrw_bd (fun _ => by decide)
  | succ x ih => exact wrw_bd (fun y => (ih y).1)
/-- what it is at most, by where one comes from -/
theorem wc_le {p q r z : Nat → Int} {x y : Nat} {a b c : Int} : (0 < x → p (x - 1) ≠ z y → wc p q r z x y a b c ≤ a + 1) ∧ (0 < y → r (y - 1) ≠ q x → wc p q r z x y a b c ≤ b + 1) ∧ (0 < x → 0 < y → p (x - 1) ≠ r (y - 1) → wc p q r z x y a b c ≤ c + 1) := by
  unfold wc
  obtain ⟨u1, h1⟩ : ∃ u1, u1 = (if 0 < x ∧ p (x - 1) ≠ z y then a + 1 else 1000000000) := ⟨_, rfl⟩
  obtain ⟨u2, h2⟩ : ∃ u2, u2 = (if 0 < y ∧ r (y - 1) ≠ q x then b + 1 else 1000000000) := ⟨_, rfl⟩
  obtain ⟨u3, h3⟩ : ∃ u3, u3 = (if 0 < x ∧ 0 < y ∧ p (x - 1) ≠ r (y - 1) then c + 1 else 1000000000) := ⟨_, rfl⟩
  rw [← h1, ← h2, ← h3]
  have d1 := imin_d 1000000000 u1
  have d2 := imin_d (imin 1000000000 u1) u2
  have d3 := imin_d (imin (imin 1000000000 u1) u2) u3
  refine ⟨fun c1 c2 => ?_, fun c1 c2 => ?_, fun c1 c2 c3 => ?_⟩
  · rw [if_neg (by omega)]
    rw [if_pos ⟨c1, c2⟩] at h1
    omega
  · rw [if_neg (by omega)]
    rw [if_pos ⟨c1, c2⟩] at h2
    omega
  · rw [if_neg (by omega)]
    rw [if_pos ⟨c1, c2, c3⟩] at h3
    omega
theorem wc_ge {p q r z : Nat → Int} {x y : Nat} {a b c f : Int} (h0 : x = 0 → y = 0 → f ≤ 0) (hf : f ≤ 100000) (h1 : 0 < x → p (x - 1) ≠ z y → f ≤ imin a 100000 + 1) (h2 : 0 < y → r (y - 1) ≠ q x → f ≤ imin b 100000 + 1) (h3 : 0 < x → 0 < y → p (x - 1) ≠ r (y - 1) → f ≤ imin c 100000 + 1) : f ≤ wc p q r z x y a b c := by
  unfold wc
  have da := imin_d a 100000
  have db := imin_d b 100000
  have dc := imin_d c 100000
  split
  · rename_i e; exact h0 e.1 e.2
  · obtain ⟨u1, e1⟩ : ∃ u1, u1 = (if 0 < x ∧ p (x - 1) ≠ z y then a + 1 else 1000000000) := ⟨_, rfl⟩
    obtain ⟨u2, e2⟩ : ∃ u2, u2 = (if 0 < y ∧ r (y - 1) ≠ q x then b + 1 else 1000000000) := ⟨_, rfl⟩
    obtain ⟨u3, e3⟩ : ∃ u3, u3 = (if 0 < x ∧ 0 < y ∧ p (x - 1) ≠ r (y - 1) then c + 1 else 1000000000) := ⟨_, rfl⟩
    have p1 : f ≤ u1 := by
      rw [e1]; split
      · rename_i e; have := h1 e.1 e.2; omega
      · omega
    have p2 : f ≤ u2 := by
      rw [e2]; split
      · rename_i e; have := h2 e.1 e.2; omega
      · omega
    have p3 : f ≤ u3 := by
      rw [e3]; split
      · rename_i e; have := h3 e.1 e.2.1 e.2.2; omega
      · omega
    rw [← e1, ← e2, ← e3]
    have d1 := imin_d 1000000000 u1
    have d2 := imin_d (imin 1000000000 u1) u2
    have d3 := imin_d (imin (imin 1000000000 u1) u2) u3
    omega
theorem imin_far {x : Int} (h : x ≤ 1000000000) : imin x 1000000000 = x := by
  have d := imin_d x 1000000000
  omega
theorem k_fewestTo {M : Mem} {x y : Nat} {a b c : Int} (hx : x ≤ 120) (hy : y ≤ 120) (ha : 0 < x → M (72 + (x + 1) % 2) y = a) (hb : 0 < y → M (72 + x % 2) (y - 1) = b) (hc : 0 < x → 0 < y → M (72 + (x + 1) % 2) (y - 1) = c) (ra : 0 ≤ a ∧ a ≤ 1000000000) (rb : 0 ≤ b ∧ b ≤ 1000000000) (rc : 0 ≤ c ∧ c ≤ 1000000000) {Post : Pst} (hp : Post (wc (M 68) (M 70) (M 69) (M 71) x y a b c) M) : wp_X8_fewestTo M (x : Int) (y : Int) Post := by
  unfold wp_X8_fewestTo b_X8_fewestTo_e
  have par : iand (x : Int) 1 = ((x % 2 : Nat) : Int) := by rw [show (1 : Int) = ((1 : Nat) : Int) from rfl, iand_n (by omega) (by omega), Nat.and_one_is_mod]
  have par1 : iand (wrap ((x : Int) + 1)) 1 = (((x + 1) % 2 : Nat) : Int) := by rw [wrap_id (by omega) (by omega), ← cs, show (1 : Int) = ((1 : Nat) : Int) from rfl, iand_n (by omega) (by omega), Nat.and_one_is_mod]
  have l72 : ∀ k, k < 2 → 24 ≤ 72 + k ∧ 72 + k < 112 ∧ len (72 + k) = 121 := fun k hk => by
    have : k = 0 ∨ k = 1 := by omega
    rcases this with rfl | rfl
    · exact lc72
    · exact lc73
  have ly := l72 (x % 2) (by omega)
  have lx := l72 ((x + 1) % 2) (by omega)
  have body : ¬ (x = 0 ∧ y = 0) → b_X8_fewestTo_10 Post M (x : Int) (y : Int) := by
    intro hne
    unfold wc at hp
    rw [if_neg hne] at hp
    unfold b_X8_fewestTo_10
    rw [par, par1, tn, tn]
    -- the third way
    have t3 : ∀ l : Int, 0 ≤ l → l ≤ 1000000000 → Post (imin l (if 0 < x ∧ 0 < y ∧ M 68 (x - 1) ≠ M 69 (y - 1) then c + 1 else 1000000000)) M → b_X8_fewestTo_112 Post M (x : Int) (y : Int) (72 + (x + 1) % 2) l := by
      intro l l0 l1 hl
      unfold b_X8_fewestTo_112
      refine ⟨fun h' => ?_, fun h1 => ⟨fun h' => ?_, fun h2 => ?_⟩⟩
      · rw [if_neg (by omega), imin_far l1] at hl; exact hl
      · rw [if_neg (by omega), imin_far l1] at hl; exact hl
      · rw [wrap_id (x := (x : Int) - 1) (by omega) (by omega), wrap_id (x := (y : Int) - 1) (by omega) (by omega), show (x : Int) - 1 = ((x - 1 : Nat) : Int) by omega, show (y : Int) - 1 = ((y - 1 : Nat) : Int) by omega, tn, tn, hc (by omega) (by omega), wrap_id (by omega) (by omega)]
        refine ⟨by omega, by omega, fun e => ?_, fun e => ⟨⟨lx.1, lx.2.1, by omega, by rw [lx.2.2]; omega⟩, ?_⟩⟩
        · rw [if_neg (fun hh => hh.2.2 e), imin_far l1] at hl; exact hl
        · rw [if_pos ⟨by omega, by omega, e⟩] at hl
          rintro _ rfl
          exact hl
    -- the second
    have t2 : ∀ l : Int, 0 ≤ l → l ≤ 1000000000 → Post (imin (imin l (if 0 < y ∧ M 69 (y - 1) ≠ M 70 x then b + 1 else 1000000000)) (if 0 < x ∧ 0 < y ∧ M 68 (x - 1) ≠ M 69 (y - 1) then c + 1 else 1000000000)) M → b_X8_fewestTo_73 Post M (x : Int) (y : Int) (72 + x % 2) (72 + (x + 1) % 2) l := by
      intro l l0 l1 hl
      unfold b_X8_fewestTo_73
      refine ⟨fun h' => t3 l l0 l1 ?_, fun h2 => ?_⟩
      · rw [if_neg (show ¬ (0 < y ∧ M 69 (y - 1) ≠ M 70 x) by omega), imin_far l1] at hl; exact hl
      · rw [wrap_id (x := (y : Int) - 1) (by omega) (by omega), show (y : Int) - 1 = ((y - 1 : Nat) : Int) by omega, tn, tn, hb (by omega), wrap_id (by omega) (by omega)]
        refine ⟨by omega, by omega, fun e => t3 l l0 l1 ?_, fun e => ⟨⟨ly.1, ly.2.1, by omega, by rw [ly.2.2]; omega⟩, ?_⟩⟩
        · rw [if_neg (fun hh : 0 < y ∧ M 69 (y - 1) ≠ M 70 x => hh.2 e), imin_far l1] at hl; exact hl
        · rw [if_pos (show 0 < y ∧ M 69 (y - 1) ≠ M 70 x from ⟨by omega, e⟩)] at hl
          rintro _ rfl
          have d := imin_d l (b + 1)
          exact t3 _ (by omega) (by omega) hl
    refine ⟨by omega, by omega, fun h' => t2 _ (by decide) (by decide) ?_, fun h1 => ?_⟩
    · rw [if_neg (show ¬ (0 < x ∧ M 68 (x - 1) ≠ M 71 y) by omega)] at hp
      exact hp
    · rw [wrap_id (x := (x : Int) - 1) (by omega) (by omega), show (x : Int) - 1 = ((x - 1 : Nat) : Int) by omega, tn, tn, ha (by omega), wrap_id (by omega) (by omega)]
      refine ⟨by omega, by omega, fun e => t2 _ (by decide) (by decide) ?_, fun e => ⟨by omega, ?_⟩⟩
      · rw [if_neg (fun hh : 0 < x ∧ M 68 (x - 1) ≠ M 71 y => hh.2 e)] at hp
        exact hp
      · rw [if_pos (show 0 < x ∧ M 68 (x - 1) ≠ M 71 y from ⟨by omega, e⟩)] at hp
        rintro _ rfl
        have d := imin_d 1000000000 (a + 1)
        exact t2 _ (by omega) (by omega) hp
  refine ⟨fun c1 => body (by omega), fun c1 => ⟨fun c2 => body (by omega), fun c2 => ?_⟩⟩
  unfold wc at hp
  rw [if_pos ⟨by omega, by omega⟩] at hp
  exact hp
theorem k_walk {μ : Mem} {s0 s1 : Nat} {b0 b1 : Nat → Int} {m0 m1 : Nat → Nat} (z0 : μ 86 0 = s0) (z1 : μ 86 1 = s1) (h60 : s0 ≤ 6) (h61 : s1 ≤ 6) (hb0 : ∀ i, i < s0 → μ 64 i = b0 i) (hb1 : ∀ i, i < s1 → μ 65 i = b1 i) (hm0 : ∀ i, i < s0 → μ 66 i = m0 i ∧ m0 i ≤ 20) (hm1 : ∀ i, i < s1 → μ 67 i = m1 i ∧ m1 i ≤ 20) {Post : Pst} (hp : ∀ M : Mem, Kp μ M → ∀ p q r z, LO b0 m0 s0 p q → LO b1 m1 s1 r z → Post (wt p q r z (ps m0 s0) (ps m1 s1)) M) : wp_X8_fewestMinutes μ Post := by
  unfold wp_X8_fewestMinutes
  intro G14 G22 g14 g22
  unfold b_X8_fewestMinutes_e
  refine k_layOut (k := 0) (b := b0) (m := m0) (by decide) z0 h60 hb0 hm0 (fun M1 fr1 lo1 => ?_)
  have fr1' : ∀ c, c ≠ 68 → c ≠ 70 → M1 c = μ c := fr1
  refine k_layOut (k := 1) (b := b1) (m := m1) (by decide) (by rw [fr1' 86 (by decide) (by decide)]; exact z1) h61 (fun i hi => by rw [fr1' 65 (by decide) (by decide)]; exact hb1 i hi) (fun i hi => by rw [fr1' 67 (by decide) (by decide)]; exact hm1 i hi) (fun M2 fr2 lo2 => ?_)
  have fr2' : ∀ c, c ≠ 69 → c ≠ 71 → M2 c = M1 c := fr2
  have bA := ps_bd (m := m0) (s := s0) (fun i hi => (hm0 i hi).2)
  have bB := ps_bd (m := m1) (s := s1) (fun i hi => (hm1 i hi).2)
  obtain ⟨A, hA⟩ : ∃ A, A = ps m0 s0 := ⟨_, rfl⟩
  obtain ⟨B, hB⟩ : ∃ B, B = ps m1 s1 := ⟨_, rfl⟩
  rw [← hA, ← hB] at hp
  rw [← hA, ← hB]
  have lo1' : LO b0 m0 s0 (M2 68) (M2 70) := by
    rw [fr2' 68 (by decide) (by decide), fr2' 70 (by decide) (by decide)]
    exact lo1
  have lo2' : LO b1 m1 s1 (M2 69) (M2 71) := lo2
  have HP := fun (M : Mem) (k : Kp μ M) => hp M k (M2 68) (M2 70) (M2 69) (M2 71) lo1' lo2'
  obtain ⟨W, hW⟩ : ∃ W, W = wt (M2 68) (M2 70) (M2 69) (M2 71) := ⟨_, rfl⟩
  rw [← hW] at HP
  have We : ∀ x y, W x y = wc (M2 68) (M2 70) (M2 69) (M2 71) x y (W (x - 1) y) (W x (y - 1)) (W (x - 1) (y - 1)) := fun x y => by rw [hW]; exact wt_eq x y
  have Wb : ∀ x y, 0 ≤ W x y ∧ W x y ≤ 1000000000 := fun x y => by rw [hW]; exact wt_bd x y
  refine upTo (P := fun x => ∀ M : Mem, (∀ c, c ≠ 72 → c ≠ 73 → M c = M2 c) → (0 < x → ∀ y, y ≤ B → M (72 + (x - 1) % 2) y = W (x - 1) y) → G14 M (A : Int) (B : Int) (x : Int)) (n := A + 1) ?_ ?_ M2 (fun _ _ _ => rfl) (fun h => absurd h (by omega))
  · intro M fr c1
    have par : iand (A : Int) 1 = ((A % 2 : Nat) : Int) := by rw [show (1 : Int) = ((1 : Nat) : Int) from rfl, iand_n (by omega) (by omega), Nat.and_one_is_mod]
    refine g14 _ _ _ _ ⟨fun _ => ?_, fun h' => absurd h' (by omega)⟩
    rw [par, tn, tn]
    refine ⟨by omega, by omega, ?_⟩
    have := c1 (by omega) B (Nat.le_refl B)
    rw [Nat.add_sub_cancel] at this
    rw [this]
    refine HP M (fun c hc => ?_)
    have := isP_c hc
    rw [fr c (by omega) (by omega), fr2' c (by omega) (by omega), fr1' c (by omega) (by omega)]
  · intro x hx ih M fr c1
    refine g14 _ _ _ _ ⟨fun h' => absurd h' (by omega), fun _ => ?_⟩
    have par : iand (x : Int) 1 = ((x % 2 : Nat) : Int) := by rw [show (1 : Int) = ((1 : Nat) : Int) from rfl, iand_n (by omega) (by omega), Nat.and_one_is_mod]
    refine upTo (P := fun y => ∀ M : Mem, (∀ c, c ≠ 72 → c ≠ 73 → M c = M2 c) → (0 < x → ∀ y, y ≤ B → M (72 + (x - 1) % 2) y = W (x - 1) y) → (∀ y', y' < y → M (72 + x % 2) y' = W x y') → G22 M (A : Int) (B : Int) (x : Int) (y : Int)) (n := B + 1) ?_ ?_ M fr c1 (fun y hy => absurd hy (by omega))
    · intro M fr c1 c2
      refine g22 _ _ _ _ _ ⟨fun _ => ?_, fun h' => absurd h' (by omega)⟩
      rw [wrap_id (by omega) (by omega), ← cs]
      rintro _ rfl
      refine ih M fr (fun _ y hy => ?_)
      rw [Nat.add_sub_cancel]
      exact c2 y (by omega)
    · intro y hy ihy M fr c1 c2
      refine g22 _ _ _ _ _ ⟨fun h' => absurd h' (by omega), fun _ => ?_⟩
      rw [par, tn, tn]
      refine ⟨by omega, ?_⟩
      have ex : 0 < x → (x + 1) % 2 = (x - 1) % 2 := fun h => by omega
      refine k_fewestTo (a := W (x - 1) y) (b := W x (y - 1)) (c := W (x - 1) (y - 1)) (by omega) (by omega) (fun h => by rw [ex h]; exact c1 h y (by omega)) (fun h => c2 (y - 1) (by omega)) (fun h h' => by rw [ex h]; exact c1 h (y - 1) (by omega)) (Wb _ _) (Wb _ _) (Wb _ _) ?_
      refine ⟨by omega, ?_⟩
      rw [fr 68 (by decide) (by decide), fr 69 (by decide) (by decide), fr 70 (by decide) (by decide), fr 71 (by decide) (by decide), ← We, wrap_id (by omega) (by omega), ← cs]
      rintro M3 h3 _ rfl
      refine ihy M3 (fun c a1 a2 => by rw [h3, wr_ne (by omega)]; exact fr c a1 a2) (fun h y' hy' => ?_) (fun y' hy' => ?_)
      · rw [h3, wr_o (by omega)]
        exact c1 h y' hy'
      · rw [h3]
        by_cases e : y' = y
        · rw [e, wr_s]
        · rw [wr_i e]; exact c2 y' (by omega)
