/-! Least minutes: the class's table. -/
theorem i2b_t : ∀ n : Nat, n < 128 → i2b (n : Int) = (n : Int) := by decide +kernel
theorem i2b_id {x : Int} (h0 : 0 ≤ x) (h1 : x ≤ 127) : i2b x = x := by
  obtain ⟨n, rfl⟩ := natOf h0
  exact i2b_t n (by omega)
theorem imin_n (a b : Nat) : imin (a : Int) (b : Int) = ((min a b : Nat) : Int) := by
  have d := imin_d (a : Int) (b : Int)
  have : min a b = if a ≤ b then a else b := Nat.min_def
  rw [this]
  split <;> omega
theorem k_take {N : Nat} (h12 : N ≤ 12) {m : Int} (hm0 : 0 ≤ m) (hm1 : m ≤ 100) (d : Nat) : ∀ (t : Nat) (M : Mem) (D F : Nat) (Post : Pst), t < d → t ≤ 100 → M 10 0 = N → D < 2 ^ N → F < 2 ^ N → (∀ T, T < 2 ^ N → 0 ≤ M 23 T ∧ M 23 T ≤ 100) → (∀ M' : Mem, (∀ c, c ≠ 23 → M' c = M c) → (∀ T, M' 23 T ≤ M 23 T) → (∀ T, M' 23 T = M 23 T ∨ (M' 23 T = m ∧ ∃ A, sbs A F ∧ cdn A 12 = t ∧ T = D ||| A)) → (∀ A, sbs A F → cdn A 12 = t → M' 23 (D ||| A) ≤ m) → Post 0 M') → wp_X7_takeFrom d M (D : Int) (F : Int) (t : Int) m Post := by
  induction d with
  | zero => intro t M D F Post ht; omega
  | succ d IH =>
    intro t M D F Post ht ht2 hN hD hF hr hp
    have p8 := pow12 h12
    unfold wp_X7_takeFrom
    intro G hG
    unfold b_X7_takeFrom_e
    refine ⟨fun h0 => ?_, fun h0 => ?_⟩
    · -- one of them after the other
      refine upTo (P := fun i => ∀ (M1 : Mem) (X : Nat), (∀ u, X.testBit u = (decide (i ≤ u) && F.testBit u)) → (∀ c, c ≠ 23 → M1 c = M c) → (∀ T, M1 23 T ≤ M 23 T) → (∀ T, M1 23 T = M 23 T ∨ (M1 23 T = m ∧ ∃ A, sbs A F ∧ cdn A 12 = t ∧ T = D ||| A)) → (∀ A, sbs A F → cdn A 12 = t → (∃ u, u < i ∧ A.testBit u = true) → M1 23 (D ||| A) ≤ m) → G M1 (D : Int) (t : Int) m (X : Int) (i : Int)) (n := N) ?_ ?_ M F (fun u => by rw [decide_eq_true (Nat.zero_le u)]; rfl) (fun _ _ => rfl) (fun _ => Int.le_refl _) (fun _ => Or.inl rfl) (fun A _ _ ⟨u, hu, _⟩ => by omega)
      · intro M1 X hX fr le eq ub
        have N1 : M1 10 0 = N := by rw [fr 10 (by decide)]; exact hN
        refine hG _ _ _ _ _ _ ⟨fun _ => hp M1 fr le eq (fun A a1 a2 => ub A a1 a2 ?_), fun h' => absurd h' (by omega)⟩
        refine Classical.byContradiction fun hx => ?_
        have A0 : A = 0 := by
          apply Nat.eq_of_testBit_eq
          intro u
          rw [Nat.zero_testBit]
          cases hc : A.testBit u with
          | false => rfl
          | true => exact absurd ⟨u, bit_lt hF (a1 u hc), hc⟩ hx
        rw [A0, cdn_00] at a2
        omega
      · intro i hi ih M1 X hX fr le eq ub
        have N1 : M1 10 0 = N := by rw [fr 10 (by decide)]; exact hN
        have hXl : X < 2 ^ N := lt_of_bits (fun u hu => by
          rw [hX u, Bool.and_eq_true] at hu
          exact bit_lt hF hu.2)
        have hXi : X.testBit i = F.testBit i := by rw [hX i, decide_eq_true (Nat.le_refl i)]; rfl
        refine hG _ _ _ _ _ _ ⟨fun h' => absurd h' (by omega), fun _ => s_isIn (by omega) (by omega) ?_⟩
        rw [hXi]
        cases hc : F.testBit i with
        | false =>
          refine ⟨fun _ => ?_, fun h' => absurd rfl h'⟩
          unfold b_X7_takeFrom_76
          rw [wrap_id (by omega) (by omega)]
          rintro _ rfl
          rw [← cs]
          refine ih M1 X (fun u => ?_) fr le eq (fun A a1 a2 ⟨u, u1, u2⟩ => ub A a1 a2 ⟨u, ?_, u2⟩)
          · rw [hX u]
            by_cases e : u = i
            · rw [e, hc, Bool.and_false, Bool.and_false]
            · rw [show decide (i ≤ u) = decide (i + 1 ≤ u) from decide_eq_decide.mpr (by omega)]
          · have := a1 u u2
            have : u ≠ i := fun e => by rw [e, hc] at this; cases this
            omega
        | true =>
          refine ⟨fun h' => absurd h' (by decide), fun _ => ?_⟩
          have pi : 2 ^ i < 2 ^ N := Nat.pow_lt_pow_right (by decide) hi
          rw [ishl_n (by omega), iandn_n (by omega) (pow_lt31 (by omega)), ior_n (by omega) (pow_lt31 (by omega)), wrap_id (by omega) (by omega)]
          rintro _ rfl
          have et : (t : Int) - 1 = ((t - 1 : Nat) : Int) := by omega
          rw [et]
          have hX2 : ∀ u, (ndf X (2 ^ i)).testBit u = (decide (i + 1 ≤ u) && F.testBit u) := fun u => by
            rw [ndf_bit, hX u, Nat.testBit_two_pow]
            by_cases e : i = u
            · rw [decide_eq_true e, decide_eq_false (show ¬ i + 1 ≤ u by omega)]
              simp
            · rw [decide_eq_false e, show decide (i ≤ u) = decide (i + 1 ≤ u) from decide_eq_decide.mpr (by omega)]
              simp
          have hX2l : ndf X (2 ^ i) < 2 ^ N := Nat.lt_of_le_of_lt (ndf_le _ _) hXl
          refine IH (t - 1) M1 (D ||| 2 ^ i) (ndf X (2 ^ i)) _ (by omega) (by omega) N1 (Nat.or_lt_two_pow hD pi) hX2l (fun T hT => ?_) (fun M2 fr2 le2 eq2 ub2 => ?_)
          · have := hr T hT
            rcases eq T with e | ⟨e, _⟩ <;> omega
          · have add : ∀ A', sbs A' (ndf X (2 ^ i)) → sbs (A' ||| 2 ^ i) F ∧ cdn (A' ||| 2 ^ i) 12 = cdn A' 12 + 1 ∧ D ||| 2 ^ i ||| A' = D ||| (A' ||| 2 ^ i) := by
              intro A' a1
              refine ⟨fun u hu => ?_, ?_, by rw [Nat.or_assoc, Nat.or_comm (2 ^ i) A']⟩
              · rw [Nat.testBit_or, Nat.testBit_two_pow, Bool.or_eq_true, decide_eq_true_eq] at hu
                rcases hu with hu | hu
                · have := a1 u hu
                  rw [hX2 u, Bool.and_eq_true] at this
                  exact this.2
                · rw [← hu]; exact hc
              · have : A'.testBit i = false := by
                  cases hd : A'.testBit i with
                  | false => rfl
                  | true =>
                    have := a1 i hd
                    rw [hX2 i, decide_eq_false (by omega)] at this
                    cases this
                have ca := cdn_add this 12
                rw [if_pos (by omega)] at ca
                exact ca
            unfold b_X7_takeFrom_76
            rw [wrap_id (by omega) (by omega)]
            rintro _ rfl
            rw [← cs]
            refine ih M2 (ndf X (2 ^ i)) hX2 (fun c hc => by rw [fr2 c hc]; exact fr c hc) (fun T => Int.le_trans (le2 T) (le T)) (fun T => ?_) (fun A a1 a2 ⟨u, u1, u2⟩ => ?_)
            · rcases eq2 T with e | ⟨e, A', a1, a2, a3⟩
              · rw [e]; exact eq T
              · obtain ⟨b1, b2, b3⟩ := add A' a1
                exact Or.inr ⟨e, A' ||| 2 ^ i, b1, by omega, by rw [a3, b3]⟩
            · by_cases cl : ∃ u, u < i ∧ A.testBit u = true
              · exact Int.le_trans (le2 _) (ub A a1 a2 cl)
              · have ai : A.testBit i = true := by
                  by_cases e : u = i
                  · rw [← e]; exact u2
                  · exact absurd ⟨u, by omega, u2⟩ cl
                have sb : sbs (ndf A (2 ^ i)) (ndf X (2 ^ i)) := fun v hv => by
                  rw [ndf_bit, Bool.and_eq_true, Bool.not_eq_true', Nat.testBit_two_pow, decide_eq_false_iff_not] at hv
                  rw [hX2 v, a1 v hv.1, Bool.and_true, decide_eq_true_eq]
                  have : ¬ v < i := fun hl => cl ⟨v, hl, hv.1⟩
                  omega
                obtain ⟨b1, b2, b3⟩ := add _ sb
                have eA : ndf A (2 ^ i) ||| 2 ^ i = A := by
                  apply Nat.eq_of_testBit_eq
                  intro v
                  rw [Nat.testBit_or, ndf_bit, Nat.testBit_two_pow]
                  by_cases e : i = v
                  · rw [decide_eq_true e, ← e, ai]; rfl
                  · rw [decide_eq_false e]; simp
                rw [eA] at b2 b3
                rw [← b3]
                exact ub2 _ sb (by omega)
    · -- as many as told
      have t0 : t = 0 := by omega
      subst t0
      have rD := hr D hD
      have dm := imin_d (M 23 D) m
      rw [tn, i2b_id (by omega) (by omega)]
      refine ⟨by omega, by omega, by omega, ?_⟩
      intro M2 h2
      have at2 : ∀ T, M2 23 T = if T = D then imin (M 23 D) m else M 23 T := fun T => by rw [h2, wr_app, if_pos rfl]
      refine hp M2 (fun c hc => by rw [h2, wr_ne hc]) (fun T => ?_) (fun T => ?_) (fun A a1 a2 => ?_)
      · rw [at2 T]
        split
        · rename_i e; rw [e]; omega
        · exact Int.le_refl _
      · rw [at2 T]
        by_cases e : T = D
        · rw [if_pos e]
          rcases dm with ⟨c1, c2⟩ | ⟨c1, c2⟩
          · exact Or.inr ⟨c2, 0, (fun u hu => by rw [Nat.zero_testBit] at hu; cases hu), cdn_00, (by rw [Nat.or_zero]; exact e)⟩
          · rw [e]; exact Or.inl c2
        · rw [if_neg e]; exact Or.inl rfl
      · have hA : A < 4096 := Nat.lt_of_lt_of_le (a1.lt hF) p8
        rw [cdn_zero hA a2, Nat.or_zero, at2 D, if_pos rfl]
        omega
theorem s_fillB {μ : Mem} {L : Nat} (hL : L ≤ 4096) {Post : Pst} (hp : Post 0 (fillM μ 23 L 100)) : wp_J7_fill_eb02e μ 0 (L : Int) 100 Post := by
  unfold wp_J7_fill_eb02e
  intro G hG
  unfold b_J7_fill_eb02e_e wp_J7_rangeCheck_23922 b_J7_rangeCheck_23922_e
  refine ⟨fun _ => ⟨fun _ => ⟨fun _ => ?_, fun h' => absurd h' (by omega)⟩, fun h' => absurd h' (by omega)⟩, fun h' => absurd h' (by omega)⟩
  have key : G (fillM μ 23 0 100) (L : Int) 100 ((0 : Nat) : Int) := by
    refine upTo (P := fun i => G (fillM μ 23 i 100) (L : Int) 100 (i : Int)) (n := L) ?_ ?_
    · exact hG _ _ _ _ ⟨fun _ => hp, fun h' => absurd h' (by omega)⟩
    · intro i hi ih
      refine hG _ _ _ _ ⟨fun h' => absurd h' (by omega), fun _ => ⟨by omega, by decide, ?_⟩⟩
      rw [tn, fillM_s, wrap_id (by omega) (by omega), ← cs]
      rintro _ rfl _ rfl
      exact ih
  rw [fillM_0] at key
  exact key
theorem k_least0 {μ : Mem} {N q : Nat} {h : Nat → Int} (hN : μ 10 0 = N) (h12 : N ≤ 12) (hq : μ 10 1 = q) (q4 : q ≤ 4) (hh : ∀ i, i < N → μ 88 i = h i) (hb : ∀ i : Nat, i < N → -1 ≤ h i ∧ h i < i) {Post : Pst} (hp : ∀ M : Mem, (∀ c, c ≠ 23 → M c = μ c) → Stg (Ec h N q) (2 ^ N) (2 ^ N - 1) (M 23) → Post (M 23 (2 ^ N - 1)) M) : wp_X7_leastMinutes μ Post := by
  unfold wp_X7_leastMinutes
  intro G hG
  unfold b_X7_leastMinutes_e
  have p8 := pow12 h12
  have p0 : 0 < 2 ^ N := Nat.pow_pos (by decide)
  refine k_allL hN h12 ?_
  rw [wrap_id (by omega) (by omega), show ((2 ^ N - 1 : Nat) : Int) + 1 = ((2 ^ N : Nat) : Int) by omega]
  refine s_fillB p8 ⟨by decide, by decide, ?_⟩
  intro M0 h0
  refine upTo (P := fun x => ∀ M : Mem, (∀ c, c ≠ 23 → M c = μ c) → Stg (Ec h N q) (2 ^ N) x (M 23) → G M (x : Int)) (n := 2 ^ N - 1) ?_ ?_ M0 (fun c hc => by rw [h0, wr_ne hc, fillM_ne hc]) (Stg.init (by rw [h0]; exact wr_s) (fun T hT hne => ?_))
  · intro M fr sg
    have N1 : M 10 0 = N := by rw [fr 10 (by decide)]; exact hN
    refine hG _ _ (k_allL N1 h12 ⟨fun _ => k_allL N1 h12 ⟨by omega, ?_⟩, fun h' => absurd h' (by omega)⟩)
    rw [tn]
    exact hp M fr sg
  · intro x hx ih M fr sg
    have N1 : M 10 0 = N := by rw [fr 10 (by decide)]; exact hN
    have q1 : M 10 1 = q := by rw [fr 10 (by decide)]; exact hq
    have nx : ∀ M' : Mem, (∀ c, c ≠ 23 → M' c = μ c) → Stg (Ec h N q) (2 ^ N) (x + 1) (M' 23) → b_X7_leastMinutes_75 G Post M' (x : Int) := by
      intro M' fr' sg'
      unfold b_X7_leastMinutes_75
      rw [wrap_id (by omega) (by omega)]
      rintro _ rfl
      rw [← cs]
      exact ih M' fr' sg'
    refine hG _ _ (k_allL N1 h12 ⟨fun h' => absurd h' (by omega), fun _ => ⟨by omega, fun c => ?_, fun c => ?_⟩⟩)
    · rw [tn] at c
      exact nx M fr (sg.pass c)
    · rw [tn] at c
      have rx := sg.1 x (by omega)
      have fl : FB h N x < 2 ^ N := FB_lt
      refine k_free N1 h12 (by omega) (fun i hi => by rw [fr 88 (by decide)]; exact hh i hi) hb ?_
      refine s_bct (by omega) ⟨by omega, ?_⟩
      rw [q1, imin_n, tn, wrap_id (by omega) (by omega)]
      refine k_take h12 (by omega) (by omega) 6 _ M x (FB h N x) _ (by have := Nat.min_le_left q (cdn (FB h N x) 12); omega) (by have := Nat.min_le_left q (cdn (FB h N x) 12); omega) N1 (by omega) fl sg.1 (fun M2 fr2 le2 eq2 ub2 => ?_)
      refine nx M2 (fun c hc => by rw [fr2 c hc]; exact fr c hc) (Stg.step (fun S T e => e.r.le) sg (by omega) c le2 eq2 (fun T ⟨A, a1, a2, a3⟩ => ?_))
      rw [a3]
      exact ub2 A a1 a2
  · rw [h0, wr_i (by show T ≠ 0; exact hne), fillM_app, if_pos rfl, if_pos hT]
