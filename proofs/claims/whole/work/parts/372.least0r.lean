/-! Least minutes: the other side's table; least. -/
theorem m_size {μ : Mem} {n : Nat} (hn : n < 4096) {Post : Pst} (h : Post (cdn n 12 : Int) μ) : wp_X11_size μ (n : Int) Post := by
  unfold wp_X11_size
  intro G hG
  unfold b_X11_size_e
  refine upTo (P := fun i => G μ (n : Int) (cdn n i : Int) (i : Int)) (n := 12) ?_ ?_
  · exact hG _ _ _ _ ⟨fun _ => h, fun h' => absurd h' (by decide)⟩
  · intro i hi ih
    have l := cdn_le n i
    refine hG _ _ _ _ ⟨fun h' => absurd h' (by omega), fun _ => ?_⟩
    rw [bit1_n (by omega) (by omega), wrap_id (x := (i : Int) + 1) (by omega) (by omega), ← cs]
    have e : (cdn n i : Int) + (if n.testBit i then 1 else 0) = (cdn n (i + 1) : Int) := by
      show _ = ((cdn n i + (if n.testBit i then 1 else 0) : Nat) : Int)
      split <;> omega
    rw [e, wrap_id (by omega) (by have := cdn_le n (i + 1); omega)]
    rintro _ rfl _ rfl
    exact ih
theorem m_least0 {μ : Mem} {N q : Nat} {h : Nat → Int} (hN : μ 11 15 = N) (h12 : N ≤ 12) (hq : μ 11 17 = q) (hh : ∀ i, i < N → μ 102 i = h i) (hb : ∀ i : Nat, i < N → -1 ≤ h i ∧ h i < i) {Post : Pst} (hp : ∀ M : Mem, (∀ c, c ≠ 111 → M c = μ c) → Stg (Er h N q) (2 ^ N) (2 ^ N - 1) (M 111) → Post (M 111 (2 ^ N - 1)) M) : wp_X11_leastMinutes μ Post := by
  unfold wp_X11_leastMinutes
  intro G11 G40 G65 g11 g40 g65
  unfold b_X11_leastMinutes_e
  have p8 := pow12 h12
  have p0 : 0 < 2 ^ N := Nat.pow_pos (by decide)
  have ea : wrap (ishl 1 (μ 11 15) - 1) = ((2 ^ N - 1 : Nat) : Int) := by rw [hN, ishl_n (by omega), wrap_id (by omega) (by omega)]; omega
  rw [ea]
  rintro _ rfl
  -- the table, set by set
  have main : ∀ M : Mem, (∀ c, c ≠ 111 → M c = μ c) → Stg (Er h N q) (2 ^ N) 0 (M 111) → G40 M ((2 ^ N - 1 : Nat) : Int) ((0 : Nat) : Int) := by
    refine upTo (P := fun x => ∀ M : Mem, (∀ c, c ≠ 111 → M c = μ c) → Stg (Er h N q) (2 ^ N) x (M 111) → G40 M ((2 ^ N - 1 : Nat) : Int) (x : Int)) (n := 2 ^ N - 1) ?_ ?_
    · intro M fr sg
      refine g40 _ _ _ ⟨fun _ => ⟨by omega, ?_⟩, fun h' => absurd (Int.le_refl _) h'⟩
      rw [tn]
      exact hp M fr sg
    · intro x hx ih M fr sg
      have nx : ∀ M' : Mem, (∀ c, c ≠ 111 → M' c = μ c) → Stg (Er h N q) (2 ^ N) (x + 1) (M' 111) → b_X11_leastMinutes_130 G11 G40 G65 Post M' ((2 ^ N - 1 : Nat) : Int) (x : Int) := by
        intro M' fr' sg'
        unfold b_X11_leastMinutes_130
        rw [wrap_id (by omega) (by omega)]
        rintro _ rfl
        rw [← cs]
        exact ih M' fr' sg'
      have rx := sg.1 x (by omega)
      refine g40 _ _ _ ⟨fun h' => absurd h' (by omega), fun _ => ⟨by omega, fun c => ?_, fun c => ?_⟩⟩
      · rw [tn] at c
        exact nx M fr (sg.pass (by omega))
      · rw [tn] at c
        have fl : FB h N x < 2 ^ N := FB_lt
        refine m_free (by rw [fr 11 (by decide)]; exact hN) h12 (by omega) (fun i hi => by rw [fr 102 (by decide)]; exact hh i hi) hb ?_
        obtain ⟨F, hF⟩ : ∃ F, F = FB h N x := ⟨_, rfl⟩
        rw [← hF] at fl ⊢
        -- subset by subset, from above
        have inner : ∀ (k s : Nat) (M1 : Mem), s ≤ k → sbs s F → (∀ c, c ≠ 111 → M1 c = M c) → (∀ T, M1 111 T ≤ M 111 T) → (∀ T, M1 111 T = M 111 T ∨ (M1 111 T = M 111 x + 1 ∧ Er h N q x T)) → (∀ A, sbs A F → s < A → cdn A 12 ≤ q → M1 111 (x ||| A) ≤ M 111 x + 1) → G65 M1 ((2 ^ N - 1 : Nat) : Int) (x : Int) (F : Int) (s : Int) := by
          intro k
          induction k with
          | zero =>
            intro s M1 hs sb fr1 le1 eq1 ub1
            refine g65 _ _ _ _ _ ⟨fun _ => nx M1 (fun c hc => by rw [fr1 c hc]; exact fr c hc) (Stg.step (fun S T e => e.le) sg (by omega) (by omega) le1 eq1 (fun T ⟨A, a1, a2, a3⟩ => ?_)), fun h' => absurd h' (by omega)⟩
            rw [← hF] at a1
            rw [a3]
            by_cases c0 : A = 0
            · rw [c0, Nat.or_zero]; have := le1 x; omega
            · exact ub1 A a1 (by omega) a2
          | succ k ihk =>
            intro s M1 hs sb fr1 le1 eq1 ub1
            have sl := sb.lt fl
            refine g65 _ _ _ _ _ ⟨fun h' => ?_, fun hpos => ?_⟩
            · refine nx M1 (fun c hc => by rw [fr1 c hc]; exact fr c hc) (Stg.step (fun S T e => e.le) sg (by omega) (by omega) le1 eq1 (fun T ⟨A, a1, a2, a3⟩ => ?_))
              rw [← hF] at a1
              rw [a3]
              by_cases c0 : A = 0
              · rw [c0, Nat.or_zero]; have := le1 x; omega
              · exact ub1 A a1 (by omega) a2
            · have f1 : M1 111 x = M 111 x := by
                have := le1 x
                rcases eq1 x with e | ⟨e, _⟩ <;> omega
              have xl : x ||| s < 2 ^ N := Nat.or_lt_two_pow (by omega) sl
              -- on to the next
              have on : ∀ M2 : Mem, (∀ c, c ≠ 111 → M2 c = M c) → (∀ T, M2 111 T ≤ M1 111 T) → (∀ T, M2 111 T = M1 111 T ∨ (M2 111 T = M 111 x + 1 ∧ Er h N q x T)) → (cdn s 12 ≤ q → M2 111 (x ||| s) ≤ M 111 x + 1) → b_X11_leastMinutes_119 G11 G40 G65 Post M2 ((2 ^ N - 1 : Nat) : Int) (x : Int) (F : Int) (s : Int) := by
                intro M2 fr2 le2 eq2 at2
                unfold b_X11_leastMinutes_119
                rw [wrap_id (by omega) (by omega), show (s : Int) - 1 = ((s - 1 : Nat) : Int) by omega, iand_n (by omega) (by omega)]
                rintro _ rfl
                have al : (s - 1) &&& F ≤ s - 1 := Nat.and_le_left
                refine ihk ((s - 1) &&& F) M2 (by omega) (fun u hu => ?_) fr2 (fun T => Int.le_trans (le2 T) (le1 T)) (fun T => ?_) (fun A a1 a2 a3 => ?_)
                · rw [Nat.testBit_and, Bool.and_eq_true] at hu
                  exact hu.2
                · rcases eq2 T with e | e
                  · rw [e]; exact eq1 T
                  · exact Or.inr e
                · by_cases c1 : s < A
                  · exact Int.le_trans (le2 _) (ub1 A a1 c1 a3)
                  · by_cases c2 : A = s
                    · rw [c2]; exact at2 (by rw [← c2]; exact a3)
                    · have se : ∀ B, sbs B F → B &&& F = B := fun B hB => by
                        apply Nat.eq_of_testBit_eq
                        intro u
                        rw [Nat.testBit_and]
                        cases hc : B.testBit u with
                        | false => rfl
                        | true => rw [hB u hc]; rfl
                      have := sub_next s F s A (Nat.le_refl s) (se s sb) (se A a1) (by omega)
                      omega
              refine m_size (by omega) ⟨fun c1 => on M1 fr1 (fun _ => Int.le_refl _) (fun _ => Or.inl rfl) (fun c2 => ?_), fun c1 => ?_⟩
              · rw [fr1 11 (by decide), fr 11 (by decide), hq] at c1
                omega
              · rw [fr1 11 (by decide), fr 11 (by decide), hq] at c1
                rw [ior_n (by omega) (by omega), tn, tn, f1, wrap_id (by omega) (by omega)]
                have ee : Er h N q x (x ||| s) := ⟨s, by rw [← hF]; exact sb, by omega, rfl⟩
                refine ⟨by omega, by omega, fun c2 => on M1 fr1 (fun _ => Int.le_refl _) (fun _ => Or.inl rfl) (fun _ => c2), fun c2 => ⟨by omega, by omega, ?_⟩⟩
                intro M2 h2
                have a2 : ∀ T, M2 111 T = if T = x ||| s then M 111 x + 1 else M1 111 T := fun T => by rw [h2, wr_app, if_pos rfl]
                refine on M2 (fun c hc => by rw [h2, wr_ne hc]; exact fr1 c hc) (fun T => ?_) (fun T => ?_) (fun _ => by rw [a2, if_pos rfl]; exact Int.le_refl _)
                · rw [a2 T]
                  by_cases e : T = x ||| s
                  · rw [if_pos e, e]; omega
                  · rw [if_neg e]; exact Int.le_refl _
                · rw [a2 T]
                  by_cases e : T = x ||| s
                  · rw [if_pos e, e]; exact Or.inr ⟨rfl, ee⟩
                  · rw [if_neg e]; exact Or.inl rfl
        exact inner F F M (Nat.le_refl F) (fun u hu => hu) (fun _ _ => rfl) (fun _ => Int.le_refl _) (fun _ => Or.inl rfl) (fun A a1 a2 _ => by have := a1.le; omega)
  -- the table's beginning
  refine upTo (P := fun x => ∀ M : Mem, (∀ c, c ≠ 111 → M c = μ c) → (∀ T, T < x → M 111 T = if T = 0 then 0 else 100) → G11 M ((2 ^ N - 1 : Nat) : Int) (x : Int)) (n := 2 ^ N) ?_ ?_ μ (fun _ _ => rfl) (fun T hT => absurd hT (by omega))
  · intro M fr c0
    refine g11 _ _ _ ⟨fun _ => main M fr (Stg.init (by rw [c0 0 p0, if_pos rfl]) (fun T hT hne => by rw [c0 T hT, if_neg hne])), fun h' => absurd h' (by omega)⟩
  · intro x hx ih M fr c0
    have wrt : ∀ v : Int, v = (if x = 0 then 0 else 100) → b_X11_leastMinutes_31 G11 G40 G65 Post M ((2 ^ N - 1 : Nat) : Int) (x : Int) (x : Int) v := by
      intro v hv
      unfold b_X11_leastMinutes_31
      rw [tn, wrap_id (by omega) (by omega), ← cs]
      refine ⟨by omega, ?_⟩
      rintro M2 h2 _ rfl
      refine ih M2 (fun c hc => by rw [h2, wr_ne hc]; exact fr c hc) (fun T hT => ?_)
      rw [h2]
      by_cases e : T = x
      · rw [e, wr_s]; exact hv
      · rw [wr_i e]; exact c0 T (by omega)
    refine g11 _ _ _ ⟨fun h' => absurd h' (by omega), fun _ => ⟨fun c => wrt 100 ?_, fun c => wrt 0 ?_⟩⟩
    · rw [if_neg (by omega)]
    · rw [if_pos (by omega)]
theorem o_least {μ : Mem} {p : Int} (hI : Inv μ) : wp_X10_least μ p (fun r μ1 => wp_X11_least μ1 p (Ok r)) := by
  obtain ⟨N, q, hN, hN', h12, hq, hq', q1, q4, hh, hl, hlb⟩ := hI.l
  have hb : ∀ i : Nat, i < N → -1 ≤ μ 88 i ∧ μ 88 i < i := fun i hi => (hh i hi).2
  unfold wp_X10_least b_X10_least_e
  rw [isFrom_iff]
  refine ⟨fun hp => ⟨fun _ => ⟨fun c => ?_, fun c => ?_⟩, fun h' => absurd h' (by decide)⟩, fun hp => ⟨fun h' => absurd rfl h', fun _ => ?_⟩⟩
  · refine k_least1 hN h12 hq q1 ?_
    unfold wp_X11_least
    intro G26 G40 h26 h40
    unfold b_X11_least_e
    refine in_iff.mpr ⟨fun _ => ⟨fun _ => ⟨fun _ => ?_, fun h' => absurd h' c⟩, fun h' => absurd h' (by decide)⟩, fun h' => absurd hp h'⟩
    exact m_least1 hN' h12 hq' q1 (fun i hi => (hh i hi).1) hb hl hlb h26 h40 (okI hI)
  · refine k_least0 hN h12 hq q4 (fun i hi => rfl) hb (fun M fr sg => ?_)
    have k1 : Kp μ M := fun c hc => fr c (by have := isP_c hc; omega)
    unfold wp_X11_least
    intro G26 G40 h26 h40
    unfold b_X11_least_e
    refine in_iff.mpr ⟨fun _ => ⟨fun _ => ⟨fun h' => absurd c h', fun _ => ?_⟩, fun h' => absurd h' (by decide)⟩, fun h' => absurd hp h'⟩
    refine m_least0 (h := μ 88) (by rw [k1 11 rfl]; exact hN') h12 (by rw [k1 11 rfl]; exact hq') (fun i hi => by rw [k1 102 rfl]; exact (hh i hi).1) hb (fun M2 fr2 sg2 => ⟨?_, hI.kp (k1.tr (fun c hc => fr2 c (by have := isP_c hc; omega)))⟩)
    exact sets_same h12 (fun j hj => (hb j hj).1) sg sg2
  · show wp_X11_least μ p (Ok _)
    unfold wp_X11_least
    intro G26 G40 h26 h40
    unfold b_X11_least_e
    exact in_iff.mpr ⟨fun h' => absurd h' hp, fun _ => ⟨fun h' => absurd rfl h', fun _ => okI hI⟩⟩
