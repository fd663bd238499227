/-! onTime, further -/
theorem k_longest {μ : Mem} {n k S : Nat} {o : Nat → Nat} (h8 : n ≤ 8) (hk : k < n) (ho : ∀ i, i < n → o i < n) (hS : S < 256) (hq : ∀ i, i < n → μ 80 i = o i) (hin : S.testBit (o k) = true) {Post : Pst} (hp : Post (lgo o (μ 24) S (k + 1)) μ) : wp_X0_longestOf μ (S : Int) (k : Int) Post := by
  unfold wp_X0_longestOf b_X0_longestOf_e
  intro G hG
  refine ⟨by omega, ?_⟩
  rw [tn, hq k hk, wrap_id (by omega) (by omega)]
  intro x hx y hy
  rw [hx, hy]
  have key : ∀ m, m ≤ k → ∀ p, LgP o (μ 24) S m (k + 1) p → G μ (S : Int) 24 (o p : Int) ((m : Int) - 1) := by
    intro m
    induction m with
    | zero =>
      intro _ p hpp
      refine hG _ _ _ _ _ ⟨fun _ => ?_, fun h' => absurd h' (by omega)⟩
      rcases lgo_lp (o := o) (f := μ 24) (S := S) (k + 1) with ⟨-, h⟩ | ⟨q, h, e⟩
      · rw [h k (by omega)] at hin; cases hin
      · rw [hpp.uq h, ← e]; exact hp
    | succ m ih =>
      intro hm p hpp
      have om := ho m (by omega)
      have hp1 := hpp.2.1
      have op := ho p (by omega)
      have em : (((m + 1 : Nat) : Int) - 1) = (m : Int) := by omega
      have keep : (S.testBit (o m) = true → μ 24 (o m) ≤ μ 24 (o p)) → G μ (S : Int) 24 (o p : Int) ((m : Int) - 1) := by
        intro hle
        refine ih (by omega) p ⟨by have := hpp.1; omega, hp1, hpp.2.2.1, fun j h1 h2 h3 => ?_⟩
        by_cases c : j = m
        · rw [c] at h3 ⊢
          exact ⟨hle h3, fun h => by have := hpp.1; omega⟩
        · exact hpp.2.2.2 j (by omega) h2 h3
      rw [em]
      refine hG _ _ _ _ _ ⟨fun h' => absurd h' (by omega), fun _ => ⟨by omega, ?_⟩⟩
      unfold b_X0_longestOf_67
      rw [tn, hq m (by omega), wrap_id (by omega) (by omega), show (m : Int) + -1 = (m : Int) - 1 by omega]
      refine s_isIn (by omega) (by omega) ?_
      cases hc : S.testBit (o m) with
      | false =>
        refine ⟨fun _ => ?_, fun h' => absurd rfl h'⟩
        rintro _ rfl
        exact keep (fun h => by rw [hc] at h; cases h)
      | true =>
        refine ⟨fun h' => absurd h' (by decide), fun _ => ⟨by omega, ?_⟩⟩
        rw [hq m (by omega), tn, tn]
        refine ⟨⟨by decide, by decide, by omega, by show _ < ((8 : Nat) : Int); omega⟩, ⟨by decide, by decide, by omega, by show _ < ((8 : Nat) : Int); omega⟩, fun hle => ?_, fun hgt => ⟨by omega, ?_⟩⟩
        · rintro _ rfl
          exact keep (fun _ => hle)
        · rintro _ rfl _ rfl
          refine ih (by omega) m ⟨Nat.le_refl m, by omega, hc, fun j h1 h2 h3 => ?_⟩
          by_cases c : j = m
          · rw [c]; exact ⟨Int.le_refl _, fun h => by omega⟩
          · have := (hpp.2.2.2 j (by omega) h2 h3).1
            exact ⟨by omega, fun _ => by omega⟩
  refine key k (Nat.le_refl k) k ⟨Nat.le_refl k, by omega, hin, fun j h1 h2 h3 => ?_⟩
  rw [show j = k by omega]
  exact ⟨Int.le_refl _, fun h => by omega⟩
theorem wsum_add {f : Nat → Int} {S w i : Nat} (hw : w < i) (hs : S.testBit w = false) : wsum f (S ||| 2 ^ w) i = wsum f S i + f w := by
  have h1 : (S ||| 2 ^ w).testBit w = true := by rw [Nat.testBit_or, Nat.testBit_two_pow_self, Bool.or_true]
  have h2 := wsum_rm (f := f) hw h1
  have h3 : wsum f (ndf (S ||| 2 ^ w) (2 ^ w)) i = wsum f S i := by
    apply wsum_cg
    intro u _
    rw [ndf_bit, Nat.testBit_or, Nat.testBit_two_pow]
    by_cases e : w = u
    · rw [← e, hs]; simp
    · simp [e]
  omega
theorem wsum_zero {f : Nat → Int} (i : Nat) : wsum f 0 i = 0 := by
  induction i with
  | zero => rfl
  | succ i ih => unfold wsum; rw [ih, Nat.zero_testBit]; rfl
def otA (o : Nat → Nat) (S k : Nat) : Nat := S ||| 2 ^ o k
def otS (o : Nat → Nat) (f : Nat → Int) (d : Nat → Int → Int) (n : Nat) : Nat → Nat
  | 0 => 0
  | k + 1 => if 0 < d (o k) (wsum f (otA o (otS o f d n k) k) n) then ndf (otA o (otS o f d n k) k) (2 ^ (lgo o f (otA o (otS o f d n k) k) (k + 1)).toNat) else otA o (otS o f d n k) k
theorem otS_in {o : Nat → Nat} {f : Nat → Int} {d : Nat → Int → Int} {n : Nat} (k : Nat) : ∀ u, (otS o f d n k).testBit u = true → ∃ j, j < k ∧ o j = u := by
  induction k with
  | zero => intro u hu; simp [otS] at hu
  | succ k ih =>
    have hA : ∀ u, (otA o (otS o f d n k) k).testBit u = true → ∃ j, j < k + 1 ∧ o j = u := by
      intro u hu
      unfold otA at hu
      rw [Nat.testBit_or, Bool.or_eq_true, Nat.testBit_two_pow, decide_eq_true_eq] at hu
      rcases hu with hu | hu
      · obtain ⟨j, h1, h2⟩ := ih u hu
        exact ⟨j, by omega, h2⟩
      · exact ⟨k, by omega, hu⟩
    intro u hu
    unfold otS at hu
    split at hu
    · rw [ndf_bit, Bool.and_eq_true] at hu
      exact hA u hu.1
    · exact hA u hu
theorem ot_ok {o : Nat → Nat} {f : Nat → Int} {d : Nat → Int → Int} {n k : Nat} (hP : Pm o n) (hk : k < n) : otS o f d n k < 2 ^ n ∧ otA o (otS o f d n k) k < 2 ^ n ∧ (otA o (otS o f d n k) k).testBit (o k) = true ∧ wsum f (otA o (otS o f d n k) k) n = wsum f (otS o f d n k) n + f (o k) := by
  have h1 : otS o f d n k < 2 ^ n := lt_of_bits (fun u hu => by
    obtain ⟨j, hj, e⟩ := otS_in k u hu
    rw [← e]
    exact hP.1 j (by omega))
  have hf : (otS o f d n k).testBit (o k) = false := by
    cases hc : (otS o f d n k).testBit (o k) with
    | false => rfl
    | true =>
      obtain ⟨j, hj, e⟩ := otS_in k _ hc
      have := hP.2 j k (by omega) hk e
      omega
  refine ⟨h1, Nat.or_lt_two_pow h1 (Nat.pow_lt_pow_right (by decide) (hP.1 k hk)), ?_, wsum_add (hP.1 k hk) hf⟩
  unfold otA
  rw [Nat.testBit_or, Nat.testBit_two_pow_self, Bool.or_true]
theorem lgo_ok {o : Nat → Nat} {f : Nat → Int} {S n k : Nat} (hP : Pm o n) (hk : k < n) (hin : S.testBit (o k) = true) : ∃ w : Nat, lgo o f S (k + 1) = w ∧ w < n ∧ S.testBit w = true := by
  rcases lgo_lp (o := o) (f := f) (S := S) (k + 1) with ⟨-, h⟩ | ⟨q, h, e⟩
  · rw [h k (by omega)] at hin; cases hin
  · exact ⟨o q, e, hP.1 q (by have := h.2.1; omega), h.2.2.1⟩
theorem k_onTime {μ : Mem} (h : Inv μ) {n : Nat} (hn : μ 1 0 = n) (h8 : n ≤ 8) {Post : Pst} (hp : ∀ (μ' : Mem) (o : Nat → Nat), (∀ c, c ≠ 80 → μ' c = μ c) → Srt (KD μ) o n → Post ((otS o (μ 24) (lte μ) n n : Nat) : Int) μ') : wp_X0_fewestLate μ Post := by
  have p8 := pow8 h8
  unfold wp_X0_fewestLate b_X0_fewestLate_e
  intro G hG
  refine k_byDue h hn h8 (fun μ1 o fr so cc => ?_)
  have k1 : Kp μ μ1 := fun c hc => fr c (by have := isP_c hc; omega)
  have I1 := h.kp k1
  have n1 : μ1 1 0 = n := by rw [k1 1 rfl]; exact hn
  have e0 : G μ1 (otS o (μ 24) (lte μ) n 0 : Int) (wsum (μ 24) (otS o (μ 24) (lte μ) n 0) n) ((0 : Nat) : Int) = G μ1 0 0 0 := by rw [show wsum (μ 24) (otS o (μ 24) (lte μ) n 0) n = 0 from wsum_zero n]; rfl
  rw [← e0]
  refine upTo (P := fun k => G μ1 (otS o (μ 24) (lte μ) n k : Int) (wsum (μ 24) (otS o (μ 24) (lte μ) n k) n) (k : Int)) (n := n) ?_ ?_
  · exact hG _ _ _ _ ⟨fun _ => hp μ1 o fr so, fun h' => absurd h' (by omega)⟩
  · intro k hk ih
    obtain ⟨t1, t2, t3, t4⟩ := ot_ok (f := μ 24) (d := lte μ) so.1 hk
    have ok := so.1.1 k hk
    have q := h.w hn ok
    have e1 : otS o (μ 24) (lte μ) n (k + 1) = if 0 < lte μ (o k) (wsum (μ 24) (otA o (otS o (μ 24) (lte μ) n k) k) n) then ndf (otA o (otS o (μ 24) (lte μ) n k) k) (2 ^ (lgo o (μ 24) (otA o (otS o (μ 24) (lte μ) n k) k) (k + 1)).toNat) else otA o (otS o (μ 24) (lte μ) n k) k := rfl
    have e2 : ((otS o (μ 24) (lte μ) n k ||| 2 ^ o k : Nat) : Int) = (otA o (otS o (μ 24) (lte μ) n k) k : Int) := rfl
    rw [e1, cs] at ih
    obtain ⟨S, hS⟩ : ∃ S, S = otA o (otS o (μ 24) (lte μ) n k) k := ⟨_, rfl⟩
    have wb := wsum_bd (f := μ 24) (B := 40) (S := S) (i := n) (by decide) (fun u hu => by have := h.w hn hu; omega)
    rw [← hS] at t2 t3 t4 ih e2
    refine hG _ _ _ _ ⟨fun h' => absurd h' (by omega), fun _ => ⟨by omega, ?_⟩⟩
    rw [tn, cc k hk]
    intro x hx
    rw [hx, tn, ishl_n (by omega), ior_n (by omega) (pow_lt31 (by omega)), k1 24 rfl, ← t4, e2, wrap_id (by omega) (by omega)]
    intro x1 hx1
    refine ⟨by omega, ?_⟩
    intro x2 hx2
    rw [hx1, hx2]
    refine s_late I1 n1 h8 ok wb.1 (by omega) ?_
    rw [lte_cg k1]
    unfold b_X0_fewestLate_96
    rw [wrap_id (x := (k : Int) + 1) (by omega) (by omega)]
    refine ⟨fun hle => ?_, fun hgt => ?_⟩
    · rintro _ rfl
      rw [if_neg (by omega)] at ih
      exact ih
    · rw [if_pos (by omega)] at ih
      obtain ⟨w, hw1, hw2, hw3⟩ := lgo_ok (f := μ 24) so.1 hk t3
      refine k_longest h8 hk so.1.1 (by omega) cc t3 ?_
      rw [k1 24 rfl, hw1]
      rw [hw1, tn] at ih
      have wr' := wsum_rm (f := μ 24) hw2 hw3
      have wb2 := wsum_bd (f := μ 24) (B := 40) (S := ndf S (2 ^ w)) (i := n) (by decide) (fun u hu => by have := h.w hn hu; omega)
      rw [ishl_n (by omega), iandn_n (by omega) (pow_lt31 (by omega)), tn, ← wr', wrap_id (by omega) (by omega)]
      intro y1 hy1
      refine ⟨by omega, ?_⟩
      rintro _ rfl _ rfl
      rw [hy1]
      exact ih
theorem m_onTime {μ μ1 : Mem} (h : Inv μ) (k1 : Kp μ μ1) {n : Nat} (hn : μ 1 0 = n) (h8 : n ≤ 8) (hm : μ 11 0 = n) {Post : Pst} (hp : ∀ (μ' : Mem) (o : Nat → Nat), Kp μ1 μ' → Srt (KD μ) o n → Post ((otS o (μ 24) (lte μ) n n : Nat) : Int) μ') : wp_X11_onTime μ1 Post := by
  have p8 := pow8 h8
  unfold wp_X11_onTime b_X11_onTime_e
  intro G10 G64 h10 h64
  refine m_byDue h k1 hn h8 hm (fun μ2 o fr so cc => ?_)
  have k2' : Kp μ1 μ2 := fun c hc => fr c (by have := isP_c hc; omega)
  have k2 := k1.tr k2'
  have m2 : μ2 11 0 = n := by rw [k2 11 rfl]; exact hm
  have e90 : ∀ w, w < n → μ2 90 w = μ 24 w := fun w hw => by rw [k2 90 rfl]; exact (h.w hn hw).1.1
  have e92 : ∀ w, w < n → μ2 92 w = μ 26 w := fun w hw => by rw [k2 92 rfl]; exact (h.w hn hw).2.2.1.1
  have e0 : G10 μ2 (otS o (μ 24) (lte μ) n 0 : Int) (wsum (μ 24) (otS o (μ 24) (lte μ) n 0) n) ((0 : Nat) : Int) = G10 μ2 0 0 0 := by rw [show wsum (μ 24) (otS o (μ 24) (lte μ) n 0) n = 0 from wsum_zero n]; rfl
  rw [← e0]
  refine upTo (P := fun k => G10 μ2 (otS o (μ 24) (lte μ) n k : Int) (wsum (μ 24) (otS o (μ 24) (lte μ) n k) n) (k : Int)) (n := n) ?_ ?_
  · exact h10 _ _ _ _ ⟨fun _ => hp μ2 o k2' so, fun h' => absurd h' (by omega)⟩
  · intro k hk ih
    obtain ⟨t1, t2, t3, t4⟩ := ot_ok (f := μ 24) (d := lte μ) so.1 hk
    have ok := so.1.1 k hk
    have q := h.w hn ok
    have e1 : otS o (μ 24) (lte μ) n (k + 1) = if 0 < lte μ (o k) (wsum (μ 24) (otA o (otS o (μ 24) (lte μ) n k) k) n) then ndf (otA o (otS o (μ 24) (lte μ) n k) k) (2 ^ (lgo o (μ 24) (otA o (otS o (μ 24) (lte μ) n k) k) (k + 1)).toNat) else otA o (otS o (μ 24) (lte μ) n k) k := rfl
    have e2 : ((otS o (μ 24) (lte μ) n k ||| 2 ^ o k : Nat) : Int) = (otA o (otS o (μ 24) (lte μ) n k) k : Int) := rfl
    rw [e1, cs] at ih
    obtain ⟨S, hS⟩ : ∃ S, S = otA o (otS o (μ 24) (lte μ) n k) k := ⟨_, rfl⟩
    have wb := wsum_bd (f := μ 24) (B := 40) (S := S) (i := n) (by decide) (fun u hu => by have := h.w hn hu; omega)
    rw [← hS] at t2 t3 t4 ih e2
    refine h10 _ _ _ _ ⟨fun h' => absurd h' (by omega), fun _ => ⟨by omega, ?_⟩⟩
    rw [tn, cc k hk, tn, ishl_n (by omega), ior_n (by omega) (pow_lt31 (by omega)), e90 _ ok, e92 _ ok, ← t4, e2, wrap_id (by omega) (by omega)]
    intro x1 hx1
    refine ⟨by omega, by omega, ?_⟩
    intro x2 hx2
    rw [hx1, hx2]
    have dl := imax_d 0 (wsum (μ 24) S n - μ 26 (o k))
    have el : lte μ (o k) (wsum (μ 24) S n) = imax 0 (wsum (μ 24) S n - μ 26 (o k)) := rfl
    unfold b_X11_onTime_164
    rw [wrap_id (x := (k : Int) + 1) (by omega) (by omega)]
    refine ⟨by omega, by omega, fun hle => ?_, fun hgt => ?_⟩
    · rintro _ rfl
      rw [if_neg (by omega)] at ih
      exact ih
    · rw [if_pos (by omega)] at ih
      obtain ⟨w, hw1, hw2, hw3⟩ := lgo_ok (f := μ 24) so.1 hk t3
      refine upTo (P := fun j => G64 μ2 (S : Int) (wsum (μ 24) S n) (k : Int) (lgo o (μ 24) S j) (j : Int)) (n := k + 1) ?_ ?_
      · rw [hw1, tn] at ih
        refine h64 _ _ _ _ _ _ ⟨fun _ => ?_, fun h' => absurd h' (by omega)⟩
        have wr' := wsum_rm (f := μ 24) hw2 hw3
        have wb2 := wsum_bd (f := μ 24) (B := 40) (S := ndf S (2 ^ w)) (i := n) (by decide) (fun u hu => by have := h.w hn hu; omega)
        unfold b_X11_onTime_164
        rw [hw1, ishl_n (by omega), iandn_n (by omega) (pow_lt31 (by omega)), tn, e90 _ hw2, ← wr', wrap_id (by omega) (by omega), wrap_id (by omega) (by omega)]
        intro y1 hy1
        refine ⟨by omega, ?_⟩
        rintro _ rfl _ rfl
        rw [hy1]
        exact ih
      · intro j hj ihj
        have oj := so.1.1 j (by omega)
        have lr := lgo_lp (o := o) (f := μ 24) (S := S) j
        rw [cs] at ihj
        unfold lgo at ihj
        obtain ⟨x, hx⟩ : ∃ x, x = lgo o (μ 24) S j := ⟨_, rfl⟩
        rw [← hx] at lr ihj ⊢
        refine h64 _ _ _ _ _ _ ⟨fun h' => absurd h' (by omega), fun _ => ⟨by omega, ?_⟩⟩
        unfold b_X11_onTime_117 b_X11_onTime_113 b_X11_onTime_118 b_X11_onTime_137
        rw [tn, cc j (by omega), bit1_n (by omega) (by omega), tn, wrap_id (by omega) (by omega), e90 _ oj]
        cases hc : S.testBit (o j) with
        | false =>
          rw [hc, if_neg (by simp)] at ihj
          refine ⟨fun _ => ⟨fun _ => ?_, fun h' => absurd rfl h'⟩, fun h' => absurd h' (by decide)⟩
          rintro _ rfl
          exact ihj
        | true =>
          rw [hc] at ihj
          refine ⟨fun h' => absurd rfl h', fun _ => ⟨fun c1 => ⟨fun h' => absurd h' (by decide), fun _ => ⟨by omega, ?_⟩⟩, fun c1 => ?_⟩⟩
          · rw [if_pos ⟨rfl, Or.inl c1⟩] at ihj
            rintro _ rfl
            exact ihj
          · rcases lr with ⟨e, -⟩ | ⟨p, hpp, e⟩
            · exact absurd e c1
            · have op := so.1.1 p (by have := hpp.2.1; omega)
              rw [e, tn] at ihj
              rw [e, tn, e90 _ op]
              refine ⟨by omega, by omega, by omega, fun hlt => ⟨fun _ => ?_, fun h' => absurd rfl h'⟩, fun hge => ⟨fun h' => absurd h' (by decide), fun _ => ⟨by omega, ?_⟩⟩⟩
              · rw [if_neg (by intro hh; omega)] at ihj
                rintro _ rfl
                exact ihj
              · rw [if_pos ⟨rfl, Or.inr (by omega)⟩] at ihj
                rintro _ rfl
                exact ihj
theorem lgo_cg {o o' : Nat → Nat} {f : Nat → Int} {S i : Nat} (h : ∀ j, j < i → o j = o' j) : lgo o f S i = lgo o' f S i := by
  induction i with
  | zero => rfl
  | succ i ih => unfold lgo; rw [ih (fun j hj => h j (by omega)), h i (by omega)]
theorem otS_cg {o o' : Nat → Nat} {f : Nat → Int} {d : Nat → Int → Int} {n i : Nat} (h : ∀ j, j < i → o j = o' j) : otS o f d n i = otS o' f d n i := by
  induction i with
  | zero => rfl
  | succ i ih =>
    unfold otS otA
    rw [ih (fun j hj => h j (by omega)), h i (by omega), lgo_cg h]
theorem o_onTime {μ : Mem} (hI : Inv μ) : wp_X10_onTime μ (fun r μ1 => wp_X11_onTime μ1 (Ok r)) := by
  obtain ⟨n, hn, h8, hm⟩ := hI.n
  unfold wp_X10_onTime b_X10_onTime_e
  refine k_onTime hI hn h8 (fun μ1 o fr so => ?_)
  have k1 : Kp μ μ1 := fun c hc => fr c (by have := isP_c hc; omega)
  refine m_onTime hI k1 hn h8 hm (fun μ2 o' k2 so' => ⟨?_, hI.kp (k1.tr k2)⟩)
  rw [otS_cg (so.uq (KD_inj h8) so')]
