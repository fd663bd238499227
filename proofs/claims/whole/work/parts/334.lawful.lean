/-! What an order makes: the other side; sets of works and lawful orders. -/
theorem m_makes {μ : Mem} (h : Inv μ) {n : Nat} (hn : μ 1 0 = n) (h8 : n ≤ 8) (hm : μ 11 0 = n) {aim : Nat} (ha : aim < 5) {o : Nat → Nat} (ho : ∀ i, i < n → o i < n) (hq : ∀ i, i < n → μ 103 i = o i) {Post : Pst} (hp : Post (rn μ aim s0 o 0 n).2.2 μ) : wp_X11_makes μ (aim : Int) Post := by
  unfold wp_X11_makes b_X11_makes_e
  intro G hG
  have key : G μ (aim : Int) (rn μ aim s0 o 0 0).2.1 (if aim = 0 then 0 else (rn μ aim s0 o 0 0).2.2) ((0 : Nat) : Int) := by
    refine upTo (P := fun i => G μ (aim : Int) (rn μ aim s0 o 0 i).2.1 (if aim = 0 then 0 else (rn μ aim s0 o 0 i).2.2) (i : Int)) (n := n) ?_ ?_
    · refine hG _ _ _ _ _ ⟨fun _ => ⟨fun h' => ?_, fun h' => ?_⟩, fun h' => absurd h' (by omega)⟩
      · rw [if_neg (by omega)]; exact hp
      · have : aim = 0 := by omega
        subst this
        rw [rn_m0 h hn h8 ho (Nat.le_refl n)] at hp
        exact hp
    · intro i hi ih
      have sb := sb_rn h hn h8 ho (aim := aim) (j := i) (by omega)
      have ht : (rn μ aim s0 o 0 i).1 = if i = 0 then -1 else μ 28 (o (i - 1)) := by
        cases i with
        | zero => rfl
        | succ i => rw [if_neg (by omega)]; show μ 28 (o (0 + i)) = _; rw [Nat.zero_add, Nat.add_sub_cancel]
      obtain ⟨s, hs⟩ : ∃ s, s = rn μ aim s0 o 0 i := ⟨_, rfl⟩
      have e : rn μ aim s0 o 0 (i + 1) = ex μ aim s (o i) := by rw [hs]; show ex _ _ _ (o (0 + i)) = _; rw [Nat.zero_add]
      rw [e, cs] at ih
      rw [← hs] at sb ht ⊢
      have hw := ho i hi
      have q := h.w hn hw
      have c := chf_bd h hn hw (t := s.1) sb.1.1 sb.1.2
      have b := eb_bd h hn hw (s.2.1 + chf μ s.1 (o i))
      have d := imax_d (s.2.1 + chf μ s.1 (o i)) 99
      have e1 := sb.2.1
      have e2 := sb.2.2
      have E0 : eb μ (s.2.1 + chf μ s.1 (o i)) (o i) = imax (s.2.1 + chf μ s.1 (o i)) (μ 25 (o i)) + μ 24 (o i) := rfl
      have ihx : G μ (aim : Int) (eb μ (s.2.1 + chf μ s.1 (o i)) (o i)) (if aim = 0 then 0 else gth μ aim s.2.2 (o i) (eb μ (s.2.1 + chf μ s.1 (o i)) (o i))) ((i : Int) + 1) := ih
      obtain ⟨E, hE⟩ : ∃ E, E = eb μ (s.2.1 + chf μ s.1 (o i)) (o i) := ⟨_, rfl⟩
      rw [← hE] at ihx b
      have l := lte_bd h hn hw (e := E) (by omega)
      have p1 := mul_bd q.2.2.2.1.2.1 q.2.2.2.1.2.2 (b := E) (by omega) (by omega)
      have p2 := mul_bd q.2.2.2.1.2.1 q.2.2.2.1.2.2 l.1 (by omega)
      -- behind the begin
      have rest : ∀ x, x = s.2.1 + chf μ s.1 (o i) → b_X11_makes_65 G Post μ (aim : Int) (if aim = 0 then 0 else s.2.2) (i : Int) (o i : Int) x := by
        intro x hx
        have last : ∀ y, y + μ 24 (o i) = E → b_X11_makes_91 G Post μ (aim : Int) (if aim = 0 then 0 else s.2.2) (i : Int) (o i : Int) y := by
          intro y hy
          unfold b_X11_makes_91
          rw [tn, q.1.1, q.2.2.1.1]
          refine ⟨by omega, ?_⟩
          rw [hy, wrap_id (by omega) (by omega)]
          intro x' hx'
          rw [hx']
          have fin : ∀ z, z = lte μ (o i) E → b_X11_makes_128 G Post μ (aim : Int) E (if aim = 0 then 0 else s.2.2) (i : Int) (o i : Int) z := by
            intro z hz
            unfold b_X11_makes_128 b_X11_makes_216 b_X11_makes_188 b_X11_makes_214 b_X11_makes_216
            rw [tn, q.2.2.2.1.1, hz, wrap_id (x := (i : Int) + 1) (by omega) (by omega)]
            unfold gth at ihx
            have ac : aim = 0 ∨ aim = 1 ∨ aim = 2 ∨ aim = 3 ∨ aim = 4 := by omega
            rcases ac with rfl | rfl | rfl | rfl | rfl
            · refine ⟨fun _ => ⟨fun _ => ⟨fun _ => ⟨fun _ => ?_, fun h' => by omega⟩, fun h' => by omega⟩, fun h' => by omega⟩, fun h' => by omega⟩
              intro x1 h1
              rw [h1]
              exact ihx
            · refine ⟨fun h' => absurd h' (by omega), fun _ => ⟨by omega, ?_⟩⟩
              rw [if_neg (by decide), if_neg (by decide), if_pos rfl] at ihx
              rw [if_neg (by decide), wrap_id (x := μ 27 (o i) * E) (by omega) (by omega), wrap_id (by omega) (by omega)]
              intro x1 h1 x2 h2
              rw [h1, h2]
              exact ihx
            · refine ⟨fun _ => ⟨fun h' => absurd h' (by omega), fun _ => ⟨by omega, ?_⟩⟩, fun h' => by omega⟩
              rw [if_neg (by decide), if_neg (by decide), if_neg (by decide), if_pos rfl] at ihx
              rw [if_neg (by decide), wrap_id (x := μ 27 (o i) * lte μ (o i) E) (by omega) (by omega), wrap_id (by omega) (by omega)]
              intro x1 h1 x2 h2
              rw [h1, h2]
              exact ihx
            · refine ⟨fun _ => ⟨fun _ => ⟨fun h' => absurd h' (by omega), fun _ => ⟨fun h1 => ?_, fun h1 => ?_⟩⟩, fun h' => by omega⟩, fun h' => by omega⟩
              all_goals
                rw [if_neg (by decide)] at h1
                try rw [if_neg (show ¬ 3 = 0 by decide)]
                rw [if_neg (by decide), if_neg (by decide), if_neg (by decide), if_neg (by decide), if_pos rfl] at ihx
                have d3 := imax_d s.2.2 (lte μ (o i) E)
                intro x1 h2
                rw [h2]
              · rw [show imax s.2.2 (lte μ (o i) E) = s.2.2 by omega] at ihx; exact ihx
              · rw [show imax s.2.2 (lte μ (o i) E) = lte μ (o i) E by omega] at ihx; exact ihx
            · refine ⟨fun _ => ⟨fun _ => ⟨fun _ => ⟨fun h' => absurd h' (by omega), fun _ => ⟨fun h1 => ?_, fun h1 => ⟨by omega, ?_⟩⟩⟩, fun h' => by omega⟩, fun h' => by omega⟩, fun h' => by omega⟩
              · rw [if_neg (by decide), if_neg (by decide), if_neg (by decide), if_neg (by decide), if_neg (by decide), if_neg (by omega)] at ihx
                rw [if_neg (by decide), Int.add_zero, wrap_id (by omega) (by omega)]
                intro x1 h2 x2 h3
                rw [h2, h3]
                exact ihx
              · rw [if_neg (by decide), if_neg (by decide), if_neg (by decide), if_neg (by decide), if_neg (by decide), if_pos (by omega)] at ihx
                rw [if_neg (by decide), wrap_id (by omega) (by omega)]
                intro x1 h2 x2 h3
                rw [h2, h3]
                exact ihx
          have dl := imax_d 0 (E - μ 26 (o i))
          have el : lte μ (o i) E = imax 0 (E - μ 26 (o i)) := rfl
          refine ⟨by omega, fun h1 => fin 0 (by omega), fun h1 => ⟨by omega, fin _ ?_⟩⟩
          rw [wrap_id (by omega) (by omega)]
          omega
        unfold b_X11_makes_65
        rw [tn, q.2.1.1]
        have d4 := imax_d (s.2.1 + chf μ s.1 (o i)) (μ 25 (o i))
        exact ⟨by omega, fun h1 => last _ (by omega), fun h1 => ⟨by omega, last _ (by omega)⟩⟩
      refine hG _ _ _ _ _ ⟨fun h' => absurd h' (by omega), fun _ => ⟨by omega, ?_⟩⟩
      intro x hx
      rw [tn, hq i hi] at hx
      rw [hx]
      refine ⟨fun h1 => ?_, fun h1 => ?_⟩
      · have hi1 : i - 1 < n := by omega
        have hw1 := ho _ hi1
        have q1 := h.w hn hw1
        have e1 : ((i : Int) - 1).toNat = i - 1 := by omega
        rw [wrap_id (x := (i : Int) - 1) (by omega) (by omega), e1, hq _ hi1, tn, tn, q1.2.2.2.2.1, q.2.2.2.2.1]
        have cc := h.c (f := (μ 28 (o (i - 1))).toNat) (t := (μ 28 (o i)).toNat) (by omega) (by omega)
        have e2 : (3 * μ 28 (o (i - 1)) + μ 28 (o i)).toNat = 3 * (μ 28 (o (i - 1))).toNat + (μ 28 (o i)).toNat := by omega
        rw [wrap_id (x := 3 * μ 28 (o (i - 1))) (by omega) (by omega), wrap_id (x := 3 * μ 28 (o (i - 1)) + μ 28 (o i)) (by omega) (by omega), e2, cc.1, wrap_id (by omega) (by omega)]
        refine ⟨by omega, by omega, by omega, by omega, rest _ ?_⟩
        unfold chf
        rw [ht, if_neg (by omega), if_neg (by omega)]
      · have : i = 0 := by omega
        subst this
        refine rest 0 ?_
        rw [hs]
        rfl
  have e : (if aim = 0 then (0 : Int) else (rn μ aim s0 o 0 0).2.2) = 0 := by split <;> rfl
  rw [e] at key
  exact key
/-- the works of the first k places -/
def bs (o : Nat → Nat) : Nat → Nat
  | 0 => 0
  | k + 1 => bs o k ||| 2 ^ o k
theorem bs_bit {o : Nat → Nat} {k u : Nat} : (bs o k).testBit u = true ↔ ∃ j, j < k ∧ o j = u := by
  induction k with
  | zero => simp [bs]
  | succ k ih =>
    unfold bs
    rw [Nat.testBit_or, Nat.testBit_two_pow, Bool.or_eq_true, ih, decide_eq_true_eq]
    constructor
    · rintro (⟨j, hj, e⟩ | e)
      · exact ⟨j, by omega, e⟩
      · exact ⟨k, by omega, e⟩
    · rintro ⟨j, hj, e⟩
      by_cases h : j = k
      · subst h; exact Or.inr e
      · exact Or.inl ⟨j, by omega, e⟩
theorem lt_of_bits {a n : Nat} (h : ∀ u, a.testBit u = true → u < n) : a < 2 ^ n := by
  apply Nat.lt_pow_two_of_testBit
  intro i hi
  cases hc : a.testBit i with
  | false => rfl
  | true => exact absurd (h i hc) (by omega)
theorem bs_lt {o : Nat → Nat} {k n : Nat} (ho : ∀ i, i < k → o i < n) : bs o k < 2 ^ n := lt_of_bits (fun u hu => by
  obtain ⟨j, hj, e⟩ := bs_bit.mp hu
  have := ho j hj
  omega)
theorem bs_cg {o o' : Nat → Nat} {k : Nat} (h : ∀ i, i < k → o i = o' i) : bs o k = bs o' k := by
  induction k with
  | zero => rfl
  | succ k ih => unfold bs; rw [ih (fun i hi => h i (by omega)), h k (by omega)]
theorem ndf_zero {a b : Nat} : ndf a b = 0 ↔ ∀ u, a.testBit u = true → b.testBit u = true := by
  constructor
  · intro h u hu
    have h1 := congrArg (fun x => x.testBit u) h
    simp only [ndf_bit, Nat.zero_testBit, hu, Bool.true_and] at h1
    cases hb : b.testBit u with
    | true => rfl
    | false => rw [hb] at h1; cases h1
  · intro h
    apply Nat.eq_of_testBit_eq
    intro u
    rw [ndf_bit, Nat.zero_testBit]
    cases ha : a.testBit u with
    | false => rfl
    | true => rw [h u ha]; rfl
def Ad (μ : Mem) (w : Nat) : Nat := (μ 74 w).toNat
theorem Inv.a {μ : Mem} (h : Inv μ) {n : Nat} (hn : μ 1 0 = n) (h8 : n ≤ 8) : (∀ w, w < 8 → μ 74 w = Ad μ w) ∧ (∀ w, w < n → μ 95 w = Ad μ w) ∧ (∀ w, w < 8 → n ≤ w → Ad μ w = 0) ∧ (∀ w, w < 8 → Ad μ w < 256) ∧ ∃ rk : Nat → Nat, ∀ u w, w < 8 → (Ad μ w).testBit u = true → u < n ∧ rk u < rk w := by
  obtain ⟨A, rk, a1, a2, a3, a4⟩ := h.2.2.2.1
  have e : ∀ w, w < 8 → Ad μ w = A w := fun w hw => by unfold Ad; rw [a1 w hw]; omega
  refine ⟨fun w hw => by rw [e w hw]; exact a1 w hw, fun w hw => by rw [e w (by omega)]; exact a2 w (by omega), fun w hw hnw => by rw [e w hw]; exact a3 w (by omega), fun w hw => ?_, rk, fun u w hw hu => ?_⟩
  · rw [e w hw]
    refine lt_of_bits (n := 8) (fun u hu => ?_)
    have := (a4 u w hu).1
    omega
  · rw [e w hw] at hu
    have := a4 u w hu
    exact ⟨by omega, this.2⟩
def Law (μ : Mem) (o : Nat → Nat) (n : Nat) : Prop := ∀ i, i < n → ndf (Ad μ (o i)) (bs o i) = 0
theorem s_mayFollow {μ : Mem} (h : Inv μ) {n : Nat} (hn : μ 1 0 = n) (h8 : n ≤ 8) {S w : Nat} (hS : S < 256) (hw : w < n) {Post : Pst} (h1 : S.testBit w = false → ndf (Ad μ w) S = 0 → Post 1 μ) (h0 : ¬ (S.testBit w = false ∧ ndf (Ad μ w) S = 0) → Post 0 μ) : wp_X9_mayFollow μ (S : Int) (w : Int) Post := by
  unfold wp_X9_mayFollow b_X9_mayFollow_e
  obtain ⟨a1, a2, a3, a4, -⟩ := h.a hn h8
  refine s_isIn (by omega) (by omega) ?_
  have e : iand (μ 74 w) (ixor (S : Int) (-1)) = ((ndf (Ad μ w) S : Nat) : Int) := by
    have := a4 w (by omega)
    rw [a1 w (by omega)]
    exact iandn_n (by omega) (by omega)
  rw [tn, e]
  cases hb : S.testBit w with
  | true => exact ⟨fun _ => h0 (fun hc => by rw [hb] at hc; cases hc.1), fun h' => absurd h' (by decide)⟩
  | false =>
    refine ⟨fun h' => absurd rfl h', fun _ => ⟨by omega, fun h' => h0 (fun hc => ?_), fun h' => h1 hb (by omega)⟩⟩
    have := hc.2
    omega
theorem k_keeps {μ : Mem} (h : Inv μ) {n : Nat} (hn : μ 1 0 = n) (h8 : n ≤ 8) {o : Nat → Nat} (ho : ∀ i, i < n → o i < n) (hinj : ∀ i j, i < n → j < n → o i = o j → i = j) (hq : ∀ i, i < n → μ 75 i = o i) {Post : Pst} (h1 : Law μ o n → Post 1 μ) (h0 : ¬ Law μ o n → Post 0 μ) : wp_X9_keepsAhead μ Post := by
  unfold wp_X9_keepsAhead b_X9_keepsAhead_e
  intro G hG
  refine upTo (P := fun i => Law μ o i → G μ (bs o i : Int) (i : Int)) (n := n) ?_ ?_ (fun i hi => absurd hi (by omega))
  · intro hl
    exact hG _ _ _ ⟨fun _ => h1 hl, fun h' => absurd h' (by omega)⟩
  · intro i hi ih hl
    have hb : bs o i < 256 := Nat.lt_of_lt_of_le (bs_lt (n := n) (fun j hj => ho j (by omega))) (Nat.pow_le_pow_right (n := 2) (j := 8) (by decide) h8)
    have hf : (bs o i).testBit (o i) = false := by
      cases hc : (bs o i).testBit (o i) with
      | false => rfl
      | true =>
        obtain ⟨j, hj, e⟩ := bs_bit.mp hc
        have := hinj j i (by omega) hi e
        omega
    refine hG _ _ _ ⟨fun h' => absurd h' (by omega), fun _ => ⟨by omega, ?_⟩⟩
    rw [tn, hq i hi]
    refine s_mayFollow h hn h8 hb (ho i hi) (fun _ hz => ⟨fun _ => ⟨by omega, ?_⟩, fun h' => absurd h' (by decide)⟩) (fun hz => ⟨fun h' => absurd rfl h', fun _ => h0 (fun hc => hz ⟨hf, hc i hi⟩)⟩)
    have ow := ho i hi
    rw [hq i hi, ishl_n (by omega), ior_n (by omega) (pow_lt31 (by omega)), wrap_id (by omega) (by omega)]
    intro x1 hx1 x2 hx2
    rw [hx1, hx2, ← cs]
    refine ih (fun j hj => ?_)
    by_cases e : j = i
    · subst e; exact hz
    · exact hl j (by omega)
theorem m_lawful {μ : Mem} (h : Inv μ) {n : Nat} (hn : μ 1 0 = n) (h8 : n ≤ 8) (hm : μ 11 0 = n) {o : Nat → Nat} (ho : ∀ i, i < n → o i < n) (hq : ∀ i, i < n → μ 103 i = o i) {Post : Pst} (h1 : Law μ o n → Post 1 μ) (h0 : ¬ Law μ o n → Post 0 μ) : wp_X11_isLawful μ Post := by
  unfold wp_X11_isLawful b_X11_isLawful_e
  intro G hG
  obtain ⟨a1, a2, a3, a4, -⟩ := h.a hn h8
  refine upTo (P := fun i => Law μ o i → G μ (bs o i : Int) (i : Int)) (n := n) ?_ ?_ (fun i hi => absurd hi (by omega))
  · intro hl
    exact hG _ _ _ ⟨fun _ => h1 hl, fun h' => absurd h' (by omega)⟩
  · intro i hi ih hl
    have hb : bs o i < 256 := Nat.lt_of_lt_of_le (bs_lt (n := n) (fun j hj => ho j (by omega))) (Nat.pow_le_pow_right (n := 2) (j := 8) (by decide) h8)
    have ow := ho i hi
    have e : iand (μ 95 (o i)) (ixor (bs o i : Int) (-1)) = ((ndf (Ad μ (o i)) (bs o i) : Nat) : Int) := by
      have := a4 (o i) (by omega)
      rw [a2 (o i) (by omega)]
      exact iandn_n (by omega) (by omega)
    refine hG _ _ _ ⟨fun h' => absurd h' (by omega), fun _ => ?_⟩
    rw [tn, hq i hi, tn, e]
    refine ⟨by omega, by omega, fun hz => ⟨by omega, ?_⟩, fun hz => h0 (fun hc => hz ?_)⟩
    · rw [ishl_n (by omega), ior_n (by omega) (pow_lt31 (by omega)), wrap_id (by omega) (by omega)]
      intro x1 hx1 x2 hx2
      rw [hx1, hx2, ← cs]
      refine ih (fun j hj => ?_)
      by_cases e : j = i
      · subst e; omega
      · exact hl j (by omega)
    · have := hc i hi
      omega
