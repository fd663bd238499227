/-! THE BEST: the class's search. -/
theorem bs_card {q : Nat → Nat} {n k : Nat} (hq : ∀ i, i < k → q i < n) (hi : ∀ i j, i < k → j < k → q i = q j → i = j) : wsum (fun _ => 1) (bs q k) n = k := by
  induction k with
  | zero => unfold bs; exact wsum_zero n
  | succ k ih =>
    unfold bs
    have hf : (bs q k).testBit (q k) = false := by
      cases hc : (bs q k).testBit (q k) with
      | false => rfl
      | true =>
        obtain ⟨j, hj, e⟩ := bs_bit.mp hc
        have := hi j k (by omega) (by omega) e
        omega
    rw [wsum_add (hq k (by omega)) hf, ih (fun i h => hq i (by omega)) (fun i j h1 h2 e => hi i j (by omega) (by omega) e)]
    omega
def up1 (q : Nat → Nat) (k w : Nat) : Nat → Nat := fun i => if i = k then w else q i
theorem up1_s {q : Nat → Nat} {k w : Nat} : up1 q k w k = w := by unfold up1; rw [if_pos rfl]
theorem up1_o {q : Nat → Nat} {k w i : Nat} (h : i ≠ k) : up1 q k w i = q i := by unfold up1; rw [if_neg h]
theorem bs_up1 {q : Nat → Nat} {k w : Nat} : bs (up1 q k w) (k + 1) = bs q k ||| 2 ^ w := by
  show bs (up1 q k w) k ||| 2 ^ (up1 q k w k) = _
  rw [up1_s, bs_cg (o' := q) (fun i hi => up1_o (by omega))]
theorem cd_up1 {q : Nat → Nat} {k w : Nat} : cd (up1 q k w) (k + 1) = 8 * cd q k + w := by
  show 8 * cd (up1 q k w) k + up1 q k w k = _
  rw [up1_s, cd_cg (p := q) (fun i hi => up1_o (by omega))]
theorem rn_up1 {μ : Mem} {aim : Nat} {q : Nat → Nat} {k w : Nat} : rn μ aim s0 (up1 q k w) 0 (k + 1) = ex μ aim (rn μ aim s0 q 0 k) w := by
  show ex μ aim (rn μ aim s0 (up1 q k w) 0 k) (up1 q k w (0 + k)) = _
  rw [Nat.zero_add, up1_s, rn_cgo (p' := q) k (fun i h1 h2 => up1_o (by omega))]
/-- the first places of one, the rest of another -/
def spl (q p : Nat → Nat) (k : Nat) : Nat → Nat := fun i => if i < k then q i else p i
theorem spl_l {q p : Nat → Nat} {k i : Nat} (h : i < k) : spl q p k i = q i := by unfold spl; rw [if_pos h]
theorem spl_r {q p : Nat → Nat} {k i : Nat} (h : k ≤ i) : spl q p k i = p i := by unfold spl; rw [if_neg (by omega)]
theorem spl_bs {q p : Nat → Nat} {k : Nat} (he : bs q k = bs p k) {i : Nat} (hi : k ≤ i) : bs (spl q p k) i = bs p i := by
  induction i with
  | zero =>
    have : k = 0 := by omega
    rw [this]
    rfl
  | succ i ih =>
    by_cases c : k = i + 1
    · rw [← c, bs_cg (o' := q) (fun j hj => spl_l hj), he]
    · show bs (spl q p k) i ||| 2 ^ spl q p k i = bs p i ||| 2 ^ p i
      rw [ih (by omega), spl_r (by omega)]
theorem spl_Pm {q p : Nat → Nat} {n k : Nat} (hk : k ≤ n) (hq : ∀ i, i < k → q i < n) (hi : ∀ i j, i < k → j < k → q i = q j → i = j) (hP : Pm p n) (he : bs q k = bs p k) : Pm (spl q p k) n := by
  have mix : ∀ i j, i < k → k ≤ j → j < n → q i ≠ p j := by
    intro i j h1 h2 h3 e
    have : (bs p k).testBit (q i) = true := by rw [← he]; exact bs_bit.mpr ⟨i, h1, rfl⟩
    obtain ⟨j', hj', e'⟩ := bs_bit.mp this
    have := hP.2 j' j (by omega) h3 (by rw [e', e])
    omega
  refine ⟨fun i hi' => ?_, fun i j h1 h2 e => ?_⟩
  · by_cases c : i < k
    · rw [spl_l c]; exact hq i c
    · rw [spl_r (by omega)]; exact hP.1 i hi'
  · by_cases c : i < k
    · by_cases c2 : j < k
      · rw [spl_l c, spl_l c2] at e; exact hi i j c c2 e
      · rw [spl_l c, spl_r (by omega)] at e; exact absurd e (mix i j c (by omega) h2)
    · by_cases c2 : j < k
      · rw [spl_r (by omega), spl_l c2] at e; exact absurd e.symm (mix j i c2 (by omega) h1)
      · rw [spl_r (by omega), spl_r (by omega)] at e; exact hP.2 i j h1 h2 e
theorem spl_Law {μ : Mem} {q p : Nat → Nat} {n k : Nat} (hq : Law μ q k) (hp : Law μ p n) (he : bs q k = bs p k) : Law μ (spl q p k) n := by
  intro i hi
  by_cases c : i < k
  · rw [spl_l c, bs_cg (o' := q) (fun j hj => spl_l (by omega))]; exact hq i c
  · rw [spl_r (by omega), spl_bs he (by omega)]; exact hp i hi
def DN (μ : Mem) (n aim k : Nat) (M : Mem) : Prop := ∀ (p : Nat → Nat) (j t : Nat), Pm p n → Law μ p n → k < j → j ≤ n → t < 3 → M 3 2 ≤ (rn μ aim ((t : Int), M 78 (3 * bs p j + t), M 79 (3 * bs p j + t)) p j (n - j)).2.2
def FR (n k : Nat) (M M' : Mem) : Prop := ∀ (p : Nat → Nat) (j t : Nat), Pm p n → j ≤ k → j ≤ n → t < 3 → M' 78 (3 * bs p j + t) = M 78 (3 * bs p j + t) ∧ M' 79 (3 * bs p j + t) = M 79 (3 * bs p j + t)
def VB (μ : Mem) (aim n : Nat) (p : Nat → Nat) (u : Int) : Prop := u = (rn μ aim s0 p 0 n).2.2
theorem VB_fn {μ : Mem} {aim n : Nat} : ∀ p q u u', Pm p n → Pm q n → (∀ i, i < n → p i = q i) → VB μ aim n p u → VB μ aim n q u' → u = u' := by
  intro p q u u' _ _ e h1 h2
  unfold VB at h1 h2
  rw [h1, h2, rn_cgo n (fun i _ hi => e i (by omega))]
theorem idx_lt {S t : Nat} (h : S < 256) (ht : t < 3) : 0 ≤ ((3 * S + t : Nat) : Int) ∧ ((3 * S + t : Nat) : Int) < 768 := by omega
theorem idx_inj {S t S' t' : Nat} (ht : t < 3) (ht' : t' < 3) (e : 3 * S' + t' = 3 * S + t) : S' = S ∧ t' = t := by omega
theorem k_extend {μ : Mem} (h : Inv μ) {n : Nat} (hn : μ 1 0 = n) (h8 : n ≤ 8) {aim : Nat} (ha : aim < 5) (d : Nat) : ∀ (k : Nat) (M : Mem) (q : Nat → Nat) (Post : Pst), k ≤ n → n < d + k → Kp μ M → M 3 3 = aim → (∀ i, i < k → q i < n) → (∀ i j, i < k → j < k → q i = q j → i = j) → Law μ q k → (∀ i, i < k → M 77 i = q i) → Cl n (fun p => Law μ p n) (VB μ aim n) (cd q k * 8 ^ (n - k)) (M 3 2) (M 76) → M 3 2 ≤ 1000000000 → DN μ n aim k M → (∀ M' : Mem, Kp μ M' → M' 3 3 = aim → (∀ i, i < k → M' 77 i = q i) → Cl n (fun p => Law μ p n) (VB μ aim n) ((cd q k + 1) * 8 ^ (n - k)) (M' 3 2) (M' 76) → DN μ n aim k M' → FR n k M M' → M' 3 2 ≤ M 3 2 → Post 0 M') → wp_X2_extend d M (k : Int) (bs q k : Int) (rn μ aim s0 q 0 k).1 (rn μ aim s0 q 0 k).2.1 (rn μ aim s0 q 0 k).2.2 Post := by
  induction d with
  | zero => intro k M q Post hk hd; omega
  | succ d IH =>
    intro k M q Post hk hd k1 hM3 hq hi hL hT hC hF hD hp
    unfold wp_X2_extend
    intro G hG
    unfold b_X2_extend_e
    have n1 : M 1 0 = n := by rw [k1 1 rfl]; exact hn
    have sb := sb_rk h hn h8 (aim := aim) hq hk
    refine ⟨fun hlt => ?_, fun hge => ?_⟩
    · have hkn : k < n := by omega
      obtain ⟨s, hs⟩ : ∃ s, s = rn μ aim s0 q 0 k := ⟨_, rfl⟩
      rw [← hs] at sb ⊢
      obtain ⟨E8, hE8⟩ : ∃ E8, E8 = 8 ^ (n - (k + 1)) := ⟨_, rfl⟩
      have hpow : 8 ^ (n - k) = 8 * E8 := by rw [hE8, show n - k = (n - (k + 1)) + 1 by omega, Nat.pow_succ, Nat.mul_comm]
      have hE0 : 0 < E8 := by rw [hE8]; exact Nat.pow_pos (by decide)
      have cut : ∀ p X, Pm p n → (cd p n < X * E8 ↔ cd p (k + 1) < X) := fun p X hp' => by
        rw [hE8]; exact cd_cut (by omega) (hp'.d8 h8)
      obtain ⟨c, hc⟩ : ∃ c, c = cd q k := ⟨_, rfl⟩
      rw [← hc] at hC hp
      have hS2 : bs q k < 2 ^ n := bs_lt hq
      have hS : bs q k < 256 := Nat.lt_of_lt_of_le hS2 (pow8 h8)
      refine upTo (P := fun w => ∀ M1 : Mem, Kp μ M1 → M1 3 3 = aim → (∀ i, i < k → M1 77 i = q i) → Cl n (fun p => Law μ p n) (VB μ aim n) ((8 * c + w) * E8) (M1 3 2) (M1 76) → DN μ n aim k M1 → FR n k M M1 → M1 3 2 ≤ M 3 2 → G M1 (k : Int) (bs q k : Int) s.1 s.2.1 s.2.2 (w : Int)) (n := n) ?_ ?_ M k1 hM3 hT ?_ hD (fun p j t _ _ _ _ => ⟨rfl, rfl⟩) (Int.le_refl _)
      · intro M1 kM hM13 hT1 hC1 hD1 hF1 hle
        have nM : M1 1 0 = n := by rw [kM 1 rfl]; exact hn
        refine hG _ _ _ _ _ _ _ ⟨fun _ => hp M1 kM hM13 hT1 ?_ hD1 hF1 hle, fun h' => absurd h' (by omega)⟩
        have ee : (c + 1) * 8 ^ (n - k) = (8 * c + 8) * E8 := by rw [hpow, ← Nat.mul_assoc]; congr 1; omega
        rw [ee]
        refine hC1.skip (Nat.mul_le_mul_right _ (by omega)) (fun p u hpp h1 h2 _ _ => ?_)
        have c1 := (cut p (8 * c + n) hpp)
        have c2 := (cut p (8 * c + 8) hpp).mp h2
        have c3 : ¬ cd p (k + 1) < 8 * c + n := fun hh => by have := c1.mpr hh; omega
        have pk := hpp.1 k hkn
        have e : cd p (k + 1) = 8 * cd p k + p k := rfl
        omega
      · intro w hw ih M1 kM hM13 hT1 hC1 hD1 hF1 hle
        have IM := h.kp kM
        have nM : M1 1 0 = n := by rw [kM 1 rfl]; exact hn
        -- those whose turn it is
        have rng : ∀ p, Pm p n → (8 * c + w) * E8 ≤ cd p n → cd p n < (8 * c + (w + 1)) * E8 → ∀ i, i < k + 1 → p i = up1 q k w i := by
          intro p hpp h1 h2
          have c1 := (cut p (8 * c + w) hpp)
          have c2 := (cut p (8 * c + (w + 1)) hpp).mp h2
          have c3 : ¬ cd p (k + 1) < 8 * c + w := fun hh => by have := c1.mpr hh; omega
          refine cd_inj (fun i hi' => hpp.d8 h8 i (by omega)) (fun i hi' => ?_) ?_
          · by_cases e : i = k
            · rw [e, up1_s]; omega
            · rw [up1_o e]; have := hq i (by omega); omega
          · rw [cd_up1, ← hc]; omega
        have nx : ∀ M2 : Mem, Kp μ M2 → M2 3 3 = aim → (∀ i, i < k → M2 77 i = q i) → Cl n (fun p => Law μ p n) (VB μ aim n) ((8 * c + (w + 1)) * E8) (M2 3 2) (M2 76) → DN μ n aim k M2 → FR n k M M2 → M2 3 2 ≤ M 3 2 → b_X2_extend_172 (wp_X2_extend d) G Post M2 (k : Int) (bs q k : Int) s.1 s.2.1 s.2.2 (w : Int) := by
          intro M2 a1 a2 a3 a4 a5 a6 a7
          unfold b_X2_extend_172
          rw [wrap_id (by omega) (by omega)]
          intro x hx
          rw [hx, ← cs]
          exact ih M2 a1 a2 a3 a4 a5 a6 a7
        have skip : (∀ p u, Pm p n → (∀ i, i < k + 1 → p i = up1 q k w i) → Law μ p n → VB μ aim n p u → M1 3 2 ≤ u) → b_X2_extend_172 (wp_X2_extend d) G Post M1 (k : Int) (bs q k : Int) s.1 s.2.1 s.2.2 (w : Int) := by
          intro hsk
          refine nx M1 kM hM13 hT1 (hC1.skip (Nat.mul_le_mul_right _ (by omega)) (fun p u hpp h1 h2 h3 h4 => hsk p u hpp (rng p hpp h1 h2) h3 h4)) hD1 hF1 hle
        refine hG _ _ _ _ _ _ _ ⟨fun h' => absurd h' (by omega), fun _ => ?_⟩
        refine s_mayFollow IM nM h8 hS hw (fun hb hz => ⟨fun _ => ?_, fun h' => absurd h' (by decide)⟩) (fun hno => ⟨fun h' => absurd rfl h', fun _ => skip (fun p u hpp he hl _ => ?_)⟩)
        · rw [Ad_cg kM] at hz
          have qw := h.w hn hw
          have cb := chf_bd h hn hw (t := s.1) sb.1.1 sb.1.2
          have bb := eb_bd h hn hw (s.2.1 + chf μ s.1 w)
          have dd := imax_d (s.2.1 + chf μ s.1 w) 99
          have e1 := sb.2.1
          have e2 := sb.2.2
          obtain ⟨s', hs'⟩ : ∃ s', s' = ex μ aim s w := ⟨_, rfl⟩
          have sb' : SB (k + 1) s' := by rw [hs']; exact sb_ex h hn hw (by omega) sb
          have f1 : s'.1 = μ 28 w := by rw [hs']; rfl
          have f2 : s'.2.1 = eb μ (s.2.1 + chf μ s.1 w) w := by rw [hs']; rfl
          have f3 : s'.2.2 = gth μ aim s.2.2 w (eb μ (s.2.1 + chf μ s.1 w) w) := by rw [hs']; rfl
          have hrn : rn μ aim s0 (up1 q k w) 0 (k + 1) = s' := by rw [rn_up1, ← hs, hs']
          refine s_changeFor IM nM h8 hw sb.1.1 sb.1.2 ?_
          rw [chf_cg kM sb.1.2, wrap_id (by omega) (by omega)]
          refine s_endBehind IM nM h8 hw (by omega) (by omega) ?_
          rw [eb_cg kM, hM13]
          refine s_gathered IM nM h8 hw ha (by omega) (by omega) (by omega) (by omega) ?_
          rw [gth_cg kM, ← f3, ← f2]
          intro x hx
          refine ⟨by omega, ?_⟩
          intro y hy
          have hSw : bs q k ||| 2 ^ w < 2 ^ n := Nat.or_lt_two_pow hS2 (Nat.pow_lt_pow_right (by decide) hw)
          have hSw8 := Nat.lt_of_lt_of_le hSw (pow8 h8)
          rw [ishl_n (by omega), ior_n (by omega) (pow_lt31 (by omega))] at hx
          rw [tn, kM 28 (isP_r (by omega)), ← f1] at hy
          rw [hx, hy]
          have hq' : ∀ i, i < k + 1 → up1 q k w i < n := by
            intro i hi'
            by_cases e : i = k
            · rw [e, up1_s]; exact hw
            · rw [up1_o e]; exact hq i (by omega)
          have hi' : ∀ i j, i < k + 1 → j < k + 1 → up1 q k w i = up1 q k w j → i = j := by
            have nw : ∀ i, i < k → q i ≠ w := fun i h1 e => by
              have : (bs q k).testBit w = true := bs_bit.mpr ⟨i, h1, e⟩
              rw [hb] at this
              cases this
            intro i j h1 h2 e
            by_cases c1 : i = k
            · by_cases c2 : j = k
              · omega
              · rw [c1, up1_s, up1_o c2] at e; exact absurd e.symm (nw j (by omega))
            · by_cases c2 : j = k
              · rw [c2, up1_s, up1_o c1] at e; exact absurd e (nw i (by omega))
              · rw [up1_o c1, up1_o c2] at e; exact hi i j (by omega) (by omega) e
          have hL' : Law μ (up1 q k w) (k + 1) := by
            intro i h1
            by_cases c1 : i = k
            · rw [c1, up1_s, bs_cg (o' := q) (fun j hj => up1_o (by omega))]; exact hz
            · rw [up1_o c1, bs_cg (o' := q) (fun j hj => up1_o (by omega))]; exact hL i (by omega)
          have hrest : ∀ p u, Pm p n → (∀ i, i < k + 1 → p i = up1 q k w i) → VB μ aim n p u → u = (rn μ aim s' p (k + 1) (n - (k + 1))).2.2 := by
            intro p u hpp he hv
            unfold VB at hv
            rw [show n = (k + 1) + (n - (k + 1)) by omega, rn_split, Nat.zero_add, rn_cgo (p' := up1 q k w) (k + 1) (fun i _ h2 => he i (by omega)), hrn] at hv
            exact hv
          have hbs : ∀ p, (∀ i, i < k + 1 → p i = up1 q k w i) → bs p (k + 1) = bs q k ||| 2 ^ w := fun p he => by rw [bs_cg he, bs_up1]
          refine k_notLess h kM hn h8 ha hM13 hSw8 (by omega) (fun w' hw' hb' => ?_) (by have := sb'.2.2; omega) ⟨fun hle1 => skip (fun p u hpp he hl hv => ?_), fun hgt1 => ?_⟩
          · -- one is left, so k + 1 < n
            have hk1 : k + 1 ≠ n := fun e => by
              have P' : Pm (up1 q k w) n := by rw [← e]; exact ⟨fun i h1 => by rw [e]; exact hq' i h1, hi'⟩
              obtain ⟨i, h1, h2⟩ := P'.onto hw'
              have : (bs (up1 q k w) (k + 1)).testBit w' = true := bs_bit.mpr ⟨i, by omega, h2⟩
              rw [bs_up1, hb'] at this
              cases this
            have := sb'.2.1
            omega
          · have := nlo_le h hn (aim := aim) hpp (E := s'.2.1) (by omega) (n - (k + 1)) (k + 1) s' s'.2.2 (by omega) sb'.1 (Int.le_refl _) (Int.le_refl _)
            rw [hbs p he, ← hrest p u hpp he hv] at this
            omega
          · -- tried as good
            unfold wp_X2_triedAsGood b_X2_triedAsGood_e
            intro x5 hx5
            obtain ⟨t, ht⟩ := natOf (show 0 ≤ s'.1 by omega)
            have ht3 : t < 3 := by omega
            obtain ⟨S, hSS⟩ : ∃ S, S = bs q k ||| 2 ^ w := ⟨_, rfl⟩
            rw [← hSS] at hx5 hSw hSw8 hbs ⊢
            have ex5 : x5 = ((3 * S + t : Nat) : Int) := by
              rw [hx5, ht, wrap_id (x := (S : Int) * 3) (by omega) (by omega), wrap_id (by omega) (by omega)]
              omega
            rw [ex5, tn]
            -- the new entry
            have neu : b_X2_triedAsGood_32 (fun r_18 μ_19 => ((r_18 = 0) → (0 ≤ (k : Int) ∧ (k : Int) < 8) ∧ ∀ μ_22 : Mem, μ_22 = wr μ_19 77 ((k : Int)).toNat (w : Int) → wp_X2_extend d μ_22 (wrap ((k : Int) + 1)) (S : Int) s'.1 s'.2.1 s'.2.2 (fun _ μ_24 => b_X2_extend_172 (wp_X2_extend d) G Post μ_24 (k : Int) (bs q k : Int) s.1 s.2.1 s.2.2 (w : Int))) ∧ ((¬ r_18 = 0) → b_X2_extend_172 (wp_X2_extend d) G Post μ_19 (k : Int) (bs q k : Int) s.1 s.2.1 s.2.2 (w : Int))) M1 s'.2.1 s'.2.2 ((3 * S + t : Nat) : Int) := by
              unfold b_X2_triedAsGood_32
              rw [tn]
              refine ⟨idx_lt hSw8 ht3, ?_⟩
              intro M2 h2
              refine ⟨idx_lt hSw8 ht3, ?_⟩
              intro M3 h3
              refine ⟨fun _ => ⟨by omega, ?_⟩, fun h' => absurd rfl h'⟩
              intro M4 h4
              rw [tn] at h4
              rw [wrap_id (by omega) (by omega), ← cs]
              have o4 : ∀ x, x ≠ 77 → x ≠ 78 → x ≠ 79 → M4 x = M1 x := fun x a1 a2 a3 => by rw [h4, wr_ne a1, h3, wr_ne a3, h2, wr_ne a2]
              have k4 : Kp μ M4 := fun x hx' => by
                have := isP_c hx'
                rw [o4 x (by omega) (by omega) (by omega)]
                exact kM x hx'
              have t78 : ∀ i, M4 78 i = if i = 3 * S + t then s'.2.1 else M1 78 i := fun i => by
                rw [h4, wr_o (by decide), h3, wr_o (by decide), h2, wr_app, if_pos rfl]
              have t79 : ∀ i, M4 79 i = if i = 3 * S + t then s'.2.2 else M1 79 i := fun i => by
                rw [h4, wr_o (by decide), h3, wr_app, if_pos rfl, h2, wr_o (by decide)]
              have card : wsum (fun _ => 1) S n = (k + 1 : Nat) := by rw [hSS, ← bs_up1]; exact bs_card hq' hi'
              have oth : ∀ p j t', Pm p n → j ≤ n → j ≠ k + 1 → t' < 3 → 3 * bs p j + t' ≠ 3 * S + t := by
                intro p j t' hpp hjn hjk ht' e
                have e3 : bs p j = S := (idx_inj ht3 ht' e).1
                have c1 := bs_card (q := p) (n := n) (k := j) (fun i h1 => hpp.1 i (by omega)) (fun i i' h1 h2 e' => hpp.2 i i' (by omega) (by omega) e')
                rw [e3, card] at c1
                omega
              have hsz := IH (k + 1) M4 (up1 q k w) (fun _ μ_24 => b_X2_extend_172 (wp_X2_extend d) G Post μ_24 (k : Int) (bs q k : Int) s.1 s.2.1 s.2.2 (w : Int)) (by omega) (by omega) k4 (by rw [o4 3 (by decide) (by decide) (by decide)]; exact hM13) hq' hi' hL' (fun i h1 => ?_) ?_ (by rw [o4 3 (by decide) (by decide) (by decide)]; omega) (fun p j t' hpp hl hj hjn ht' => ?_) (fun M5 k5 hM53 hT5 hC5 hD5 hF5 hle5 => ?_)
              · rw [bs_up1, ← hSS, hrn] at hsz
                exact hsz
              · rw [h4]
                by_cases e : i = k
                · rw [e, wr_s, up1_s]
                · rw [wr_i e, h3, wr_o (by decide), h2, wr_o (by decide), up1_o e]
                  exact hT1 i (by omega)
              · rw [o4 3 (by decide) (by decide) (by decide), o4 76 (by decide) (by decide) (by decide), cd_up1, ← hc, ← hE8]
                exact hC1
              · rw [t78, t79, if_neg (oth p j t' hpp hjn (by omega) ht'), if_neg (oth p j t' hpp hjn (by omega) ht'), o4 3 (by decide) (by decide) (by decide)]
                exact hD1 p j t' hpp hl (by omega) hjn ht'
              · have e32 : M4 3 2 = M1 3 2 := by rw [o4 3 (by decide) (by decide) (by decide)]
                rw [e32] at hle5
                rw [cd_up1, ← hc, ← hE8] at hC5
                refine nx M5 k5 hM53 (fun i h1 => by rw [hT5 i (by omega), up1_o (by omega)]) (by rw [← Nat.add_assoc]; exact hC5) (fun p j t' hpp hl hj hjn ht' => ?_) (fun p j t' hpp hj hjn ht' => ?_) (by omega)
                · by_cases cj : k + 1 < j
                  · exact hD5 p j t' hpp hl cj hjn ht'
                  · have ej : j = k + 1 := by omega
                    subst ej
                    have F := hF5 p (k + 1) t' hpp (Nat.le_refl _) hjn ht'
                    rw [F.1, F.2, t78, t79]
                    by_cases cs' : 3 * bs p (k + 1) + t' = 3 * S + t
                    · rw [if_pos cs', if_pos cs']
                      have eS : bs p (k + 1) = S := (idx_inj ht3 ht' cs').1
                      have et : t' = t := (idx_inj ht3 ht' cs').2
                      have eB : bs (up1 q k w) (k + 1) = bs p (k + 1) := by rw [bs_up1, ← hSS, eS]
                      have P2 := spl_Pm (by omega) hq' hi' hpp eB
                      have agr : ∀ i, i < k + 1 → spl (up1 q k w) p (k + 1) i = up1 q k w i := fun i h1 => spl_l h1
                      have v2 := hrest _ _ P2 agr rfl
                      have lt2 : cd (spl (up1 q k w) p (k + 1)) n < (8 * c + w + 1) * E8 := by
                        rw [cut _ _ P2, cd_cg agr, cd_up1, ← hc]
                        omega
                      have m2 := hC5.1 _ _ P2 lt2 (spl_Law hL' hl eB) rfl
                      have e5 : rn μ aim s' (spl (up1 q k w) p (k + 1)) (k + 1) (n - (k + 1)) = rn μ aim s' p (k + 1) (n - (k + 1)) := rn_cgo _ (fun i h1 _ => spl_r h1)
                      rw [e5] at v2
                      rw [v2] at m2
                      rw [et, ← ht]
                      exact m2
                    · rw [if_neg cs', if_neg cs']
                      have := hD1 p (k + 1) t' hpp hl (by omega) hjn ht'
                      omega
                · have F := hF5 p j t' hpp (by omega) hjn ht'
                  have F1 := hF1 p j t' hpp hj hjn ht'
                  rw [F.1, F.2, t78, t79, if_neg (oth p j t' hpp hjn (by omega) ht'), if_neg (oth p j t' hpp hjn (by omega) ht')]
                  exact F1
            refine ⟨idx_lt hSw8 ht3, fun _ => neu, fun a1 => ⟨idx_lt hSw8 ht3, fun _ => neu, fun a2 => ⟨fun h' => absurd h' (by decide), fun _ => skip (fun p u hpp he hl hv => ?_)⟩⟩⟩
            have D := hD1 p (k + 1) t hpp hl (by omega) (by omega) ht3
            rw [hbs p he] at D
            have R := rn_mono h hn (aim := aim) (p := p) (s := ((t : Int), M1 78 (3 * S + t), M1 79 (3 * S + t))) (s' := s') (by show (t : Int) = s'.1; omega) (by show M1 78 (3 * S + t) ≤ s'.2.1; omega) (by show M1 79 (3 * S + t) ≤ s'.2.2; omega) (k := k + 1) (n - (k + 1)) (fun i h1 h2 => hpp.1 i (by omega))
            rw [hrest p u hpp he hv]
            omega
        · -- it may not follow
          exfalso
          apply hno
          rw [Ad_cg kM]
          have e1 : bs p k = bs q k := bs_cg (fun i h1 => by rw [he i (by omega), up1_o (by omega)])
          have e2 : p k = w := by rw [he k (by omega), up1_s]
          rw [← e1, ← e2]
          exact ⟨bs_new hpp hkn, hl k hkn⟩
      · rw [hpow, ← Nat.mul_assoc] at hC
        rw [Nat.add_zero, Nat.mul_comm 8 c]
        exact hC
    · -- all are placed
      have hkn : k = n := by omega
      subst hkn
      have hP : Pm q k := ⟨hq, hi⟩
      rw [Nat.sub_self, Nat.pow_zero, Nat.mul_one] at hC
      rw [Nat.sub_self, Nat.pow_zero, Nat.mul_one] at hp
      unfold wp_X2_keepIfLess b_X2_keepIfLess_e
      refine ⟨fun hle => ?_, fun hgt => ?_⟩
      · exact hp M k1 hM3 hT (hC.keep h8 VB_fn hP rfl rfl hle) hD (fun p j t _ _ _ _ => ⟨rfl, rfl⟩) (Int.le_refl _)
      · intro M2 h2
        have e1 : M2 1 0 = k := by rw [h2, wr_o (by decide)]; exact n1
        rw [e1, tn]
        refine ⟨⟨by decide, by omega, by omega, by omega⟩, ?_⟩
        intro M3 h3
        have o3 : ∀ x, x ≠ 76 → x ≠ 3 → M3 x = M x := fun x a1 a2 => by
          rw [h3]
          unfold cpm
          rw [if_neg a1, h2, wr_ne a2]
        have o33 : ∀ i, i ≠ 2 → M3 3 i = M 3 i := fun i hi' => by
          rw [h3]
          unfold cpm
          rw [if_neg (by decide), h2, wr_i hi']
        have o32 : M3 3 2 = (rn μ aim s0 q 0 k).2.2 := by
          rw [h3]
          unfold cpm
          rw [if_neg (by decide), h2, wr_s]
        have o76 : ∀ i, i < k → M3 76 i = q i := fun i hi' => by
          rw [h3]
          show (if (76 : Nat) = 76 then (fun j => if (0 : Int).toNat ≤ j ∧ j < (0 : Int).toNat + k then M2 77 ((0 : Int).toNat + (j - (0 : Int).toNat)) else M2 76 j) else M2 76) i = q i
          rw [if_pos rfl]
          show (if (0 : Nat) ≤ i ∧ i < 0 + k then M2 77 (0 + (i - 0)) else M2 76 i) = q i
          rw [if_pos (by omega), Nat.zero_add, Nat.sub_zero, h2, wr_o (by decide)]
          exact hT i hi'
        refine hp M3 (fun x hx => ?_) (by rw [o33 3 (by decide)]; exact hM3) (fun i hi' => by rw [o3 77 (by decide) (by decide)]; exact hT i hi') ?_ (fun p j t _ _ h1 h2 => by omega) (fun p j t _ _ _ _ => by rw [o3 78 (by decide) (by decide), o3 79 (by decide) (by decide)]; exact ⟨rfl, rfl⟩) (by rw [o32]; omega)
        · have := isP_c hx
          rw [o3 x (by omega) (by omega)]
          exact k1 x hx
        · rw [o32]
          exact hC.found h8 VB_fn hP rfl hL rfl (by omega) o76
