/-! best: both sides. -/
theorem srt_some {K : Nat → Int} {n : Nat} (hK : ∀ a b, a < n → b < n → K a = K b → a = b) (m : Nat) (hm : m ≤ n) : ∃ o, Srt K o m := by
  induction m with
  | zero => exact ⟨fun i => i, ⟨fun i hi => by omega, fun i j hi => by omega⟩, fun i j _ hj => by omega⟩
  | succ w ih =>
    obtain ⟨o, ho⟩ := ih (by omega)
    have key : ∀ a, a ≤ w → (∀ i, a ≤ i → i < w → K w < K (o i)) → ∃ p, p ≤ w ∧ (∀ i, i < p → K (o i) < K w) ∧ (∀ i, p ≤ i → i < w → K w < K (o i)) := by
      intro a
      induction a with
      | zero => intro _ h; exact ⟨0, by omega, fun i hi => by omega, h⟩
      | succ a iha =>
        intro ha h
        by_cases c : K (o a) < K w
        · refine ⟨a + 1, ha, fun i hi => ?_, h⟩
          by_cases e : i = a
          · rw [e]; exact c
          · have := ho.2 i a (by omega) (by omega)
            omega
        · refine iha (by omega) (fun i h1 h2 => ?_)
          by_cases e : i = a
          · rw [e]
            have b := ho.1.1 a (by omega)
            have ne : K w ≠ K (o a) := fun e' => by
              have := hK w (o a) (by omega) (by omega) e'
              omega
            omega
          · exact h i (by omega) h2
    obtain ⟨p, hp, h1, h2⟩ := key w (Nat.le_refl _) (fun i h1 h2 => by omega)
    exact ⟨insr o p w, ho.ins hp h1 h2⟩
theorem law_some {μ : Mem} (h : Inv μ) {n : Nat} (hn : μ 1 0 = n) (h8 : n ≤ 8) : ∃ p, Pm p n ∧ Law μ p n := by
  obtain ⟨-, -, -, -, rk, hr⟩ := h.a hn h8
  obtain ⟨o, ho⟩ := srt_some (K := fun w => 8 * (rk w : Int) + w) (n := n) (fun a b ha hb e => by
    have e' : 8 * (rk a : Int) + a = 8 * (rk b : Int) + b := e
    omega) n (Nat.le_refl n)
  refine ⟨o, ho.1, fun i hi => ndf_zero.mpr (fun u hu => ?_)⟩
  have oi := ho.1.1 i hi
  have r := hr u (o i) (by omega) hu
  obtain ⟨j, hj, e⟩ := ho.1.onto r.1
  refine bs_bit.mpr ⟨j, ?_, e⟩
  refine Nat.lt_of_not_le (fun hle => ?_)
  by_cases c : i = j
  · rw [← c] at e
    rw [e] at r
    omega
  · have := ho.2 i j (by omega) hj
    have t : 8 * (rk (o i) : Int) + (o i : Nat) < 8 * (rk (o j) : Int) + (o j : Nat) := this
    rw [e] at t
    omega
theorem k_seek {μ : Mem} (h : Inv μ) {n : Nat} (hn : μ 1 0 = n) (h8 : n ≤ 8) {aim : Nat} (ha : aim < 5) {Post : Pst} (hp : ∀ M : Mem, Kp μ M → Cl n (fun p => Law μ p n) (VB μ aim n) (8 ^ n) (M 3 2) (M 76) → Post 0 M) : wp_X2_seek μ (aim : Int) Post := by
  unfold wp_X2_seek b_X2_seek_e
  intro M1 h1 M2 h2
  refine s_fill lc78.1 lc78.2.1 (by rw [lc78.2.2]; decide) ?_
  refine s_fill lc79.1 lc79.2.1 (by rw [lc79.2.2]; decide) ?_
  obtain ⟨M, hM⟩ : ∃ M, M = fillM (fillM M2 78 (len 78) 1000000000) 79 (len 79) 1000000000 := ⟨_, rfl⟩
  rw [← hM]
  have oth : ∀ c, c ≠ 3 → c ≠ 78 → c ≠ 79 → M c = μ c := fun c a1 a2 a3 => by rw [hM, fillM_ne a3, fillM_ne a2, h2, wr_ne a1, h1, wr_ne a1]
  have m33 : M 3 3 = aim := by rw [hM, fillM_ne (by decide), fillM_ne (by decide), h2, wr_i (by decide), h1, wr_s]
  have m32 : M 3 2 = 1000000000 := by rw [hM, fillM_ne (by decide), fillM_ne (by decide), h2, wr_s]
  have m78 : ∀ i, i < 768 → M 78 i = 1000000000 := fun i hi => by rw [hM, fillM_ne (by decide), fillM_app, if_pos rfl, lc78.2.2, if_pos hi]
  have m79 : ∀ i, i < 768 → M 79 i = 1000000000 := fun i hi => by rw [hM, fillM_app, if_pos rfl, lc79.2.2, if_pos hi]
  have kM : Kp μ M := fun c hc => by
    have := isP_c hc
    exact oth c (by omega) (by omega) (by omega)
  refine k_extend h hn h8 ha 10 0 M (fun _ => 0) _ (by omega) (by omega) kM m33 (fun i hi => by omega) (fun i j hi => by omega) (fun i hi => by omega) (fun i hi => by omega) ?_ (by omega) (fun p j t hpp hl hj hjn ht => ?_) (fun M' k' _ _ hC _ _ _ => hp M' k' ?_)
  · show Cl n _ _ (0 * 8 ^ (n - 0)) (M 3 2) (M 76)
    rw [Nat.zero_mul, m32]
    exact Cl.init
  · have hb : bs p j < 256 := Nat.lt_of_lt_of_le (bs_lt (fun i hi => hpp.1 i (by omega))) (pow8 h8)
    have ix := idx_lt hb ht
    rw [m32, m78 _ (by omega), m79 _ (by omega)]
    exact (rn_ge h hn (s := ((t : Int), 1000000000, 1000000000)) ⟨by show -1 ≤ (t : Int); omega, by show (t : Int) ≤ 2; omega⟩ (show (0 : Int) ≤ 1000000000 by decide) (n - j) (fun i h1 h2 => hpp.1 i (by omega))).2.2
  · have e : (cd (fun _ => 0) 0 + 1) * 8 ^ (n - 0) = 8 ^ n := by
      show (0 + 1) * 8 ^ (n - 0) = 8 ^ n
      rw [Nat.sub_zero, Nat.zero_add, Nat.one_mul]
    rw [e] at hC
    exact hC
theorem o_best {μ : Mem} {a p : Int} (hI : Inv μ) : wp_X10_best μ a p (fun r μ1 => wp_X11_best μ1 a p (Ok r)) := by
  obtain ⟨n, hn, h8, hm⟩ := hI.n
  unfold wp_X10_best b_X10_best_e
  rw [isFrom_iff]
  refine ⟨fun ha => ⟨fun h' => absurd h' (by decide), fun _ => ?_⟩, fun ha => ⟨fun _ => ?_, fun h' => absurd rfl h'⟩⟩
  · obtain ⟨aim, rfl⟩ := natOf ha.1
    have haim : aim < 5 := by omega
    rw [isFrom_iff, hn, wrap_id (by omega) (by omega)]
    refine ⟨fun hp => ⟨fun _ => ?_, fun h' => absurd h' (by decide)⟩, fun hp => ⟨fun h' => absurd rfl h', fun _ => ?_⟩⟩
    · refine k_seek hI hn h8 haim (fun M kM hC => ?_)
      have m1 : M 11 0 = n := by rw [kM 11 rfl]; exact hm
      have other : ∀ r, (∀ (μ' : Mem) (x m : Int), Kp M μ' → Mn x m → Cl n (fun p => Law μ p n) (VB μ aim n) (8 ^ n) m (μ' 104) → (p ≠ -1 → r = μ' 104 p.toNat) ∧ (p = -1 → r = x)) → wp_X11_best M (aim : Int) p (Ok r) := by
        intro r hr
        unfold wp_X11_best b_X11_best_e
        rw [in_iff]
        refine ⟨fun _ => ⟨fun h' => absurd h' (by decide), fun _ => ?_⟩, fun h' => absurd ha h'⟩
        rw [isPlace_iff m1 h8]
        refine ⟨fun _ => ⟨fun _ => ?_, fun h' => absurd h' (by decide)⟩, fun h' => absurd ⟨by omega, by omega⟩ h'⟩
        refine m_goOver (Lw := fun p => Law μ p n) (V := VB μ aim n) m1 h8 (fun p q e hl i hi => ?_) VB_fn (fun p u hpp hv => ?_) (fun G8 G64 μ1 o x2 k1 hP hq hno hyes => ?_) (fun μ' x m k' hx hC' => ?_)
        · rw [← e i hi, ← bs_cg (o := p) (o' := q) (fun j hj => e j (by omega))]
          exact hl i hi
        · have sb := sb_rn hI hn h8 hpp.1 (aim := aim) (Nat.le_refl n)
          unfold VB at hv
          have := sb.2.2
          omega
        · have kk := kM.tr k1
          have I1 := hI.kp kk
          have n1 : μ1 1 0 = n := by rw [kk 1 rfl]; exact hn
          have mm : μ1 11 0 = n := by rw [kk 11 rfl]; exact hm
          unfold b_X11_goOver_8
          refine ⟨fun h' => absurd h' (by decide), fun _ => ⟨fun h' => absurd h' (by omega), fun _ => ?_⟩⟩
          refine m_lawful I1 n1 h8 mm hP.1 hq (fun hl => ⟨fun h' => absurd h' (by decide), fun _ => ?_⟩) (fun hl => ⟨fun _ => hno (fun hl' => hl ((Law_cg kk).mpr hl')), fun h' => absurd rfl h'⟩)
          unfold b_X11_goOver_24
          refine ⟨fun _ => ?_, fun h' => absurd h' (by omega)⟩
          refine m_makes I1 n1 h8 mm haim hP.1 hq ?_
          rw [rn_cg kk hI hn h8 hP.1 (Nat.le_refl n)]
          exact hyes ((Law_cg kk).mp hl) μ1 _ rfl Kp.rf rfl rfl
        · have R := hr μ' x m k' hx hC'
          have I' := (hI.kp kM).kp k'
          exact ⟨fun c => ⟨by omega, R.1 c, I'⟩, fun c => ⟨R.2 c, I'⟩⟩
      obtain ⟨q0, hq0, hl0⟩ := law_some hI hn h8
      have sb := sb_rn hI hn h8 hq0.1 (aim := aim) (Nat.le_refl n)
      have key : ∀ (μ' : Mem) (x m : Int), Kp M μ' → Mn x m → Cl n (fun p => Law μ p n) (VB μ aim n) (8 ^ n) m (μ' 104) → M 3 2 = x ∧ ∀ i, i < n → M 76 i = μ' 104 i := by
        intro μ' x m k' hx hC'
        have hu : (rn μ aim s0 q0 0 n).2.2 < 1000000000 := by have := sb.2.2; omega
        have U := hC.uq h8 hC' (fun p hpp => ⟨cd_bd (hpp.d8 h8), cd_bd (hpp.d8 h8)⟩) hq0 hl0 rfl hu
        have l := hC.1 q0 _ hq0 (cd_bd (hq0.d8 h8)) hl0 rfl
        refine ⟨?_, U.2⟩
        rcases hx with ⟨_, e⟩ | ⟨_, e⟩ <;> omega
      refine ⟨fun c => ⟨by omega, other _ (fun μ' x m k' hx hC' => ⟨fun _ => (key μ' x m k' hx hC').2 _ (by omega), fun h' => absurd h' c⟩)⟩, fun c => other _ (fun μ' x m k' hx hC' => ⟨fun h' => absurd c h', fun _ => (key μ' x m k' hx hC').1⟩)⟩
    · show wp_X11_best μ (aim : Int) p (Ok (-10))
      unfold wp_X11_best b_X11_best_e
      rw [in_iff]
      refine ⟨fun _ => ⟨fun h' => absurd h' (by decide), fun _ => ?_⟩, fun h' => absurd ha h'⟩
      rw [isPlace_iff hm h8]
      exact ⟨fun h' => absurd h' (by omega), fun _ => ⟨fun h' => absurd rfl h', fun _ => okI hI⟩⟩
  · show wp_X11_best μ a p (Ok (-10))
    unfold wp_X11_best b_X11_best_e
    rw [in_iff]
    exact ⟨fun h' => absurd h' ha, fun _ => ⟨fun _ => okI hI, fun h' => absurd rfl h'⟩⟩
