/-! byRule -/
def kR (μ : Mem) (w : Nat) : Int := if T μ w 0 < T μ w 1 then T μ w 0 else 1000 - T μ w 1
def KR (μ : Mem) (w : Nat) : Int := 8 * kR μ w + w
theorem KR_inj {μ : Mem} {n : Nat} (h8 : n ≤ 8) : ∀ a b, a < n → b < n → KR μ a = KR μ b → a = b := by
  intro a b ha hb e
  unfold KR at e
  omega
theorem kR_d {μ : Mem} (w : Nat) : (T μ w 0 < T μ w 1 ∧ kR μ w = T μ w 0) ∨ (T μ w 1 ≤ T μ w 0 ∧ kR μ w = 1000 - T μ w 1) := by
  unfold kR
  split <;> omega
theorem s_short {μ : Mem} {w : Nat} (hw : w < 8) {Post : Pst} (h1 : T μ w 0 < T μ w 1 → Post 1 μ) (h0 : ¬ T μ w 0 < T μ w 1 → Post 0 μ) : wp_X5_isShorterFirst μ (w : Int) Post := by
  unfold wp_X5_isShorterFirst b_X5_isShorterFirst_e
  rw [tn]
  exact ⟨by omega, by omega, fun h => h0 (by unfold T; omega), fun h => h1 (by unfold T; omega)⟩
theorem s_goes {μ : Mem} (h : Inv μ) {n : Nat} (hn : μ 1 0 = n) (h8 : n ≤ 8) {a b : Nat} (ha : a < n) (hb : b < n) {Post : Pst} (h1 : kR μ a < kR μ b → Post 1 μ) (h0 : ¬ kR μ a < kR μ b → Post 0 μ) : wp_X5_goesAhead μ (a : Int) (b : Int) Post := by
  have da := kR_d (μ := μ) a
  have db := kR_d (μ := μ) b
  have ta0 := h.T hn ha 0 (by decide)
  have ta1 := h.T hn ha 1 (by decide)
  have tb0 := h.T hn hb 0 (by decide)
  have tb1 := h.T hn hb 1 (by decide)
  have ea0 : μ (32 + a) 0 = T μ a 0 := rfl
  have ea1 : μ (32 + a) 1 = T μ a 1 := rfl
  have eb0 : μ (32 + b) 0 = T μ b 0 := rfl
  have eb1 : μ (32 + b) 1 = T μ b 1 := rfl
  unfold wp_X5_goesAhead b_X5_goesAhead_e
  rw [tn, tn]
  refine s_short (by omega) (fun ca => ?_) (fun ca => ?_)
  · refine s_short (by omega) (fun cb => ?_) (fun cb => ?_)
    · refine ⟨fun _ => s_short (by omega) (fun _ => ⟨fun h' => absurd h' (by decide), fun _ => ⟨by omega, by omega, fun c => h0 (by omega), fun c => h1 (by omega)⟩⟩) (fun c => absurd ca c), fun h' => absurd rfl h'⟩
    · refine ⟨fun h' => absurd h' (by decide), fun _ => s_short (by omega) (fun _ => ⟨Or.inr rfl, h1 (by omega)⟩) (fun c => absurd ca c)⟩
  · refine s_short (by omega) (fun cb => ?_) (fun cb => ?_)
    · refine ⟨fun h' => absurd h' (by decide), fun _ => s_short (by omega) (fun c => absurd c ca) (fun _ => ⟨Or.inl rfl, h0 (by omega)⟩)⟩
    · refine ⟨fun _ => s_short (by omega) (fun c => absurd c ca) (fun _ => ⟨fun _ => ⟨by omega, by omega, fun c => h0 (by omega), fun c => h1 (by omega)⟩, fun h' => absurd rfl h'⟩), fun h' => absurd rfl h'⟩
theorem k_putIn {μ : Mem} (h : Inv μ) {n : Nat} (hn : μ 1 0 = n) (h8 : n ≤ 8) {Post : Pst} (hp : ∀ (μ' : Mem) (o : Nat → Nat), (∀ c, c ≠ 85 → μ' c = μ c) → Srt (KR μ) o n → (∀ i, i < n → μ' 85 i = o i) → Post 0 μ') : wp_X5_putInOrder μ Post := by
  unfold wp_X5_putInOrder b_X5_putInOrder_e
  intro G2 G15 h2 h15
  refine upTo (P := fun w => ∀ (μ' : Mem) (o : Nat → Nat), (∀ c, c ≠ 85 → μ' c = μ c) → Srt (KR μ) o w → (∀ i, i < w → μ' 85 i = o i) → G2 μ' (w : Int)) (n := n) ?_ ?_ μ (fun i => i) (fun _ _ => rfl) ⟨Pm.id 0, fun i j _ hj => by omega⟩ (fun i hi => absurd hi (by omega))
  · intro μ' o fr so c
    have e : μ' 1 0 = n := by rw [fr 1 (by decide)]; exact hn
    exact h2 _ _ ⟨fun _ => hp μ' o fr so c, fun h' => absurd h' (by omega)⟩
  · intro w hw ih μ' o fr so c
    have e : μ' 1 0 = n := by rw [fr 1 (by decide)]; exact hn
    refine h2 _ _ ⟨fun h' => absurd h' (by omega), fun _ => ?_⟩
    have stop : ∀ (p : Nat), p ≤ w → ∀ μ' : Mem, (∀ c, c ≠ 85 → μ' c = μ c) → (∀ i, i < p → μ' 85 i = o i) → (∀ i, p < i → i ≤ w → μ' 85 i = o (i - 1)) → (∀ i, p ≤ i → i < w → KR μ w < KR μ (o i)) → (∀ i, i < p → KR μ (o i) < KR μ w) → b_X5_putInOrder_55 G2 G15 Post μ' (w : Int) (p : Int) := by
      intro p hp μ' fr c1 c2 k1 k2
      unfold b_X5_putInOrder_55
      refine ⟨by omega, ?_⟩
      rw [tn, wrap_id (by omega) (by omega)]
      intro μ2 h2 x hx
      rw [hx, ← cs]
      refine ih μ2 (insr o p w) (fun d hd => by rw [h2, wr_ne hd]; exact fr d hd) (so.ins hp k2 k1) (fun i hi => ?_)
      rw [h2]
      unfold insr
      by_cases e1 : i = p
      · rw [e1, wr_s, if_neg (by omega), if_pos rfl]
      · rw [wr_i e1]
        by_cases e2 : i < p
        · rw [if_pos e2]; exact c1 i e2
        · rw [if_neg e2, if_neg e1]; exact c2 i (by omega) (by omega)
    have inner : ∀ (p : Nat), p ≤ w → ∀ μ' : Mem, (∀ c, c ≠ 85 → μ' c = μ c) → (∀ i, i < p → μ' 85 i = o i) → (∀ i, p < i → i ≤ w → μ' 85 i = o (i - 1)) → (∀ i, p ≤ i → i < w → KR μ w < KR μ (o i)) → G15 μ' (w : Int) (p : Int) := by
      intro p
      induction p with
      | zero =>
        intro hp μ' fr c1 c2 k1
        exact h15 _ _ _ ⟨fun _ => stop 0 hp μ' fr c1 c2 k1 (fun i hi => by omega), fun h' => absurd h' (by omega)⟩
      | succ p ihp =>
        intro hp μ' fr c1 c2 k1
        have kk : Kp μ μ' := fun c hc => fr c (by have := isP_c hc; omega)
        have e1 : ((p + 1 : Nat) : Int) - 1 = (p : Int) := by omega
        have op := so.1.1 p (by omega)
        have ek : ∀ v, v < 8 → kR μ' v = kR μ v := fun v hv => by unfold kR; rw [T_cg kk hv]
        refine h15 _ _ _ ⟨fun h' => absurd h' (by omega), fun _ => ?_⟩
        rw [e1, wrap_id (by omega) (by omega), tn, c1 p (by omega), tn, wrap_id (by omega) (by omega)]
        refine ⟨by omega, s_goes (h.kp kk) (by rw [kk 1 rfl]; exact hn) h8 hw (by omega) (fun hlt => ?_) (fun hge => ?_)⟩
        · rw [ek _ (by omega), ek _ (by omega)] at hlt
          refine ⟨fun h' => absurd h' (by decide), fun _ => ⟨by omega, by omega, ?_⟩⟩
          rw [c1 p (by omega)]
          intro μ2 h2 x hx
          rw [hx, show ((p + 1 : Nat) : Int) + -1 = (p : Int) by omega]
          refine ihp (by omega) μ2 (fun d hd => by rw [h2, wr_ne hd]; exact fr d hd) (fun i hi => ?_) (fun i h1 h2' => ?_) (fun i h1 h2' => ?_)
          · rw [h2, wr_i (by omega)]; exact c1 i (by omega)
          · rw [h2]
            by_cases ei : i = p + 1
            · rw [ei, wr_s, Nat.add_sub_cancel]
            · rw [wr_i ei]; exact c2 i (by omega) h2'
          · by_cases ei : i = p
            · rw [ei]
              unfold KR
              omega
            · exact k1 i (by omega) h2'
        · rw [ek _ (by omega), ek _ (by omega)] at hge
          refine ⟨fun _ => ?_, fun h' => absurd rfl h'⟩
          refine stop (p + 1) hp μ' fr c1 c2 k1 (fun i hi => ?_)
          have hpw : KR μ (o p) < KR μ w := by unfold KR; omega
          by_cases ei : i = p
          · rw [ei]; exact hpw
          · have := so.2 i p (by omega) (by omega)
            omega
    exact inner w (Nat.le_refl w) μ' fr c (fun i h1 h2 => by omega) (fun i h1 h2 => by omega)
def rr (t : Nat → Nat → Int) : Nat → Int × Int
  | 0 => (0, 0)
  | i + 1 => ((rr t i).1 + t i 0, imax ((rr t i).1 + t i 0) (rr t i).2 + t i 1)
theorem rr_bd {t : Nat → Nat → Int} {n : Nat} (ht : ∀ k, k < n → ∀ j, j < 2 → 1 ≤ t k j ∧ t k j ≤ 40) {i : Nat} (hi : i ≤ n) : (0 ≤ (rr t i).1 ∧ (rr t i).1 ≤ 80 * i) ∧ (0 ≤ (rr t i).2 ∧ (rr t i).2 ≤ 80 * i) := by
  induction i with
  | zero =>
    show ((0 : Int) ≤ 0 ∧ (0 : Int) ≤ 80 * ((0 : Nat) : Int)) ∧ ((0 : Int) ≤ 0 ∧ (0 : Int) ≤ 80 * ((0 : Nat) : Int))
    omega
  | succ i ih =>
    have h1 := ih (by omega)
    have t0 := ht i (by omega) 0 (by decide)
    have t1 := ht i (by omega) 1 (by decide)
    have d := imax_d ((rr t i).1 + t i 0) (rr t i).2
    refine ⟨?_, ?_⟩
    · show 0 ≤ (rr t i).1 + t i 0 ∧ (rr t i).1 + t i 0 ≤ _
      omega
    · show 0 ≤ imax ((rr t i).1 + t i 0) (rr t i).2 + t i 1 ∧ imax ((rr t i).1 + t i 0) (rr t i).2 + t i 1 ≤ _
      omega
theorem rr_RW {t : Nat → Nat → Int} {bg lv : Nat → Nat → Int} {n : Nat} (h8 : n ≤ 8) (ht : ∀ k, k < n → ∀ j, j < 2 → 1 ≤ t k j ∧ t k j ≤ 40) (h : RW 2 t (fun _ => 9) bg lv n) : ∀ k, k < n → lv k 0 = (rr t (k + 1)).1 ∧ lv k 1 = (rr t (k + 1)).2 := by
  intro k
  induction k with
  | zero =>
    intro hk
    have b0 := (h 0 hk 0 (by decide)).1
    have l0 := (h 0 hk 0 (by decide)).2
    have b1 := (h 0 hk 1 (by decide)).1
    have l1 := (h 0 hk 1 (by decide)).2
    have t0 := ht 0 hk 0 (by decide)
    have t1 := ht 0 hk 1 (by decide)
    unfold RWb prv fre at b0 b1
    unfold RWl rom at l0 l1
    simp at b0 l0 b1 l1
    have d0 := imax_d 0 0
    have d1 := imax_d (bg 0 0 + t 0 0) 0
    show lv 0 0 = 0 + t 0 0 ∧ lv 0 1 = imax (0 + t 0 0) 0 + t 0 1
    have d2 := imax_d (0 + t 0 0) 0
    omega
  | succ k ih =>
    intro hk
    have i1 := ih (by omega)
    have bd := rr_bd ht (i := k + 1) (by omega)
    have b0 := (h (k + 1) hk 0 (by decide)).1
    have l0 := (h (k + 1) hk 0 (by decide)).2
    have b1 := (h (k + 1) hk 1 (by decide)).1
    have l1 := (h (k + 1) hk 1 (by decide)).2
    have t0 := ht (k + 1) hk 0 (by decide)
    have t1 := ht (k + 1) hk 1 (by decide)
    unfold RWb prv fre at b0 b1
    unfold RWl rom at l0 l1
    rw [if_pos rfl, if_neg (show ¬ k + 1 = 0 by omega), Nat.add_sub_cancel, i1.1] at b0
    rw [if_neg (show ¬ 1 = 0 by decide), if_neg (show ¬ k + 1 = 0 by omega), Nat.add_sub_cancel, i1.2] at b1
    rw [if_neg (show ¬ 0 + 1 = 2 by decide), if_pos (show ((k + 1 : Nat) : Int) < 9 by omega)] at l0
    rw [if_pos (show 1 + 1 = 2 from rfl)] at l1
    have d0 := imax_d 0 (rr t (k + 1)).1
    have d1 := imax_d (bg (k + 1) 0 + t (k + 1) 0) 0
    have e0 : bg (k + 1) (1 - 1) = bg (k + 1) 0 := rfl
    have e1 : t (k + 1) (1 - 1) = t (k + 1) 0 := rfl
    rw [e0, e1] at b1
    have d2 := imax_d (bg (k + 1) 0 + t (k + 1) 0) (rr t (k + 1)).2
    show lv (k + 1) 0 = (rr t (k + 1)).1 + t (k + 1) 0 ∧ lv (k + 1) 1 = imax ((rr t (k + 1)).1 + t (k + 1) 0) (rr t (k + 1)).2 + t (k + 1) 1
    have d3 := imax_d ((rr t (k + 1)).1 + t (k + 1) 0) (rr t (k + 1)).2
    omega
theorem k_ruleEnd {μ : Mem} (h : Inv μ) {n : Nat} (hn : μ 1 0 = n) (h8 : n ≤ 8) {o : Nat → Nat} (ho : ∀ i, i < n → o i < n) (hq : ∀ i, i < n → μ 85 i = o i) {Post : Pst} (hp : Post (rr (fun k => T μ (o k)) n).2 μ) : wp_X5_lastEnd μ Post := by
  unfold wp_X5_lastEnd b_X5_lastEnd_e
  intro G hG
  have ht : ∀ k, k < n → ∀ j, j < 2 → 1 ≤ T μ (o k) j ∧ T μ (o k) j ≤ 40 := fun k hk j hj => h.T hn (ho k hk) j (by omega)
  refine upTo (P := fun i => G μ (rr (fun k => T μ (o k)) i).1 (rr (fun k => T μ (o k)) i).2 (i : Int)) (n := n) ?_ ?_
  · exact hG _ _ _ _ ⟨fun _ => hp, fun h' => absurd h' (by omega)⟩
  · intro i hi ih
    have bd := rr_bd (t := fun k => T μ (o k)) ht (i := i) (by omega)
    have oi := ho i hi
    have t0 := ht i hi 0 (by decide)
    have t1 := ht i hi 1 (by decide)
    rw [cs] at ih
    have d := imax_d ((rr (fun k => T μ (o k)) i).1 + T μ (o i) 0) (rr (fun k => T μ (o k)) i).2
    refine hG _ _ _ _ ⟨fun h' => absurd h' (by omega), fun _ => ⟨by omega, ?_⟩⟩
    have e0 : μ (32 + o i) 0 = T μ (o i) 0 := rfl
    have e1 : μ (32 + o i) 1 = T μ (o i) 1 := rfl
    rw [tn, hq i hi, tn, e0, e1, wrap_id (by omega) (by omega)]
    refine ⟨by omega, ?_⟩
    rintro _ rfl
    refine ⟨by omega, by omega, ?_⟩
    rw [wrap_id (by omega) (by omega), wrap_id (by omega) (by omega)]
    rintro _ rfl _ rfl
    exact ih
theorem m_sooner {μ : Mem} (h : Inv μ) {n : Nat} (hn : μ 1 0 = n) (h8 : n ≤ 8) {a b : Nat} (ha : a < n) (hb : b < n) {Post : Pst} (h1 : KR μ a < KR μ b → Post 1 μ) (h0 : ¬ KR μ a < KR μ b → Post 0 μ) : wp_X11_isSooner μ (a : Int) (b : Int) Post := by
  have da := kR_d (μ := μ) a
  have db := kR_d (μ := μ) b
  have qa0 := h.tm hn ha (b := 0) (by decide)
  have qa1 := h.tm hn ha (b := 1) (by decide)
  have qb0 := h.tm hn hb (b := 0) (by decide)
  have qb1 := h.tm hn hb (b := 1) (by decide)
  have ea0 : μ (32 + a) 0 = T μ a 0 := rfl
  have ea1 : μ (32 + a) 1 = T μ a 1 := rfl
  have eb0 : μ (32 + b) 0 = T μ b 0 := rfl
  have eb1 : μ (32 + b) 1 = T μ b 1 := rfl
  rw [ea0] at qa0
  rw [ea1] at qa1
  rw [eb0] at qb0
  rw [eb1] at qb1
  unfold KR at h1 h0
  have i1 : (4 * (a : Int)).toNat = 4 * a + 0 := by omega
  have i2 : (4 * (a : Int) + 1).toNat = 4 * a + 1 := by omega
  have i3 : (4 * (b : Int)).toNat = 4 * b + 0 := by omega
  have i4 : (4 * (b : Int) + 1).toNat = 4 * b + 1 := by omega
  unfold wp_X11_isSooner b_X11_isSooner_e b_X11_isSooner_26 b_X11_isSooner_53 b_X11_isSooner_108
  rw [wrap_id (x := 4 * (a : Int)) (by omega) (by omega), wrap_id (x := 4 * (b : Int)) (by omega) (by omega), wrap_id (x := 4 * (a : Int) + 1) (by omega) (by omega), wrap_id (x := 4 * (b : Int) + 1) (by omega) (by omega), i1, i2, i3, i4, qa0.1, qa1.1, qb0.1, qb1.1, wrap_id (x := T μ b 1 - T μ a 1) (by omega) (by omega), wrap_id (x := T μ a 0 - T μ b 0) (by omega) (by omega)]
  refine ⟨by omega, by omega, fun ca => ⟨by omega, by omega, fun cb => ⟨fun _ => ⟨fun _ => ⟨by omega, by omega, fun c => h1 (by omega), fun c => ⟨fun c' => h0 (by omega), fun c' => ⟨fun c'' => h0 (by omega), fun c'' => h1 (by omega)⟩⟩⟩, fun h' => absurd rfl h'⟩, fun h' => absurd rfl h'⟩, fun cb => ⟨fun h' => absurd h' (by decide), fun _ => ⟨Or.inl rfl, h0 (by omega)⟩⟩⟩, fun ca => ⟨by omega, by omega, fun cb => ⟨fun h' => absurd h' (by decide), fun _ => ⟨Or.inr rfl, h1 (by omega)⟩⟩, fun cb => ⟨fun _ => ⟨fun h' => absurd h' (by decide), fun _ => ⟨by omega, by omega, fun c => h1 (by omega), fun c => ⟨fun c' => h0 (by omega), fun c' => ⟨fun c'' => h0 (by omega), fun c'' => h1 (by omega)⟩⟩⟩⟩, fun h' => absurd rfl h'⟩⟩⟩
theorem KR_cg {μ μ' : Mem} (k : Kp μ μ') {w : Nat} (hw : w < 8) : KR μ' w = KR μ w := by unfold KR kR; rw [T_cg k hw]
theorem m_byRule {μ μ1 : Mem} (h : Inv μ) (k1 : Kp μ μ1) {n : Nat} (hn : μ 1 0 = n) (h8 : n ≤ 8) (hm : μ 11 0 = n) {p : Int} (hp0 : -1 ≤ p ∧ p < n) {Post : Pst} (hp : ∀ (μ' : Mem) (o : Nat → Nat), Kp μ1 μ' → Srt (KR μ) o n → Post (if p = -1 then (rr (fun k => T μ (o k)) n).2 else (o p.toNat : Int)) μ') : wp_X11_byRule μ1 p Post := by
  unfold wp_X11_byRule
  intro G17 G27 h17 h27
  unfold b_X11_byRule_e
  have m1 : μ1 11 0 = n := by rw [k1 11 rfl]; exact hm
  rw [isPlace_iff m1 h8]
  refine ⟨fun _ => ⟨fun _ => ?_, fun h' => absurd h' (by decide)⟩, fun h' => absurd hp0 h'⟩
  refine m_first m1 h8 (fun μ2 fr2 c2 => ?_)
  refine upTo (P := fun i => ∀ (μ' : Mem) (o : Nat → Nat), (∀ c, c ≠ 103 → μ' c = μ1 c) → BI (KR μ) o n i 0 → (∀ i, i < n → μ' 103 i = o i) → G17 μ' p (i : Int)) (n := n) ?_ ?_ μ2 (fun i => i) fr2 BI.init c2
  · intro μ' o fr bi c
    have e : μ' 11 0 = n := by rw [fr 11 (by decide)]; exact m1
    have kk : Kp μ1 μ' := fun c hc => fr c (by have := isP_c hc; omega)
    have k2 := k1.tr kk
    have I2 := h.kp k2
    refine h17 _ _ _ ⟨fun _ => ⟨fun c1 => ⟨by omega, ?_⟩, fun c1 => ?_⟩, fun h' => absurd h' (by omega)⟩
    · have := hp μ' o kk bi.srt
      rw [if_neg c1] at this
      rw [c _ (by omega)]
      exact this
    · refine m_rowEnd I2 (B := 2) (W := fun _ => 9) (by rw [k2 1 rfl]; exact hn) h8 e (by decide) (by decide) (fun _ => ⟨by decide, by decide⟩) (fun j _ _ => by rw [if_neg (by decide)]) bi.1.1 c (fun μ3 fr3 r3 => ?_)
      have k3 : Kp μ' μ3 := fun c hc => fr3 c (by have := isP_c hc; omega) (by have := isP_c hc; omega)
      have := hp μ3 o (kk.tr k3) bi.srt
      rw [if_pos c1] at this
      have ht : ∀ k, k < n → ∀ j, j < 2 → 1 ≤ T μ' (o k) j ∧ T μ' (o k) j ≤ 40 := fun k hk j hj => I2.T (by rw [k2 1 rfl]; exact hn) (bi.1.1 k hk) j (by omega)
      have er : rEnd (lvR μ3) 2 n = (rr (fun k => T μ (o k)) n).2 := by
        have ee : ∀ m, m ≤ n → rr (fun k => T μ' (o k)) m = rr (fun k => T μ (o k)) m := by
          intro m
          induction m with
          | zero => intro _; rfl
          | succ m ihm =>
            intro hm'
            unfold rr
            have := bi.1.1 m (by omega)
            rw [ihm (by omega), T_cg k2 (by omega)]
        unfold rEnd
        by_cases n0 : n = 0
        · rw [if_pos n0, n0]; rfl
        · rw [if_neg n0]
          have := (rr_RW h8 ht r3 (n - 1) (by omega)).2
          rw [show n - 1 + 1 = n by omega, ee n (Nat.le_refl n)] at this
          exact this
      rw [er]
      exact this
  · intro i hi ih μ' o fr bi c
    have e : μ' 11 0 = n := by rw [fr 11 (by decide)]; exact m1
    refine h17 _ _ _ ⟨fun h' => absurd h' (by omega), fun _ => ?_⟩
    refine upTo (P := fun k => ∀ (μ' : Mem) (o : Nat → Nat), (∀ c, c ≠ 103 → μ' c = μ1 c) → BI (KR μ) o n i k → (∀ i, i < n → μ' 103 i = o i) → G27 μ' p (i : Int) (k : Int)) (n := n - 1) ?_ ?_ μ' o fr bi c
    · intro μ' o fr bi c
      have e : μ' 11 0 = n := by rw [fr 11 (by decide)]; exact m1
      refine h27 _ _ _ _ ⟨fun _ => ?_, fun h' => absurd h' (by rw [wrap_id (by omega) (by omega)]; omega)⟩
      rw [wrap_id (by omega) (by omega)]
      rintro _ rfl
      rw [← cs]
      exact ih μ' o fr (bi.turn hi) c
    · intro k hk ihk μ' o fr bi c
      have e : μ' 11 0 = n := by rw [fr 11 (by decide)]; exact m1
      have kk : Kp μ μ' := k1.tr (fun c hc => fr c (by have := isP_c hc; omega))
      have o1 := bi.1.1 k (by omega)
      have o2 := bi.1.1 (k + 1) (by omega)
      have ek : ((k : Int) + 1).toNat = k + 1 := by omega
      have stp := bi.step (KR_inj h8) hi (by omega)
      refine h27 _ _ _ _ ⟨fun h' => absurd h' (by rw [wrap_id (by omega) (by omega)]; omega), fun _ => ?_⟩
      unfold b_X11_byRule_66
      rw [wrap_id (by omega) (by omega), tn, ek, c k (by omega), c (k + 1) (by omega)]
      refine ⟨by omega, by omega, m_sooner (h.kp kk) (by rw [kk 1 rfl]; exact hn) h8 o2 o1 (fun hlt => ?_) (fun hge => ?_)⟩
      · rw [KR_cg kk (by omega), KR_cg kk (by omega)] at hlt
        refine ⟨fun h' => absurd h' (by decide), fun _ => ?_⟩
        rw [← cs]
        refine m_swap h8 (by omega) (by omega) c (fun μ3 fr3 c3 => ?_)
        rintro _ rfl
        exact ihk μ3 _ (fun d hd => by rw [fr3 d hd]; exact fr d hd) (stp.1 hlt) c3
      · rw [KR_cg kk (by omega), KR_cg kk (by omega)] at hge
        refine ⟨fun _ => ?_, fun h' => absurd rfl h'⟩
        rintro _ rfl
        rw [← cs]
        exact ihk μ' o fr (stp.2 hge) c
theorem o_byRule {μ : Mem} {p : Int} (hI : Inv μ) : wp_X10_byRule μ p (fun r μ1 => wp_X11_byRule μ1 p (Ok r)) := by
  obtain ⟨n, hn, h8, hm⟩ := hI.n
  unfold wp_X10_byRule b_X10_byRule_e
  rw [isFrom_iff, hn, wrap_id (by omega) (by omega)]
  refine ⟨fun hp => ⟨fun _ => ?_, fun h' => absurd h' (by decide)⟩, fun hp => ⟨fun h' => absurd rfl h', fun _ => ?_⟩⟩
  · refine k_putIn hI hn h8 (fun μ1 o fr so c => ?_)
    have k1 : Kp μ μ1 := fun c hc => fr c (by have := isP_c hc; omega)
    refine ⟨fun c1 => ⟨by omega, ?_⟩, fun c1 => ?_⟩
    · refine m_byRule hI k1 hn h8 hm ⟨by omega, by omega⟩ (fun μ2 o' k2 so' => ⟨?_, hI.kp (k1.tr k2)⟩)
      rw [if_neg c1, c _ (by omega), so.uq (KR_inj h8) so' _ (by omega)]
    · refine k_ruleEnd (hI.kp k1) (by rw [k1 1 rfl]; exact hn) h8 so.1.1 c ?_
      refine m_byRule hI k1 hn h8 hm ⟨by omega, by omega⟩ (fun μ2 o' k2 so' => ⟨?_, hI.kp (k1.tr k2)⟩)
      rw [if_pos c1]
      have ee : ∀ m, m ≤ n → rr (fun k => T μ1 (o k)) m = rr (fun k => T μ (o' k)) m := by
        intro m
        induction m with
        | zero => intro _; rfl
        | succ m ihm =>
          intro hm'
          unfold rr
          have := so'.1.1 m (by omega)
          rw [ihm (by omega), so.uq (KR_inj h8) so' m (by omega), T_cg k1 (by omega)]
      rw [ee n (Nat.le_refl n)]
  · show wp_X11_byRule μ p (Ok _)
    unfold wp_X11_byRule
    intro G17 G27 h17 h27
    unfold b_X11_byRule_e
    rw [isPlace_iff hm h8]
    exact ⟨fun h' => absurd h' (by omega), fun _ => ⟨fun h' => absurd rfl h', fun _ => okI hI⟩⟩
