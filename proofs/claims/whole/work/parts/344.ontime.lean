/-! onTime -/
def KD (μ : Mem) (w : Nat) : Int := 8 * μ 26 w + w
theorem KD_inj {μ : Mem} {n : Nat} (h8 : n ≤ 8) : ∀ a b, a < n → b < n → KD μ a = KD μ b → a = b := by
  intro a b ha hb e
  unfold KD at e
  omega
theorem k_byDue {μ : Mem} (h : Inv μ) {n : Nat} (hn : μ 1 0 = n) (h8 : n ≤ 8) {Post : Pst} (hp : ∀ (μ' : Mem) (o : Nat → Nat), (∀ c, c ≠ 80 → μ' c = μ c) → Srt (KD μ) o n → (∀ i, i < n → μ' 80 i = o i) → Post 0 μ') : wp_X0_orderByDue μ Post := by
  unfold wp_X0_orderByDue b_X0_orderByDue_e
  intro G12 G25 h12 h25
  refine upTo (P := fun w => ∀ (μ' : Mem) (o : Nat → Nat), (∀ c, c ≠ 80 → μ' c = μ c) → Srt (KD μ) o w → (∀ i, i < w → μ' 80 i = o i) → G12 μ' 26 (w : Int)) (n := n) ?_ ?_ μ (fun i => i) (fun _ _ => rfl) ⟨Pm.id 0, fun i j _ hj => by omega⟩ (fun i hi => absurd hi (by omega))
  · intro μ' o fr so c
    have e : μ' 1 0 = n := by rw [fr 1 (by decide)]; exact hn
    exact h12 _ _ _ ⟨fun _ => hp μ' o fr so c, fun h' => absurd h' (by omega)⟩
  · intro w hw ih μ' o fr so c
    have e : μ' 1 0 = n := by rw [fr 1 (by decide)]; exact hn
    refine h12 _ _ _ ⟨fun h' => absurd h' (by omega), fun _ => ?_⟩
    have inner : ∀ (p : Nat), p ≤ w → ∀ μ' : Mem, (∀ c, c ≠ 80 → μ' c = μ c) → (∀ i, i < p → μ' 80 i = o i) → (∀ i, p < i → i ≤ w → μ' 80 i = o (i - 1)) → (∀ i, p ≤ i → i < w → KD μ w < KD μ (o i)) → G25 μ' 26 (w : Int) (p : Int) := by
      have stop : ∀ (p : Nat), p ≤ w → ∀ μ' : Mem, (∀ c, c ≠ 80 → μ' c = μ c) → (∀ i, i < p → μ' 80 i = o i) → (∀ i, p < i → i ≤ w → μ' 80 i = o (i - 1)) → (∀ i, p ≤ i → i < w → KD μ w < KD μ (o i)) → (∀ i, i < p → KD μ (o i) < KD μ w) → b_X0_orderByDue_65 G12 G25 Post μ' 26 (w : Int) (p : Int) := by
        intro p hp μ' fr c1 c2 k1 k2
        unfold b_X0_orderByDue_65
        refine ⟨by omega, ?_⟩
        rw [tn, wrap_id (by omega) (by omega)]
        intro μ2 h2 x hx
        rw [hx, ← cs]
        refine ih μ2 (insr o p w) (fun d hd => by rw [h2, wr_ne hd]; exact fr d hd) (so.ins hp k2 k1) (fun i hi => ?_)
        rw [h2]
        unfold insr
        by_cases e1 : i = p
        · rw [e1, wr_s, if_neg (by omega), if_pos rfl]
        · rw [wr_i e1]
          by_cases e2 : i < p
          · rw [if_pos e2]; exact c1 i e2
          · rw [if_neg e2, if_neg e1]; exact c2 i (by omega) (by omega)
      intro p
      induction p with
      | zero =>
        intro hp μ' fr c1 c2 k1
        exact h25 _ _ _ _ ⟨fun _ => stop 0 hp μ' fr c1 c2 k1 (fun i hi => by omega), fun h' => absurd h' (by omega)⟩
      | succ p ihp =>
        intro hp μ' fr c1 c2 k1
        have e26 : μ' 26 = μ 26 := fr 26 (by decide)
        have e1 : ((p + 1 : Nat) : Int) - 1 = (p : Int) := by omega
        have op := so.1.1 p (by omega)
        refine h25 _ _ _ _ ⟨fun h' => absurd h' (by omega), fun _ => ?_⟩
        rw [e1, wrap_id (by omega) (by omega), tn, c1 p (by omega), tn, tn, e26, tn, wrap_id (by omega) (by omega)]
        refine ⟨by omega, ⟨by decide, by decide, by omega, by show _ < ((8 : Nat) : Int); omega⟩, ⟨by decide, by decide, by omega, by show _ < ((8 : Nat) : Int); omega⟩, fun hle => ?_, fun hgt => ⟨by omega, by omega, ?_⟩⟩
        · refine stop (p + 1) hp μ' fr c1 c2 k1 (fun i hi => ?_)
          have hpw : KD μ (o p) < KD μ w := by unfold KD; omega
          by_cases ei : i = p
          · rw [ei]; exact hpw
          · have := so.2 i p (by omega) (by omega)
            omega
        · intro μ2 h2 x hx
          rw [hx, show ((p + 1 : Nat) : Int) + -1 = (p : Int) by omega]
          refine ihp (by omega) μ2 (fun d hd => by rw [h2, wr_ne hd]; exact fr d hd) (fun i hi => ?_) (fun i h1 h2' => ?_) (fun i h1 h2' => ?_)
          · rw [h2, wr_i (by omega)]; exact c1 i (by omega)
          · rw [h2]
            by_cases ei : i = p + 1
            · rw [ei, wr_s, Nat.add_sub_cancel]
            · rw [wr_i ei]; exact c2 i (by omega) h2'
          · by_cases ei : i = p
            · rw [ei]
              unfold KD
              omega
            · exact k1 i (by omega) h2'
    exact inner w (Nat.le_refl w) μ' fr c (fun i h1 h2 => by omega) (fun i h1 h2 => by omega)
def Stb (κ : Nat → Int) (o : Nat → Nat) (n : Nat) : Prop := ∀ i j, i < j → j < n → κ (o i) = κ (o j) → o i < o j
theorem Stb.exch {κ : Nat → Int} {o : Nat → Nat} {n k : Nat} (h : Stb κ o n) (hk : k + 1 < n) (hne : κ (o k) ≠ κ (o (k + 1))) : Stb κ (sw o k (k + 1)) n := by
  intro i j hij hj
  rcases sw_v o k (k + 1) i with ⟨c, e1⟩ | ⟨c, c', e1⟩ | ⟨c, c', e1⟩ <;> rcases sw_v o k (k + 1) j with ⟨d, e2⟩ | ⟨d, d', e2⟩ | ⟨d, d', e2⟩ <;> rw [e1, e2]
  · omega
  · intro e; exact absurd e.symm hne
  · intro e; exact h (k + 1) j (by omega) hj e
  · omega
  · omega
  · intro e; exact h k j (by omega) hj e
  · intro e; exact h i (k + 1) (by omega) hk e
  · intro e; exact h i k (by omega) (by omega) e
  · intro e; exact h i j hij hj e
theorem m_byDue {μ μ1 : Mem} (h : Inv μ) (k1 : Kp μ μ1) {n : Nat} (hn : μ 1 0 = n) (h8 : n ≤ 8) (hm : μ 11 0 = n) {Post : Pst} (hp : ∀ (μ' : Mem) (o : Nat → Nat), (∀ c, c ≠ 103 → μ' c = μ1 c) → Srt (KD μ) o n → (∀ i, i < n → μ' 103 i = o i) → Post 0 μ') : wp_X11_byDue μ1 Post := by
  unfold wp_X11_byDue b_X11_byDue_e
  intro G6 G16 h6 h16
  refine m_first (by rw [k1 11 rfl]; exact hm) h8 (fun μ2 fr2 c2 => ?_)
  refine upTo (P := fun i => ∀ (μ' : Mem) (o : Nat → Nat), (∀ c, c ≠ 103 → μ' c = μ1 c) → BI (KD μ) o n i 0 → Stb (μ 26) o n → (∀ i, i < n → μ' 103 i = o i) → G6 μ' (i : Int)) (n := n) ?_ ?_ μ2 (fun i => i) fr2 BI.init (fun i j hij _ _ => hij) c2
  · intro μ' o fr bi st c
    have e : μ' 11 0 = n := by rw [fr 11 (by decide), k1 11 rfl]; exact hm
    exact h6 _ _ ⟨fun _ => hp μ' o fr bi.srt c, fun h' => absurd h' (by omega)⟩
  · intro i hi ih μ' o fr bi st c
    have e : μ' 11 0 = n := by rw [fr 11 (by decide), k1 11 rfl]; exact hm
    refine h6 _ _ ⟨fun h' => absurd h' (by omega), fun _ => ?_⟩
    refine upTo (P := fun k => ∀ (μ' : Mem) (o : Nat → Nat), (∀ c, c ≠ 103 → μ' c = μ1 c) → BI (KD μ) o n i k → Stb (μ 26) o n → (∀ i, i < n → μ' 103 i = o i) → G16 μ' (i : Int) (k : Int)) (n := n - 1) ?_ ?_ μ' o fr bi st c
    · intro μ' o fr bi st c
      have e : μ' 11 0 = n := by rw [fr 11 (by decide), k1 11 rfl]; exact hm
      refine h16 _ _ _ ⟨fun _ => ?_, fun h' => absurd h' (by rw [wrap_id (by omega) (by omega)]; omega)⟩
      rw [wrap_id (by omega) (by omega)]
      rintro _ rfl
      rw [← cs]
      exact ih μ' o fr (bi.turn hi) st c
    · intro k hk ihk μ' o fr bi st c
      have e : μ' 11 0 = n := by rw [fr 11 (by decide), k1 11 rfl]; exact hm
      have o1 := bi.1.1 k (by omega)
      have o2 := bi.1.1 (k + 1) (by omega)
      have e92 : ∀ w, w < n → μ' 92 w = μ 26 w := fun w hw => by rw [fr 92 (by decide), k1 92 rfl]; exact (h.w hn hw).2.2.1.1
      have ek : ((k : Int) + 1).toNat = k + 1 := by omega
      have stp := bi.step (KD_inj h8) hi (by omega)
      refine h16 _ _ _ ⟨fun h' => absurd h' (by rw [wrap_id (by omega) (by omega)]; omega), fun _ => ?_⟩
      unfold b_X11_byDue_61
      rw [wrap_id (by omega) (by omega), tn, ek, c k (by omega), c (k + 1) (by omega), tn, tn, e92 _ o1, e92 _ o2]
      refine ⟨by omega, by omega, by omega, by omega, fun hle => ?_, fun hgt => ?_⟩
      · rintro _ rfl
        rw [← cs]
        refine ihk μ' o fr (stp.2 ?_) st c
        unfold KD
        by_cases ee : μ 26 (o k) = μ 26 (o (k + 1))
        · have := st k (k + 1) (by omega) (by omega) ee
          omega
        · omega
      · rw [← cs]
        refine m_swap h8 (by omega) (by omega) c (fun μ3 fr3 c3 => ?_)
        rintro _ rfl
        refine ihk μ3 _ (fun d hd => by rw [fr3 d hd]; exact fr d hd) (stp.1 ?_) (st.exch (by omega) (by omega)) c3
        unfold KD
        omega
/-- the longest of those that stay, the last of such -/
def lgo (o : Nat → Nat) (f : Nat → Int) (S : Nat) : Nat → Int
  | 0 => -1
  | j + 1 => if S.testBit (o j) = true ∧ (lgo o f S j = -1 ∨ f (lgo o f S j).toNat ≤ f (o j)) then (o j : Int) else lgo o f S j
def LgP (o : Nat → Nat) (f : Nat → Int) (S a b p : Nat) : Prop := a ≤ p ∧ p < b ∧ S.testBit (o p) = true ∧ ∀ j, a ≤ j → j < b → S.testBit (o j) = true → f (o j) ≤ f (o p) ∧ (p < j → f (o j) < f (o p))
theorem lgo_lp {o : Nat → Nat} {f : Nat → Int} {S : Nat} (i : Nat) : (lgo o f S i = -1 ∧ ∀ j, j < i → S.testBit (o j) = false) ∨ ∃ p, LgP o f S 0 i p ∧ lgo o f S i = o p := by
  induction i with
  | zero => exact Or.inl ⟨rfl, fun j hj => by omega⟩
  | succ i ih =>
    unfold lgo
    cases hc : S.testBit (o i) with
    | false =>
      rw [if_neg (by simp)]
      rcases ih with ⟨e, h⟩ | ⟨p, h, e⟩
      · refine Or.inl ⟨e, fun j hj => ?_⟩
        by_cases c : j = i
        · rw [c]; exact hc
        · exact h j (by omega)
      · refine Or.inr ⟨p, ⟨h.1, by have := h.2.1; omega, h.2.2.1, fun j h1 h2 h3 => ?_⟩, e⟩
        by_cases c : j = i
        · rw [c, hc] at h3; cases h3
        · exact h.2.2.2 j h1 (by omega) h3
    | true =>
      rcases ih with ⟨e, h⟩ | ⟨p, h, e⟩
      · rw [if_pos ⟨rfl, Or.inl e⟩]
        refine Or.inr ⟨i, ⟨by omega, by omega, hc, fun j h1 h2 h3 => ?_⟩, rfl⟩
        by_cases c : j = i
        · rw [c]; exact ⟨Int.le_refl _, fun h => by omega⟩
        · rw [h j (by omega)] at h3; cases h3
      · rw [e, tn]
        by_cases c : f (o p) ≤ f (o i)
        · rw [if_pos ⟨rfl, Or.inr c⟩]
          refine Or.inr ⟨i, ⟨by omega, by omega, hc, fun j h1 h2 h3 => ?_⟩, rfl⟩
          by_cases c2 : j = i
          · rw [c2]; exact ⟨Int.le_refl _, fun h => by omega⟩
          · have := (h.2.2.2 j h1 (by omega) h3).1
            exact ⟨by omega, fun h => by omega⟩
        · rw [if_neg (by intro hh; omega)]
          refine Or.inr ⟨p, ⟨h.1, by have := h.2.1; omega, h.2.2.1, fun j h1 h2 h3 => ?_⟩, rfl⟩
          by_cases c2 : j = i
          · rw [c2]; exact ⟨by omega, fun _ => by omega⟩
          · exact h.2.2.2 j h1 (by omega) h3
theorem LgP.uq {o : Nat → Nat} {f : Nat → Int} {S a b p q : Nat} (h : LgP o f S a b p) (h' : LgP o f S a b q) : p = q := by
  have h1 := h.2.2.2 q h'.1 h'.2.1 h'.2.2.1
  have h2 := h'.2.2.2 p h.1 h.2.1 h.2.2.1
  by_cases c : p < q
  · have := h1.2 c; omega
  · by_cases c2 : q < p
    · have := h2.2 c2; omega
    · omega
