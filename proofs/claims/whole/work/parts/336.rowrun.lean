/-! Benches in a row: both sides run. -/
def bgK (μ : Mem) (k j : Nat) : Int := μ (40 + k) j
def lvK (μ : Mem) (k j : Nat) : Int := μ (48 + k) j
def bgR (μ : Mem) (k j : Nat) : Int := μ 107 (4 * k + j)
def lvR (μ : Mem) (k j : Nat) : Int := μ 108 (4 * k + j)
def WK (μ : Mem) (j : Nat) : Int := if 1 ≤ j ∧ j < 4 then μ 82 j else 9
theorem RWb.cg {t : Nat → Int} {bg lv bg' lv' : Nat → Nat → Int} {k j : Nat} (hb : ∀ i, i ≤ j → bg' k i = bg k i) (hl : k ≠ 0 → lv' (k - 1) j = lv (k - 1) j) (h : RWb t bg lv k j) : RWb t bg' lv' k j := by
  unfold RWb prv fre at *
  rw [hb j (Nat.le_refl j), h, hb (j - 1) (by omega)]
  by_cases k0 : k = 0
  · rw [if_pos k0, if_pos k0]
  · rw [if_neg k0, if_neg k0, hl k0]
theorem RWl.cg {B : Nat} {t W : Nat → Int} {bg lv bg' lv' : Nat → Nat → Int} {k j : Nat} (hb : bg' k j = bg k j) (hl : lv' k j = lv k j) (hr : j + 1 ≠ B → ∀ i, i ≤ k → bg' i (j + 1) = bg i (j + 1)) (h : RWl B t W bg lv k j) : RWl B t W bg' lv' k j := by
  unfold RWl rom at *
  rw [hl, h, hb]
  by_cases c : j + 1 = B
  · rw [if_pos c, if_pos c]
  · rw [if_neg c, if_neg c, hr c _ (by omega)]
theorem Inv.W {μ : Mem} (h : Inv μ) : (∀ j, 0 ≤ WK μ j ∧ WK μ j ≤ 9) ∧ ∀ j, 1 ≤ j → j < 4 → μ 82 j = WK μ j ∧ μ 98 j = WK μ j := by
  obtain ⟨-, -, -, h3⟩ := h.2.2.2.2.2.2.1
  refine ⟨fun j => ?_, fun j h1 h2 => ?_⟩
  · unfold WK
    split
    · rename_i c
      have := h3 j c.1 c.2
      omega
    · omega
  · unfold WK
    rw [if_pos ⟨h1, h2⟩]
    exact ⟨rfl, (h3 j h1 h2).1.symm⟩
theorem s_send {μ : Mem} (h : Inv μ) {n B : Nat} (hn : μ 1 0 = n) (h8 : n ≤ 8) (hB : μ 6 1 = B) (h2 : 2 ≤ B) (hB4 : B ≤ 4) {k w : Nat} (hk : k < 8) (hw : w < n) (hl : 0 < k → ∀ j, j < B → 0 ≤ lvK μ (k - 1) j ∧ lvK μ (k - 1) j ≤ 1500) {Post : Pst} (hp : ∀ μ', (∀ c, c ≠ 40 + k → c ≠ 48 + k → μ' c = μ c) → (∀ j, j < B → RWb (T μ w) (bgK μ') (lvK μ') k j ∧ RWl B (T μ w) (WK μ) (bgK μ') (lvK μ') k j) → Post (lvK μ' k (B - 1)) μ') : wp_X4_send μ (k : Int) (w : Int) Post := by
  unfold wp_X4_send b_X4_send_e
  intro G hG
  have hT := h.T hn hw
  have hW := h.W
  refine upTo (P := fun j => ∀ μ', (∀ c, c ≠ 40 + k → c ≠ 48 + k → μ' c = μ c) → (∀ i, i < j → RWb (T μ w) (bgK μ') (lvK μ') k i) → (∀ i, i + 1 < j → RWl B (T μ w) (WK μ) (bgK μ') (lvK μ') k i) → (0 ≤ prv (bgK μ') (T μ w) k j ∧ prv (bgK μ') (T μ w) k j ≤ 1600 + 40 * j) → G μ' (k : Int) (w : Int) (prv (bgK μ') (T μ w) k j) (j : Int)) (n := B) ?_ ?_ μ (fun _ _ _ => rfl) (fun i hi => absurd hi (by omega)) (fun i hi => absurd hi (by omega)) (by unfold prv; rw [if_pos rfl]; decide)
  · intro μ' fr rb rl bd
    have e6 : μ' 6 1 = B := by rw [fr 6 (by omega) (by omega)]; exact hB
    refine hG _ _ _ _ _ ⟨fun _ => ?_, fun h' => absurd h' (by omega)⟩
    have e1 : ((B : Int) - 1).toNat = B - 1 := by omega
    rw [e6, wrap_id (by omega) (by omega), tn, e1]
    refine ⟨by omega, by omega, ?_⟩
    intro μ3 h3
    have ep : prv (bgK μ') (T μ w) k B = bgK μ' k (B - 1) + T μ w (B - 1) := by unfold prv; rw [if_neg (by omega)]
    have hlast : lvK μ3 k (B - 1) = prv (bgK μ') (T μ w) k B := by rw [h3]; exact wr_s
    have hbg : ∀ i j, bgK μ3 i j = if 40 + i = 48 + k then bgK μ3 i j else bgK μ' i j := by
      intro i j
      split
      · rfl
      · rename_i c; rw [h3]; exact wr_o c
    rw [← hlast]
    refine hp μ3 (fun c c1 c2 => by rw [h3, wr_ne c2]; exact fr c c1 c2) (fun j hj => ⟨?_, ?_⟩)
    · refine RWb.cg (fun i hi => ?_) (fun k0 => ?_) (rb j hj)
      · rw [hbg, if_neg (by omega)]
      · rw [h3]; exact wr_o (show 48 + (k - 1) ≠ 48 + k by omega)
    · by_cases c : j + 1 = B
      · unfold RWl
        rw [if_pos c, show j = B - 1 by omega, hlast, ep, hbg, if_neg (by omega)]
      · refine RWl.cg (by rw [hbg, if_neg (by omega)]) ?_ (fun _ i hi => by rw [hbg, if_neg (by omega)]) (rl j (by omega))
        rw [h3]; exact wr_i (by omega)
  · intro j hj ih μ' fr rb rl bd
    have e6 : μ' 6 1 = B := by rw [fr 6 (by omega) (by omega)]; exact hB
    have e82 : μ' 82 = μ 82 := fr 82 (by omega) (by omega)
    have eT : μ' (32 + w) j = T μ w j := by rw [fr (32 + w) (by omega) (by omega)]; rfl
    have tj := hT j (by omega)
    obtain ⟨p, hpp⟩ : ∃ p, p = prv (bgK μ') (T μ w) k j := ⟨_, rfl⟩
    obtain ⟨f, hf⟩ : ∃ f, f = fre (lvK μ') k j := ⟨_, rfl⟩
    have fb : 0 ≤ f ∧ f ≤ 1500 := by
      rw [hf]
      unfold fre
      split
      · omega
      · have e : lvK μ' (k - 1) j = lvK μ (k - 1) j := by unfold lvK; rw [fr _ (by omega) (by omega)]
        rw [e]
        exact hl (by omega) j hj
    have dpf := imax_d p f
    rw [← hpp] at bd ⊢
    -- behind the room
    have fin : ∀ μ2, (∀ c, c ≠ 40 + k → c ≠ 48 + k → μ2 c = μ' c) → (∀ i, bgK μ2 k i = if i = j then imax p f else bgK μ' k i) → (∀ i, i + 1 ≠ j → lvK μ2 k i = lvK μ' k i) → (0 < j → RWl B (T μ w) (WK μ) (bgK μ2) (lvK μ2) k (j - 1)) → b_X4_send_77 G Post μ2 (k : Int) (w : Int) (j : Int) := by
      intro μ2 fr2 b2 l2 r2
      unfold b_X4_send_77
      have eT2 : μ2 (32 + w) j = T μ w j := by rw [fr2 (32 + w) (by omega) (by omega)]; exact eT
      have eb2 : μ2 (40 + k) j = imax p f := by
        have := b2 j
        rw [if_pos rfl] at this
        exact this
      rw [tn, tn, tn, eT2, eb2, wrap_id (by omega) (by omega), wrap_id (by omega) (by omega)]
      refine ⟨by omega, by omega, by omega, by omega, ?_⟩
      intro x1 hx1 x2 hx2
      have ep2 : prv (bgK μ2) (T μ w) k (j + 1) = imax p f + T μ w j := by
        unfold prv
        rw [if_neg (by omega), Nat.add_sub_cancel, b2 j, if_pos rfl]
      rw [hx1, hx2, ← cs, ← ep2]
      refine ih μ2 (fun c c1 c2 => by rw [fr2 c c1 c2]; exact fr c c1 c2) (fun i hi => ?_) (fun i hi => ?_) (by rw [ep2]; omega)
      · by_cases c : i = j
        · rw [c]
          unfold RWb
          rw [b2 j, if_pos rfl, hpp, hf]
          have e1 : prv (bgK μ2) (T μ w) k j = prv (bgK μ') (T μ w) k j := by
            unfold prv
            split
            · rfl
            · rw [b2, if_neg (by omega)]
          have e2 : fre (lvK μ2) k j = fre (lvK μ') k j := by
            unfold fre
            split
            · rfl
            · unfold lvK; rw [fr2 _ (by omega) (by omega)]
          rw [e1, e2]
        · exact RWb.cg (fun i' hi' => by rw [b2, if_neg (by omega)]) (fun k0 => by unfold lvK; rw [fr2 _ (by omega) (by omega)]) (rb i (by omega))
      · by_cases c : i + 1 = j
        · have := r2 (by omega)
          rw [show j - 1 = i by omega] at this
          exact this
        · refine RWl.cg (by rw [b2, if_neg (by omega)]) (l2 i c) (fun _ i' hi' => ?_) (rl i (by omega))
          by_cases c3 : i' = k
          · rw [c3, b2, if_neg (by omega)]
          · unfold bgK; rw [fr2 _ (by omega) (by omega)]
    have mid : ∀ s0, s0 = f → b_X4_send_33 G Post μ' (k : Int) (w : Int) p (j : Int) s0 := by
      intro s0 hs0
      unfold b_X4_send_33
      rw [tn, tn, hs0]
      refine ⟨by omega, by omega, ?_⟩
      intro μ1 h1
      have b1 : ∀ i, bgK μ1 k i = if i = j then imax p f else bgK μ' k i := by
        intro i
        rw [h1]
        show wr μ' (40 + k) j (imax p f) (40 + k) i = _
        rw [wr_app, if_pos rfl]
        rfl
      have fr1 : ∀ c, c ≠ 40 + k → μ1 c = μ' c := fun c hc => by rw [h1, wr_ne hc]
      refine ⟨fun j0 => ?_, fun j0 => ⟨by omega, ?_⟩⟩
      · refine fin μ1 (fun c c1 c2 => fr1 c c1) b1 (fun i hi => ?_) (fun hj => by omega)
        unfold lvK
        rw [fr1 _ (by omega)]
      · unfold wp_X4_roomAhead b_X4_roomAhead_e
        have hWj := hW.1 j
        have e82' : μ1 82 j = WK μ j := by rw [fr1 82 (by omega), e82]; exact (hW.2 j (by omega) (by omega)).1
        rw [tn, e82', wrap_id (by omega) (by omega)]
        refine ⟨by omega, ?_⟩
        intro x hx
        have ej1 : ((j : Int) - 1).toNat = j - 1 := by omega
        have room : ∀ r, r = rom (WK μ) (bgK μ1) k j → (0 ≤ (wrap ((j : Int) - 1)) ∧ (wrap ((j : Int) - 1)) < 4) ∧ ∀ μ_15 : Mem, μ_15 = wr μ1 (48 + k) (wrap ((j : Int) - 1)).toNat (imax p r) → b_X4_send_77 G Post μ_15 (k : Int) (w : Int) (j : Int) := by
          intro r hr
          rw [wrap_id (by omega) (by omega), ej1]
          refine ⟨by omega, ?_⟩
          intro μ2 h2'
          have fr2 : ∀ c, c ≠ 48 + k → μ2 c = μ1 c := fun c hc => by rw [h2', wr_ne hc]
          have bb : ∀ i i', i ≤ k → bgK μ2 i i' = bgK μ1 i i' := fun i i' hi => by unfold bgK; rw [fr2 _ (by omega)]
          refine fin μ2 (fun c c1 c2 => by rw [fr2 c c2, fr1 c c1]) (fun i => by rw [bb k i (Nat.le_refl k)]; exact b1 i) (fun i hi => ?_) (fun hj0 => ?_)
          · have e : lvK μ2 k i = lvK μ1 k i := by rw [h2']; exact wr_i (by omega)
            rw [e]
            unfold lvK
            rw [fr1 _ (by omega)]
          · unfold RWl
            rw [show j - 1 + 1 = j by omega, if_neg (by omega)]
            have e1 : lvK μ2 k (j - 1) = imax p r := by rw [h2']; exact wr_s
            have e2 : bgK μ2 k (j - 1) + T μ w (j - 1) = p := by
              rw [bb k _ (Nat.le_refl k), b1, if_neg (by omega), hpp]
              unfold prv
              rw [if_neg (by omega)]
            have e3 : rom (WK μ) (bgK μ2) k j = r := by
              rw [hr]
              unfold rom
              rw [bb _ _ (by omega)]
            rw [e1, e2, e3]
        refine ⟨fun hx0 => ⟨by omega, by omega, ?_⟩, fun hx0 => room 0 ?_⟩
        · refine room _ ?_
          unfold rom
          rw [if_neg (by omega)]
          show μ1 (40 + x.toNat) j = μ1 (40 + (k - (WK μ j).toNat)) j
          rw [show x.toNat = k - (WK μ j).toNat by omega]
        · unfold rom
          rw [if_pos (by omega)]
    refine hG _ _ _ _ _ ⟨fun h' => absurd h' (by omega), fun _ => ⟨fun k0 => ?_, fun k0 => mid 0 ?_⟩⟩
    · have e1 : ((k : Int) - 1).toNat = k - 1 := by omega
      rw [wrap_id (by omega) (by omega), e1, tn]
      refine ⟨by omega, by omega, mid _ ?_⟩
      rw [hf]
      unfold fre
      rw [if_neg (by omega)]
      rfl
    · rw [hf]
      unfold fre
      rw [if_pos (by omega)]
