/-! The end of the last one in a row; judge. -/
theorem RW.cg {B K : Nat} {tt W} {bg lv bg' lv' : Nat → Nat → Int} (hb : ∀ k, k < K → bg' k = bg k) (hl : ∀ k, k < K → lv' k = lv k) (h : RW B tt W bg lv K) : RW B tt W bg' lv' K := by
  intro k hk j hj
  refine ⟨RWb.cg (fun i _ => by rw [hb k hk]) (fun k0 => by rw [hl (k - 1) (by omega)]) (h k hk j hj).1, RWl.cg (by rw [hb k hk]) (by rw [hl k hk]) (fun _ i hi => by rw [hb i (by omega)]) (h k hk j hj).2⟩
def rEnd (lv : Nat → Nat → Int) (B n : Nat) : Int := if n = 0 then 0 else lv (n - 1) (B - 1)
theorem k_lastEnd {μ : Mem} (h : Inv μ) {n B : Nat} (hn : μ 1 0 = n) (h8 : n ≤ 8) (hB : μ 6 1 = B) (h2 : 2 ≤ B) (hB4 : B ≤ 4) {o : Nat → Nat} (ho : ∀ i, i < n → o i < n) (hq : ∀ i, i < n → μ 75 i = o i) {Post : Pst} (hp : ∀ μ', (∀ c, ¬ (40 ≤ c ∧ c < 56) → μ' c = μ c) → RW B (fun k => T μ (o k)) (WK μ) (bgK μ') (lvK μ') n → Post (rEnd (lvK μ') B n) μ') : wp_X4_lastEnd μ Post := by
  unfold wp_X4_lastEnd b_X4_lastEnd_e
  intro G hG
  refine upTo (P := fun k => ∀ μ', (∀ c, ¬ (40 ≤ c ∧ c < 56) → μ' c = μ c) → RW B (fun k => T μ (o k)) (WK μ) (bgK μ') (lvK μ') k → G μ' (rEnd (lvK μ') B k) (k : Int)) (n := n) ?_ ?_ μ (fun _ _ => rfl) (fun k hk => absurd hk (by omega))
  · intro μ' fr rw'
    have e1 : μ' 1 0 = n := by rw [fr 1 (by omega)]; exact hn
    exact hG _ _ _ ⟨fun _ => hp μ' fr rw', fun h' => absurd h' (by omega)⟩
  · intro k hk ih μ' fr rw'
    have hI' : Inv μ' := h.kp (fun c hc => fr c (fun hh => by
      have : isP c = false := by
        unfold isP
        simp
        omega
      rw [this] at hc; cases hc))
    have e1 : μ' 1 0 = n := by rw [fr 1 (by omega)]; exact hn
    have e6 : μ' 6 1 = B := by rw [fr 6 (by omega)]; exact hB
    have eT : ∀ w, w < 8 → T μ' w = T μ w := fun w hw => by unfold T; rw [fr _ (by omega)]
    have eW : WK μ' = WK μ := by
      funext j
      unfold WK
      rw [fr 82 (by omega)]
    have bd := rw'.bd hB4 (fun j => (h.W.1 j).1) (fun k' hk' j hj => h.T hn (ho k' (by omega)) j (by omega))
    refine hG _ _ _ ⟨fun h' => absurd h' (by omega), fun _ => ⟨by omega, ?_⟩⟩
    rw [tn, fr 75 (by omega), hq k hk]
    refine s_send hI' e1 h8 e6 h2 hB4 (by omega) (ho k hk) (fun k0 j hj => ?_) ?_
    · have t1 := h.T hn (ho (k - 1) (by omega)) j (by omega)
      have := bd (k - 1) (by omega) j hj
      have hx : (fun k => T μ (o k)) (k - 1) j = T μ (o (k - 1)) j := rfl
      omega
    · intro μ2 fr2 r2
      rw [wrap_id (by omega) (by omega)]
      intro x hx
      have hR : rEnd (lvK μ2) B (k + 1) = lvK μ2 k (B - 1) := by
        unfold rEnd
        rw [if_neg (by omega), Nat.add_sub_cancel]
      rw [hx, ← cs, ← hR]
      refine ih μ2 (fun c hc => by rw [fr2 c (by omega) (by omega)]; exact fr c hc) (fun k' hk' j hj => ?_)
      by_cases c : k' = k
      · rw [c]
        have := r2 j hj
        rw [eW, eT _ (by have := ho k hk; omega)] at this
        exact this
      · have hw := RW.cg (K := k) (bg' := bgK μ2) (lv' := lvK μ2) (fun i hi => by funext y; unfold bgK; rw [fr2 _ (by omega) (by omega)]) (fun i hi => by funext y; unfold lvK; rw [fr2 _ (by omega) (by omega)]) rw'
        exact hw k' (by omega) j hj
theorem m_leaves {μ : Mem} {W : Nat → Int} {k j : Nat} {d hold : Int} (hk : k < 8) (hj : j < 3) (hh : hold = W (j + 1)) (h0 : 0 ≤ hold) {Post : Pst} (hp : Post (imax d (rqm W (bgR μ) (lvR μ) k (j + 1))) μ) : wp_X11_leaves μ (k : Int) (j : Int) d hold Post := by
  unfold wp_X11_leaves b_X11_leaves_e b_X11_leaves_30
  have fin : ∀ r, r = rqm W (bgR μ) (lvR μ) k (j + 1) → b_X11_leaves_58 Post μ d r := by
    intro r hr
    rw [← hr] at hp
    have dd := imax_d d r
    unfold b_X11_leaves_58
    refine ⟨fun h1 => ?_, fun h1 => ?_⟩
    · rw [show r = imax d r by omega]; exact hp
    · rw [show imax d r = d by omega] at hp; exact hp
  refine ⟨fun h1 => ⟨fun h2 => fin 0 ?_, fun h2 => ?_⟩, fun h1 => ⟨fun h2 => ?_, fun h2 => fin 0 ?_⟩⟩
  · unfold rqm
    rw [if_neg (by omega), if_pos (by omega)]
  · have e : (4 * ((k : Int) - hold) + (j : Int) + 1).toNat = 4 * (k - (W (j + 1)).toNat) + (j + 1) := by omega
    rw [wrap_id (x := (k : Int) - hold) (by omega) (by omega), wrap_id (x := 4 * ((k : Int) - hold)) (by omega) (by omega), wrap_id (x := 4 * ((k : Int) - hold) + (j : Int)) (by omega) (by omega), wrap_id (x := 4 * ((k : Int) - hold) + (j : Int) + 1) (by omega) (by omega), e]
    refine ⟨by omega, ?_⟩
    intro x hx
    refine fin x ?_
    unfold rqm
    rw [if_neg (by omega), if_neg (by omega), hx]
    rfl
  · have e : (4 * ((k : Int) - 1) + (j : Int) + 1).toNat = 4 * (k - 1) + (j + 1) := by omega
    rw [wrap_id (x := (k : Int) - 1) (by omega) (by omega), wrap_id (x := 4 * ((k : Int) - 1)) (by omega) (by omega), wrap_id (x := 4 * ((k : Int) - 1) + (j : Int)) (by omega) (by omega), wrap_id (x := 4 * ((k : Int) - 1) + (j : Int) + 1) (by omega) (by omega), e]
    refine ⟨by omega, fin _ ?_⟩
    unfold rqm fre
    rw [if_pos (by omega), if_neg (by omega)]
    rfl
  · unfold rqm fre
    rw [if_pos (by omega), if_pos (by omega)]
theorem RQe.cg {B : Nat} {t W : Nat → Int} {bg lv bg' lv' : Nat → Nat → Int} {k j : Nat} (hj : j < B) (hb : ∀ i i', i' < B → i < k ∨ (i = k ∧ i' ≤ j) → bg' i i' = bg i i') (hl : ∀ i i', i' < B → i < k ∨ (i = k ∧ i' ≤ j) → lv' i i' = lv i i') (hW : ∀ j, 0 ≤ W j) (h : RQe B t W bg lv k j) : RQe B t W bg' lv' k j := by
  have hf : ∀ i', i' < B → fre lv' k i' = fre lv k i' := by
    intro i' hi'
    unfold fre
    split
    · rfl
    · exact hl _ _ hi' (by omega)
  obtain ⟨h1, h2⟩ := h
  refine ⟨?_, ?_⟩
  · rw [hb k j hj (by omega), h1, hf j hj, hl k (j - 1) (by omega) (by omega)]
  · rw [hl k j hj (by omega), h2, hb k j hj (by omega)]
    by_cases c : j + 1 = B
    · rw [if_pos c, if_pos c]
    · rw [if_neg c, if_neg c]
      have : rqm W bg' lv' k (j + 1) = rqm W bg lv k (j + 1) := by
        unfold rqm
        split
        · exact hf _ (by omega)
        split
        · rfl
        · have := hW (j + 1)
          exact hb _ _ (by omega) (by omega)
      rw [this]
theorem m_rowEnd {μ : Mem} (h : Inv μ) {n B : Nat} {wide : Int} {W : Nat → Int} (hn : μ 1 0 = n) (h8 : n ≤ 8) (hm : μ 11 0 = n) (h2 : 2 ≤ B) (hB4 : B ≤ 4) (hW : ∀ j, 0 ≤ W j ∧ W j ≤ 9) (hwd : ∀ j, 1 ≤ j → j < 4 → W j = if wide = 0 then μ 98 j else 9) {o : Nat → Nat} (ho : ∀ i, i < n → o i < n) (hq : ∀ i, i < n → μ 103 i = o i) {Post : Pst} (hp : ∀ μ', (∀ c, c ≠ 107 → c ≠ 108 → μ' c = μ c) → RW B (fun k => T μ (o k)) W (bgR μ') (lvR μ') n → Post (rEnd (lvR μ') B n) μ') : wp_X11_rowEnd μ (B : Int) wide Post := by
  have hT : ∀ k, k < n → ∀ j, j < B → 1 ≤ T μ (o k) j ∧ T μ (o k) j ≤ 40 := fun k hk j hj => h.T hn (ho k hk) j (by omega)
  unfold wp_X11_rowEnd b_X11_rowEnd_e
  intro G5 G17 h5 h17
  refine upTo (P := fun k => ∀ μ', (∀ c, c ≠ 107 → c ≠ 108 → μ' c = μ c) → RQ B (fun k => T μ (o k)) W (bgR μ') (lvR μ') k → G5 μ' (B : Int) wide (rEnd (lvR μ') B k) (k : Int)) (n := n) ?_ ?_ μ (fun _ _ _ => rfl) (fun k hk => absurd hk (by omega))
  · intro μ' fr rq
    have e1 : μ' 11 0 = n := by rw [fr 11 (by omega) (by omega)]; exact hm
    exact h5 _ _ _ _ _ ⟨fun _ => hp μ' fr (rq.toRW (fun j => (hW j).1) (fun k hk j hj => (hT k hk j hj).1)), fun h' => absurd h' (by omega)⟩
  · intro k hk ihk μ' fr rq
    have e1 : μ' 11 0 = n := by rw [fr 11 (by omega) (by omega)]; exact hm
    refine h5 _ _ _ _ _ ⟨fun h' => absurd h' (by omega), fun _ => ?_⟩
    have hw := ho k hk
    refine upTo (P := fun j => ∀ μ' x3, (∀ c, c ≠ 107 → c ≠ 108 → μ' c = μ c) → RQ B (fun k => T μ (o k)) W (bgR μ') (lvR μ') k → (∀ i, i < j → RQe B (T μ (o k)) W (bgR μ') (lvR μ') k i) → (0 < j → x3 = bgR μ' k (j - 1) + T μ (o k) (j - 1)) → (∀ i, i < j → 0 ≤ bgR μ' k i ∧ bgR μ' k i + T μ (o k) i ≤ 160 * k + 40 * i + 40) → G17 μ' (B : Int) wide x3 (k : Int) (j : Int)) (n := B) ?_ ?_ μ' _ fr rq (fun i hi => absurd hi (by omega)) (fun h' => by omega) (fun i hi => absurd hi (by omega))
    · intro μ' x3 fr rq re hx bd
      have rq' : RQ B (fun k => T μ (o k)) W (bgR μ') (lvR μ') (k + 1) := by
        intro k' hk' j hj
        by_cases c : k' = k
        · rw [c]; exact re j hj
        · exact rq k' (by omega) j hj
      refine h17 _ _ _ _ _ _ ⟨fun _ => ?_, fun h' => absurd h' (by omega)⟩
      rw [wrap_id (by omega) (by omega)]
      intro x hx2
      have hx3 : x3 = rEnd (lvR μ') B (k + 1) := by
        unfold rEnd
        rw [if_neg (by omega), Nat.add_sub_cancel, hx (by omega)]
        have := (re (B - 1) (by omega)).2
        rw [if_pos (by omega)] at this
        exact this.symm
      rw [hx2, ← cs, hx3]
      exact ihk μ' fr rq'
    · intro j hj ihj μ' x3 fr rq re hx bd
      have rw' := rq.toRW (fun j => (hW j).1) (fun k' hk' j hj => (hT k' (by omega) j hj).1)
      have bdk := rw'.bd hB4 (fun j => (hW j).1) (fun k' hk' j hj => hT k' (by omega) j hj)
      have tj := hT k hk j hj
      obtain ⟨fr0, hfr0⟩ : ∃ a, a = (if j = 0 then 0 else lvR μ' k (j - 1)) := ⟨_, rfl⟩
      obtain ⟨f, hf⟩ : ∃ f, f = fre (lvR μ') k j := ⟨_, rfl⟩
      have fb : 0 ≤ f ∧ f ≤ 160 * k := by
        rw [hf]
        unfold fre
        split
        · omega
        · rename_i k0
          have b1 := bdk (k - 1) (by omega) j hj
          have t1 := hT (k - 1) (by omega) j hj
          have hx : (fun k => T μ (o k)) (k - 1) j = T μ (o (k - 1)) j := rfl
          omega
      have hromB : ∀ i, i < B → 0 < i → rqm W (bgR μ') (lvR μ') k i ≤ 160 * k + 40 * i := by
        intro i hi i0
        unfold rqm
        split
        · unfold fre
          split
          · omega
          · have b1 := bdk (k - 1) (by omega) i hi
            omega
        split
        · omega
        · have := hW i
          have b1 := bdk (k - (W i).toNat) (by omega) i hi
          omega
      have frb : 0 ≤ fr0 ∧ fr0 ≤ 160 * k + 40 * j := by
        rw [hfr0]
        split
        · omega
        · rename_i j0
          have e := (re (j - 1) (by omega)).2
          rw [if_neg (by omega), show j - 1 + 1 = j by omega] at e
          have b1 := bd (j - 1) (by omega)
          have b2 := hromB j hj (by omega)
          have d := imax_d (bgR μ' k (j - 1) + T μ (o k) (j - 1)) (rqm W (bgR μ') (lvR μ') k j)
          have t1 := hT k hk (j - 1) (by omega)
          omega
      obtain ⟨bg, hbg⟩ : ∃ bg, bg = imax fr0 f := ⟨_, rfl⟩
      have dbg := imax_d fr0 f
      rw [← hbg] at dbg
      -- the last of it
      have fin : ∀ μ1, μ1 = wr μ' 107 (4 * k + j) bg → ∀ v, (v = if j + 1 = B then bg + T μ (o k) j else imax (bg + T μ (o k) j) (rqm W (bgR μ1) (lvR μ1) k (j + 1))) → b_X11_rowEnd_177 G5 G17 Post μ1 (B : Int) wide (k : Int) (j : Int) (bg + T μ (o k) j) (4 * (k : Int) + (j : Int)) v := by
        intro μ1 h1 v hv
        unfold b_X11_rowEnd_177
        refine ⟨by omega, ?_⟩
        intro μ2 h2' x hx'
        have e4 : (4 * (k : Int) + (j : Int)).toNat = 4 * k + j := by omega
        rw [e4] at h2'
        rw [wrap_id (by omega) (by omega)] at hx'
        rw [hx', ← cs]
        have hB1 : ∀ i i', i' < 4 → i ≤ 8 → bgR μ2 i i' = if i = k ∧ i' = j then bg else bgR μ' i i' := by
          intro i i' hi' hi
          show μ2 107 (4 * i + i') = _
          rw [h2', wr_o (by decide), h1, wr_app, if_pos rfl]
          by_cases c : i = k ∧ i' = j
          · rw [if_pos (by omega), if_pos c]
          · rw [if_neg (by omega), if_neg c]; rfl
        have hL1 : ∀ i i', i' < 4 → i ≤ 8 → lvR μ2 i i' = if i = k ∧ i' = j then v else lvR μ' i i' := by
          intro i i' hi' hi
          show μ2 108 (4 * i + i') = _
          rw [h2', wr_app, if_pos rfl]
          by_cases c : i = k ∧ i' = j
          · rw [if_pos (by omega), if_pos c]
          · rw [if_neg (by omega), if_neg c, h1, wr_o (by decide)]; rfl
        have ek : bgR μ2 k j = bg := by rw [hB1 k j (by omega) (by omega), if_pos ⟨rfl, rfl⟩]
        refine ihj μ2 _ (fun c c1 c2 => by rw [h2', wr_ne c2, h1, wr_ne c1]; exact fr c c1 c2) (fun k' hk' i hi => ?_) (fun i hi => ?_) (fun _ => ?_) (fun i hi => ?_)
        · exact RQe.cg hi (fun a b hb hab => by rw [hB1 a b (by omega) (by omega), if_neg (by omega)]) (fun a b hb hab => by rw [hL1 a b (by omega) (by omega), if_neg (by omega)]) (fun j => (hW j).1) (rq k' hk' i hi)
        · by_cases c : i = j
          · rw [c]
            have ef : fre (lvR μ2) k j = f := by
              rw [hf]
              unfold fre
              split
              · rfl
              · rw [hL1 _ _ (by omega) (by omega), if_neg (by omega)]
            have ep : (if j = 0 then 0 else lvR μ2 k (j - 1)) = fr0 := by
              rw [hfr0]
              split
              · rfl
              · rw [hL1 _ _ (by omega) (by omega), if_neg (by omega)]
            refine ⟨by rw [ek, ef, ep]; exact hbg, ?_⟩
            rw [hL1 k j (by omega) (by omega), if_pos ⟨rfl, rfl⟩, ek, hv]
            by_cases c2 : j + 1 = B
            · rw [if_pos c2, if_pos c2]
            · rw [if_neg c2, if_neg c2]
              have : rqm W (bgR μ2) (lvR μ2) k (j + 1) = rqm W (bgR μ1) (lvR μ1) k (j + 1) := by
                unfold rqm fre
                have eL : ∀ i, i < k → lvR μ2 i (j + 1) = lvR μ1 i (j + 1) := by
                  intro i hi
                  show μ2 108 _ = μ1 108 _
                  rw [h2', wr_i (by omega)]
                have eG : ∀ i, bgR μ2 i (j + 1) = bgR μ1 i (j + 1) := by
                  intro i
                  show μ2 107 _ = μ1 107 _
                  rw [h2', wr_o (by decide)]
                split
                · split
                  · rfl
                  · exact eL _ (by omega)
                split
                · rfl
                · exact eG _
              rw [this]
          · exact RQe.cg (by omega) (fun a b hb hab => by rw [hB1 a b (by omega) (by omega), if_neg (by omega)]) (fun a b hb hab => by rw [hL1 a b (by omega) (by omega), if_neg (by omega)]) (fun j => (hW j).1) (re i (by omega))
        · rw [Nat.add_sub_cancel, ek]
        · by_cases c : i = j
          · rw [c, ek]; omega
          · rw [hB1 _ _ (by omega) (by omega), if_neg (by omega)]
            exact bd i (by omega)
      have mid : ∀ s0, s0 = bg → b_X11_rowEnd_87 G5 G17 Post μ' (B : Int) wide (k : Int) (j : Int) s0 := by
        intro s0 hs0
        rw [hs0]
        unfold b_X11_rowEnd_87
        have e103 : μ' 103 k = o k := by rw [fr 103 (by omega) (by omega)]; exact hq k hk
        have e97 : μ' 97 (4 * o k + j) = T μ (o k) j := by rw [fr 97 (by omega) (by omega)]; exact (h.tm hn hw (b := j) (by omega)).1
        have ea : (4 * (o k : Int) + (j : Int)).toNat = 4 * o k + j := by omega
        have eb : (4 * (k : Int) + (j : Int)).toNat = 4 * k + j := by omega
        rw [tn, e103, wrap_id (x := 4 * (o k : Int)) (by omega) (by omega), wrap_id (x := 4 * (o k : Int) + (j : Int)) (by omega) (by omega), ea, e97, wrap_id (x := 4 * (k : Int)) (by omega) (by omega), wrap_id (x := 4 * (k : Int) + (j : Int)) (by omega) (by omega), eb, wrap_id (x := bg + T μ (o k) j) (by omega) (by omega), wrap_id (x := (B : Int) - 1) (by omega) (by omega), wrap_id (x := (j : Int) + 1) (by omega) (by omega)]
        refine ⟨by omega, by omega, ?_⟩
        intro x8 hx8
        rw [hx8]
        refine ⟨by omega, ?_⟩
        intro μ1 h1
        have e98 : ∀ j, μ1 98 j = μ 98 j := fun j => by rw [h1, wr_o (by decide), fr 98 (by omega) (by omega)]
        have ej : ((j : Int) + 1).toNat = j + 1 := by omega
        refine ⟨fun c => ⟨fun c0 => ⟨by omega, ?_⟩, fun c0 => ?_⟩, fun c => fin μ1 h1 _ ?_⟩
        · unfold b_X11_rowEnd_174
          rw [ej, e98]
          have hwj := hwd (j + 1) (by omega) (by omega)
          rw [if_pos c0] at hwj
          refine m_leaves (W := W) (by omega) (by omega) hwj.symm (by rw [← hwj]; exact (hW _).1) (fin μ1 h1 _ ?_)
          rw [if_neg (by omega)]
        · unfold b_X11_rowEnd_174
          have hwj := hwd (j + 1) (by omega) (by omega)
          rw [if_neg c0] at hwj
          refine m_leaves (W := W) (by omega) (by omega) hwj.symm (by decide) (fin μ1 h1 _ ?_)
          rw [if_neg (by omega)]
        · rw [if_pos (by omega)]
      have mid2 : ∀ s0 f0, s0 = fr0 → f0 = f → b_X11_rowEnd_71 G5 G17 Post μ' (B : Int) wide (k : Int) (j : Int) s0 f0 := by
        intro s0 f0 e1 e2
        unfold b_X11_rowEnd_71
        exact ⟨fun c => mid _ (by omega), fun c => mid _ (by omega)⟩
      have mid3 : ∀ s0, s0 = fr0 → b_X11_rowEnd_46 G5 G17 Post μ' (B : Int) wide (k : Int) (j : Int) s0 := by
        intro s0 e1
        unfold b_X11_rowEnd_46
        refine ⟨fun c => ?_, fun c => mid2 _ _ e1 ?_⟩
        · have ea : (4 * ((k : Int) - 1) + (j : Int)).toNat = 4 * (k - 1) + j := by omega
          rw [wrap_id (x := (k : Int) - 1) (by omega) (by omega), wrap_id (x := 4 * ((k : Int) - 1)) (by omega) (by omega), wrap_id (x := 4 * ((k : Int) - 1) + (j : Int)) (by omega) (by omega), ea]
          refine ⟨by omega, mid2 _ _ e1 ?_⟩
          rw [hf]
          unfold fre
          rw [if_neg (by omega)]
          rfl
        · rw [hf]
          unfold fre
          rw [if_pos (by omega)]
      refine h17 _ _ _ _ _ _ ⟨fun h' => absurd h' (by omega), fun _ => ⟨fun c => ?_, fun c => mid3 _ ?_⟩⟩
      · have ea : (4 * (k : Int) + (j : Int) - 1).toNat = 4 * k + (j - 1) := by omega
        rw [wrap_id (x := 4 * (k : Int)) (by omega) (by omega), wrap_id (x := 4 * (k : Int) + (j : Int)) (by omega) (by omega), wrap_id (x := 4 * (k : Int) + (j : Int) - 1) (by omega) (by omega), ea]
        refine ⟨by omega, mid3 _ ?_⟩
        rw [hfr0, if_neg (by omega)]
        rfl
      · rw [hfr0, if_pos (by omega)]
