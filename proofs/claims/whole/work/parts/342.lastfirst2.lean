/-! lastFirst -/
def lfc (A : Nat → Nat) (d : Nat → Int → Int) (f : Nat → Int) (n S : Nat) : Nat := (lst A d n S (wsum f S n) n).toNat
def lfS (A : Nat → Nat) (d : Nat → Int → Int) (f : Nat → Int) (n : Nat) : Nat → Nat × Int
  | 0 => (2 ^ n - 1, 0)
  | j + 1 => (ndf (lfS A d f n j).1 (2 ^ lfc A d f n (lfS A d f n j).1), imax (lfS A d f n j).2 (d (lfc A d f n (lfS A d f n j).1) (wsum f (lfS A d f n j).1 n)))
theorem lf_ok {A rk : Nat → Nat} {d : Nat → Int → Int} {f : Nat → Int} {n : Nat} (hA : ∀ u w, w < n → (A w).testBit u = true → u < n ∧ rk u < rk w) {j : Nat} (hj : j ≤ n) : (lfS A d f n j).1 < 2 ^ n ∧ wsum (fun _ => 1) (lfS A d f n j).1 n = n - j ∧ (j < n → lst A d n (lfS A d f n j).1 (wsum f (lfS A d f n j).1 n) n = (lfc A d f n (lfS A d f n j).1 : Int) ∧ lfc A d f n (lfS A d f n j).1 < n ∧ ((lfS A d f n j).1).testBit (lfc A d f n (lfS A d f n j).1) = true) := by
  have step : ∀ S : Nat, wsum (fun _ => 1) S n = n - j → j < n → lst A d n S (wsum f S n) n = (lfc A d f n S : Int) ∧ lfc A d f n S < n ∧ S.testBit (lfc A d f n S) = true := by
    intro S hs hj'
    obtain ⟨w0, h0, hs0⟩ := wsum_pos (S := S) (i := n) (by omega)
    obtain ⟨w, hw, hm⟩ := may_some hA h0 hs0
    have h1 := lst_some (d := d) (E := wsum f S n) hw hm
    have h2 := lst_rng (A := A) (d := d) (n := n) (S := S) (E := wsum f S n) n
    unfold lfc
    rcases h2 with h2 | h2
    · exact absurd h2 h1
    · have h3 := h2.2.2
      unfold may at h3
      rw [Bool.and_eq_true] at h3
      exact ⟨by omega, by omega, h3.1⟩
  induction j with
  | zero =>
    have e : wsum (fun _ => 1) (2 ^ n - 1) n = (n : Int) := by
      rw [wsum_all (Nat.le_refl n)]
      clear step hA hj
      induction n with
      | zero => rfl
      | succ n ih => unfold sumTo; rw [ih]; omega
    have p0 : 0 < 2 ^ n := Nat.pow_pos (by decide)
    refine ⟨?_, by show wsum (fun _ => 1) (2 ^ n - 1) n = _; rw [e]; omega, fun h => step _ (by show wsum (fun _ => 1) (2 ^ n - 1) n = _; rw [e]; omega) h⟩
    show 2 ^ n - 1 < 2 ^ n
    omega
  | succ j ih =>
    have step' : ∀ S : Nat, wsum (fun _ => 1) S n = n - j → j < n → lst A d n S (wsum f S n) n = (lfc A d f n S : Int) ∧ lfc A d f n S < n ∧ S.testBit (lfc A d f n S) = true := by
      intro S hs hj'
      obtain ⟨w0, h0, hs0⟩ := wsum_pos (S := S) (i := n) (by omega)
      obtain ⟨w, hw, hm⟩ := may_some hA h0 hs0
      have h1 := lst_some (d := d) (E := wsum f S n) hw hm
      have h2 := lst_rng (A := A) (d := d) (n := n) (S := S) (E := wsum f S n) n
      unfold lfc
      rcases h2 with h2 | h2
      · exact absurd h2 h1
      · have h3 := h2.2.2
        unfold may at h3
        rw [Bool.and_eq_true] at h3
        exact ⟨by omega, by omega, h3.1⟩
    obtain ⟨i1, i2, i3⟩ := ih (by omega) step'
    obtain ⟨c1, c2, c3⟩ := i3 (by omega)
    have e : wsum (fun _ => 1) (lfS A d f n (j + 1)).1 n = n - (j + 1 : Nat) := by
      show wsum (fun _ => 1) (ndf (lfS A d f n j).1 (2 ^ lfc A d f n (lfS A d f n j).1)) n = _
      rw [wsum_rm c2 c3, i2]
      omega
    exact ⟨Nat.lt_of_le_of_lt (ndf_le _ _) i1, e, fun h => step _ e h⟩
theorem k_behind {μ : Mem} (h : Inv μ) {n : Nat} (hn : μ 1 0 = n) (h8 : n ≤ 8) {Post : Pst} (hp : ∀ μ' : Mem, (∀ c, c ≠ 80 → c ≠ 4 → μ' c = μ c) → (∀ j, j < n → μ' 80 (n - 1 - j) = lfc (Ad μ) (lte μ) (μ 24) n (lfS (Ad μ) (lte μ) (μ 24) n j).1) → μ' 4 2 = (lfS (Ad μ) (lte μ) (μ 24) n n).2 → Post 0 μ') : wp_X0_orderFromBehind μ Post := by
  have p8 := pow8 h8
  obtain ⟨-, -, -, -, rk, a5⟩ := h.a hn h8
  unfold wp_X0_orderFromBehind b_X0_orderFromBehind_e
  intro G hG
  refine k_all hn h8 (k_allLong h hn h8 ?_)
  intro μ0 h0 x hx
  have e10 : μ0 1 0 = n := by rw [h0, wr_o (by decide)]; exact hn
  rw [e10, wrap_id (by omega) (by omega)] at hx
  rw [hx, ← wsum_all (n := n) (Nat.le_refl n)]
  have key := upTo (P := fun j => ∀ μ' : Mem, (∀ c, c ≠ 80 → c ≠ 4 → μ' c = μ c) → (∀ i, i < j → μ' 80 (n - 1 - i) = lfc (Ad μ) (lte μ) (μ 24) n (lfS (Ad μ) (lte μ) (μ 24) n i).1) → μ' 4 2 = (lfS (Ad μ) (lte μ) (μ 24) n j).2 → G μ' ((lfS (Ad μ) (lte μ) (μ 24) n j).1 : Int) (wsum (μ 24) (lfS (Ad μ) (lte μ) (μ 24) n j).1 n) ((n : Int) - 1 - j)) (n := n) ?_ ?_ μ0 (fun c c1 c2 => by rw [h0, wr_ne c2]) (fun i hi => absurd hi (by omega)) (by rw [h0, wr_s]; rfl)
  · rw [show (n : Int) - 1 - ((0 : Nat) : Int) = (n : Int) - 1 by omega] at key
    exact key
  · intro μ' fr c80 c4
    exact hG _ _ _ _ ⟨fun _ => hp μ' fr c80 c4, fun h' => absurd h' (by omega)⟩
  · intro j hj ih μ' fr c80 c4
    have k1 : Kp μ μ' := fun c hc => fr c (by have := isP_c hc; omega) (by have := isP_c hc; omega)
    have I1 := h.kp k1
    have n1 : μ' 1 0 = n := by rw [k1 1 rfl]; exact hn
    obtain ⟨s1, s2, s3⟩ := lf_ok (A := Ad μ) (rk := rk) (d := lte μ) (f := μ 24) (n := n) (fun u w hw hu => a5 u w (by omega) hu) (j := j) (by omega)
    obtain ⟨c1, c2, c3⟩ := s3 hj
    have e1 : (lfS (Ad μ) (lte μ) (μ 24) n (j + 1)) = (ndf (lfS (Ad μ) (lte μ) (μ 24) n j).1 (2 ^ lfc (Ad μ) (lte μ) (μ 24) n (lfS (Ad μ) (lte μ) (μ 24) n j).1), imax (lfS (Ad μ) (lte μ) (μ 24) n j).2 (lte μ (lfc (Ad μ) (lte μ) (μ 24) n (lfS (Ad μ) (lte μ) (μ 24) n j).1) (wsum (μ 24) (lfS (Ad μ) (lte μ) (μ 24) n j).1 n))) := rfl
    rw [e1] at ih
    obtain ⟨S, hS⟩ : ∃ S, S = (lfS (Ad μ) (lte μ) (μ 24) n j).1 := ⟨_, rfl⟩
    obtain ⟨g, hg⟩ : ∃ g, g = (lfS (Ad μ) (lte μ) (μ 24) n j).2 := ⟨_, rfl⟩
    rw [← hS] at s1 s2 c1 c2 c3 ih ⊢
    rw [← hg] at c4 ih
    obtain ⟨c, hc⟩ : ∃ c, c = lfc (Ad μ) (lte μ) (μ 24) n S := ⟨_, rfl⟩
    rw [← hc] at c1 c2 c3 ih
    have wb := wsum_bd (f := μ 24) (B := 40) (S := S) (i := n) (by decide) (fun u hu => by have := h.w hn hu; omega)
    have wr' := wsum_rm (f := μ 24) c2 c3
    have wb2 := wsum_bd (f := μ 24) (B := 40) (S := ndf S (2 ^ c)) (i := n) (by decide) (fun u hu => by have := h.w hn hu; omega)
    have q := h.w hn c2
    refine hG _ _ _ _ ⟨fun h' => absurd h' (by omega), fun _ => ?_⟩
    refine k_lastOf I1 n1 h8 (by omega) ⟨by omega, by omega⟩ ?_
    rw [Ad_cg k1, lte_cg k1, c1]
    refine ⟨fun _ => ⟨by omega, ?_⟩, fun h' => by omega⟩
    intro μ2 h2
    have ep : ((n : Int) - 1 - (j : Int)).toNat = n - 1 - j := by omega
    rw [ep] at h2
    have k2 : Kp μ μ2 := fun x hx => by rw [h2, wr_ne (by have := isP_c hx; omega)]; exact k1 x hx
    refine s_late (h.kp k2) (by rw [k2 1 rfl]; exact hn) h8 c2 wb.1 (by omega) ?_
    rw [lte_cg k2]
    intro μ3 h3 x1 hx1
    have e24 : μ3 24 = μ 24 := by rw [h3, wr_ne (by decide)]; exact k2 24 rfl
    have e42 : μ2 4 2 = g := by rw [h2, wr_o (by decide)]; exact c4
    rw [e42] at h3
    rw [ishl_n (by omega), iandn_n (by omega) (pow_lt31 (by omega))] at hx1
    refine ⟨by omega, ?_⟩
    rw [tn, e24, ← wr', wrap_id (by omega) (by omega), wrap_id (by omega) (by omega)]
    intro x2 hx2 x3 hx3
    rw [hx1, hx2, hx3, show (n : Int) - 1 - (j : Int) + -1 = (n : Int) - 1 - ((j + 1 : Nat) : Int) by omega]
    refine ih μ3 (fun x x1 x2 => by rw [h3, wr_ne x2, h2, wr_ne x1]; exact fr x x1 x2) (fun i hi => ?_) (by rw [h3, wr_s])
    rw [h3, wr_o (by decide), h2]
    by_cases e : i = j
    · rw [e, wr_s, ← hS, ← hc]
    · rw [wr_i (by omega)]
      exact c80 i (by omega)
theorem isPlace_iff {μ : Mem} {n : Nat} (hm : μ 11 0 = n) (h8 : n ≤ 8) {w : Int} {Post : Pst} : wp_X11_isPlace μ w Post ↔ ((-1 ≤ w ∧ w < n → Post 1 μ) ∧ (¬ (-1 ≤ w ∧ w < n) → Post 0 μ)) := by
  unfold wp_X11_isPlace b_X11_isPlace_e
  rw [in_iff, hm, wrap_id (by omega) (by omega)]
  have e : (-1 ≤ w ∧ w ≤ (n : Int) - 1) ↔ (-1 ≤ w ∧ w < n) := by omega
  rw [e]
  simp
theorem m_lastFirst {μ μ1 : Mem} (h : Inv μ) (k1 : Kp μ μ1) {n : Nat} (hn : μ 1 0 = n) (h8 : n ≤ 8) (hm : μ 11 0 = n) {p : Int} (hp0 : -1 ≤ p ∧ p < n) {Post : Pst} (hp : ∀ μ', Kp μ1 μ' → Post (if p = -1 then (lfS (Ad μ) (lte μ) (μ 24) n n).2 else (lfc (Ad μ) (lte μ) (μ 24) n (lfS (Ad μ) (lte μ) (μ 24) n (n - 1 - p.toNat)).1 : Int)) μ') : wp_X11_lastFirst μ1 p Post := by
  have p8 := pow8 h8
  obtain ⟨a1, a2, a3, a4, rk, a5⟩ := h.a hn h8
  unfold wp_X11_lastFirst
  intro G25 G61 G75 G104 h25 h61 h75 h104
  unfold b_X11_lastFirst_e
  have m1 : μ1 11 0 = n := by rw [k1 11 rfl]; exact hm
  rw [isPlace_iff m1 h8]
  refine ⟨fun _ => ⟨fun _ => ?_, fun h' => absurd h' (by decide)⟩, fun h' => absurd hp0 h'⟩
  have p0 : 0 < 2 ^ n := Nat.pow_pos (by decide)
  rw [m1, ishl_n (by omega), wrap_id (by omega) (by omega), show ((2 ^ n : Nat) : Int) - 1 = ((2 ^ n - 1 : Nat) : Int) by omega]
  rintro _ rfl
  have e90 : ∀ w, w < n → μ 90 w = μ 24 w := fun w hw => (h.w hn hw).1.1
  refine upTo (P := fun i => G25 μ1 p ((2 ^ n - 1 : Nat) : Int) (sumTo (μ 24) i) (i : Int)) (n := n) ?_ ?_
  · refine h25 _ _ _ _ _ ⟨fun _ => ?_, fun h' => absurd h' (by omega)⟩
    rw [m1, wrap_id (by omega) (by omega), ← wsum_all (n := n) (Nat.le_refl n)]
    rintro _ rfl
    have key := upTo (P := fun j => ∀ μ' : Mem, (∀ c, c ≠ 104 → μ' c = μ1 c) → (∀ i, i < j → μ' 104 (n - 1 - i) = lfc (Ad μ) (lte μ) (μ 24) n (lfS (Ad μ) (lte μ) (μ 24) n i).1) → G61 μ' p ((lfS (Ad μ) (lte μ) (μ 24) n j).1 : Int) (wsum (μ 24) (lfS (Ad μ) (lte μ) (μ 24) n j).1 n) (lfS (Ad μ) (lte μ) (μ 24) n j).2 ((n : Int) - 1 - j)) (n := n) ?_ ?_ μ1 (fun _ _ => rfl) (fun i hi => absurd hi (by omega))
    · rw [show (n : Int) - 1 - ((0 : Nat) : Int) = (n : Int) - 1 by omega] at key
      exact key
    · intro μ' fr c104
      have k2 : Kp μ1 μ' := fun c hc => fr c (by have := isP_c hc; omega)
      refine h61 _ _ _ _ _ _ ⟨fun _ => ⟨fun c => ⟨by omega, ?_⟩, fun c => ?_⟩, fun h' => absurd h' (by omega)⟩
      · have := hp μ' k2
        rw [if_neg c] at this
        have e := c104 (n - 1 - p.toNat) (by omega)
        rw [show n - 1 - (n - 1 - p.toNat) = p.toNat by omega] at e
        rw [e]
        exact this
      · have := hp μ' k2
        rw [if_pos c] at this
        exact this
    · intro j hj ih μ' fr c104
      have k2 : Kp μ μ' := k1.tr (fun c hc => fr c (by have := isP_c hc; omega))
      have m2 : μ' 11 0 = n := by rw [k2 11 rfl]; exact hm
      obtain ⟨s1, s2, s3⟩ := lf_ok (A := Ad μ) (rk := rk) (d := lte μ) (f := μ 24) (n := n) (fun u w hw hu => a5 u w (by omega) hu) (j := j) (by omega)
      obtain ⟨c1, c2, c3⟩ := s3 hj
      have e1 : (lfS (Ad μ) (lte μ) (μ 24) n (j + 1)) = (ndf (lfS (Ad μ) (lte μ) (μ 24) n j).1 (2 ^ lfc (Ad μ) (lte μ) (μ 24) n (lfS (Ad μ) (lte μ) (μ 24) n j).1), imax (lfS (Ad μ) (lte μ) (μ 24) n j).2 (lte μ (lfc (Ad μ) (lte μ) (μ 24) n (lfS (Ad μ) (lte μ) (μ 24) n j).1) (wsum (μ 24) (lfS (Ad μ) (lte μ) (μ 24) n j).1 n))) := rfl
      rw [e1] at ih
      obtain ⟨S, hS⟩ : ∃ S, S = (lfS (Ad μ) (lte μ) (μ 24) n j).1 := ⟨_, rfl⟩
      obtain ⟨g, hg⟩ : ∃ g, g = (lfS (Ad μ) (lte μ) (μ 24) n j).2 := ⟨_, rfl⟩
      rw [← hS] at s1 s2 c1 c2 c3 ih ⊢
      rw [← hg] at ih ⊢
      obtain ⟨c, hc⟩ : ∃ c, c = lfc (Ad μ) (lte μ) (μ 24) n S := ⟨_, rfl⟩
      rw [← hc] at c1 c2 c3 ih
      have wb := wsum_bd (f := μ 24) (B := 40) (S := S) (i := n) (by decide) (fun u hu => by have := h.w hn hu; omega)
      have wr' := wsum_rm (f := μ 24) c2 c3
      have wb2 := wsum_bd (f := μ 24) (B := 40) (S := ndf S (2 ^ c)) (i := n) (by decide) (fun u hu => by have := h.w hn hu; omega)
      have q := h.w hn c2
      obtain ⟨E, hE⟩ : ∃ E, E = wsum (μ 24) S n := ⟨_, rfl⟩
      rw [← hE] at wb wr' c1 ih ⊢
      -- how late the chosen one is
      have lq : ∀ i, i ≤ n → ∀ x : Int, x = lst (Ad μ) (lte μ) n S E i → ∀ y, y = (if x = -1 then 0 else lte μ x.toNat E) → True := fun _ _ _ _ _ _ => trivial
      refine h61 _ _ _ _ _ _ ⟨fun h' => absurd h' (by omega), fun _ => ?_⟩
      refine upTo (P := fun i => G75 μ' p (S : Int) E g ((n : Int) - 1 - j) (lst (Ad μ) (lte μ) n S E i) (if lst (Ad μ) (lte μ) n S E i = -1 then 0 else lte μ (lst (Ad μ) (lte μ) n S E i).toNat E) (i : Int)) (n := n) ?_ ?_
      · refine h75 _ _ _ _ _ _ _ _ _ ⟨fun _ => ⟨by omega, ?_⟩, fun h' => absurd h' (by omega)⟩
        have ep : ((n : Int) - 1 - (j : Int)).toNat = n - 1 - j := by omega
        rw [ep, c1, if_neg (by omega), tn]
        intro μ3 h3
        have e90' : μ3 90 c = μ 24 c := by rw [h3, wr_o (by decide), k2 90 rfl]; exact e90 c c2
        have fin : ∀ v, v = imax g (lte μ c E) → b_X11_lastFirst_236 G25 G61 G75 G104 Post μ3 p (S : Int) E ((n : Int) - 1 - j) (c : Int) v := by
          intro v hv
          unfold b_X11_lastFirst_236
          rw [ishl_n (by omega), iandn_n (by omega) (pow_lt31 (by omega)), tn, e90', ← wr', wrap_id (by omega) (by omega), wrap_id (by omega) (by omega)]
          intro x1 hx1
          refine ⟨by omega, ?_⟩
          intro x2 hx2 x3 hx3
          rw [hx1, hx2, hx3, hv, show (n : Int) - 1 - (j : Int) + -1 = (n : Int) - 1 - ((j + 1 : Nat) : Int) by omega]
          refine ih μ3 (fun x x1 => by rw [h3, wr_ne x1]; exact fr x x1) (fun i hi => ?_)
          rw [h3]
          by_cases e : i = j
          · rw [e, wr_s, ← hS, ← hc]
          · rw [wr_i (by omega)]
            exact c104 i (by omega)
        have dd := imax_d g (lte μ c E)
        exact ⟨fun h' => fin _ (by omega), fun h' => fin _ (by omega)⟩
      · intro i hi ihi
        refine h75 _ _ _ _ _ _ _ _ _ ⟨fun h' => absurd h' (by omega), fun _ => ?_⟩
        have lr := lst_rng (A := Ad μ) (d := lte μ) (n := n) (S := S) (E := E) i
        obtain ⟨x, hx⟩ : ∃ x, x = lst (Ad μ) (lte μ) n S E i := ⟨_, rfl⟩
        have e2 : lst (Ad μ) (lte μ) n S E (i + 1) = if may (Ad μ) n S i = true ∧ (x = -1 ∨ lte μ i E ≤ lte μ x.toNat E) then (i : Int) else x := by rw [hx]; rfl
        rw [e2, cs] at ihi
        rw [← hx] at lr ⊢
        have qi := h.w hn hi
        -- the inner loop
        have inner : ∀ s : Int, s = (if S.testBit i then 1 else 0) → b_X11_lastFirst_99 G25 G61 G75 G104 Post μ' p (S : Int) E g ((n : Int) - 1 - j) x (if x = -1 then 0 else lte μ x.toNat E) (i : Int) s := by
          intro s hs
          unfold b_X11_lastFirst_99
          have e0 : s = (if (S.testBit i && !(ldr (Ad μ) S 0).testBit i) = true then 1 else 0) := by
            rw [hs]; simp [ldr]
          rw [e0]
          refine upTo (P := fun o => G104 μ' p (S : Int) E g ((n : Int) - 1 - j) x (if x = -1 then 0 else lte μ x.toNat E) (i : Int) (if (S.testBit i && !(ldr (Ad μ) S o).testBit i) = true then 1 else 0) (o : Int)) (n := n) ?_ ?_
          · refine h104 _ _ _ _ _ _ _ _ _ _ _ ⟨fun _ => ?_, fun h' => absurd h' (by omega)⟩
            have last : ∀ v, v = lte μ i E → b_X11_lastFirst_179 G25 G61 G75 G104 Post μ' p (S : Int) E g ((n : Int) - 1 - j) x (if x = -1 then 0 else lte μ x.toNat E) (i : Int) (if (S.testBit i && !(ldr (Ad μ) S n).testBit i) = true then 1 else 0) v := by
              intro v hv
              unfold b_X11_lastFirst_179 b_X11_lastFirst_199 b_X11_lastFirst_207
              rw [wrap_id (by omega) (by omega), hv]
              by_cases hmy : may (Ad μ) n S i = true
              · have hmy' : (S.testBit i && !(ldr (Ad μ) S n).testBit i) = true := hmy
                rw [if_pos hmy']
                refine ⟨fun h' => absurd h' (by decide), fun _ => ⟨fun h1 => ?_, fun h1 => ⟨fun h2 => ?_, fun h2 => ?_⟩⟩⟩
                · rw [if_pos ⟨hmy, Or.inl h1⟩, if_neg (by omega), tn] at ihi
                  rintro _ rfl
                  exact ihi
                · rw [if_neg h1] at h2
                  rw [if_neg (by intro hh; omega)] at ihi
                  rintro _ rfl
                  exact ihi
                · rw [if_neg h1] at h2
                  rw [if_pos ⟨hmy, Or.inr (by omega)⟩, if_neg (by omega), tn] at ihi
                  rintro _ rfl
                  exact ihi
              · have hmy' : ¬ (S.testBit i && !(ldr (Ad μ) S n).testBit i) = true := hmy
                rw [if_neg hmy']
                refine ⟨fun _ => ?_, fun h' => absurd rfl h'⟩
                rw [if_neg (fun hh => hmy hh.1)] at ihi
                rintro _ rfl
                exact ihi
            have e92 : μ' 92 i = μ 26 i := by rw [k2 92 rfl]; exact qi.2.2.1.1
            have dl := imax_d 0 (E - μ 26 i)
            have el : lte μ i E = imax 0 (E - μ 26 i) := rfl
            rw [tn, e92]
            refine ⟨by omega, fun h1 => last 0 (by omega), fun h1 => ⟨by omega, last _ ?_⟩⟩
            rw [wrap_id (by omega) (by omega)]
            omega
          · intro o ho iho
            refine h104 _ _ _ _ _ _ _ _ _ _ _ ⟨fun h' => absurd h' (by omega), fun _ => ?_⟩
            unfold b_X11_lastFirst_146 b_X11_lastFirst_142 b_X11_lastFirst_147
            have e95 : μ' 95 o = Ad μ o := by rw [k2 95 rfl]; exact a2 o ho
            have := a4 o (by omega)
            rw [wrap_id (by omega) (by omega), tn, e95, bit1_n (by omega) (by omega), bit1_n (by omega) (by omega)]
            rw [cs] at iho
            unfold ldr at iho
            cases hSi : S.testBit i with
            | false =>
              rw [hSi] at iho
              refine ⟨fun _ => ?_, fun h' => absurd rfl h'⟩
              rintro _ rfl
              exact iho
            | true =>
              rw [hSi] at iho
              cases hL : (ldr (Ad μ) S o).testBit i with
              | true =>
                refine ⟨fun _ => ?_, fun h' => absurd rfl h'⟩
                have : ((if S.testBit o then ldr (Ad μ) S o ||| Ad μ o else ldr (Ad μ) S o).testBit i) = true := by
                  split
                  · rw [Nat.testBit_or, hL]; rfl
                  · exact hL
                rw [this] at iho
                rintro _ rfl
                exact iho
              | false =>
                refine ⟨fun h' => absurd h' (by decide), fun _ => ⟨fun h1 => ?_, fun h1 => ⟨by omega, fun h2 => ?_, fun h2 => ?_⟩⟩⟩
                · have c0 : S.testBit o = false := by
                    cases hc : S.testBit o with
                    | false => rfl
                    | true => rw [hc] at h1; exact absurd h1 (by decide)
                  rw [c0, if_neg (show ¬ (false = true) by decide), hL] at iho
                  rintro _ rfl
                  exact iho
                · have c0 : S.testBit o = true := by
                    cases hc : S.testBit o with
                    | true => rfl
                    | false => rw [hc] at h1; exact absurd rfl h1
                  have d0 : (Ad μ o).testBit i = true := by
                    cases hc : (Ad μ o).testBit i with
                    | true => rfl
                    | false => rw [hc] at h2; exact absurd rfl h2
                  rw [c0, if_pos (show true = true from rfl), Nat.testBit_or, d0, Bool.or_true] at iho
                  rintro _ rfl
                  exact iho
                · have c0 : S.testBit o = true := by
                    cases hc : S.testBit o with
                    | true => rfl
                    | false => rw [hc] at h1; exact absurd rfl h1
                  have d0 : (Ad μ o).testBit i = false := by
                    cases hc : (Ad μ o).testBit i with
                    | false => rfl
                    | true => rw [hc] at h2; exact absurd h2 (by decide)
                  rw [c0, if_pos (show true = true from rfl), Nat.testBit_or, d0, hL] at iho
                  rintro _ rfl
                  exact iho
        rw [bit1_n (by omega) (by omega)]
        cases hSi : S.testBit i with
        | true => exact ⟨fun h' => absurd rfl h', fun _ => inner 1 (by rw [hSi]; rfl)⟩
        | false => exact ⟨fun _ => inner 0 (by rw [hSi]; rfl), fun h' => absurd h' (by decide)⟩
  · intro i hi ih
    have q := h.w hn hi
    have s := sumTo_bd (f := μ 24) (B := 40) (n := i) (fun j hj => by have := h.w hn (w := j) (by omega); omega)
    refine h25 _ _ _ _ _ ⟨fun h' => absurd h' (by omega), fun _ => ⟨by omega, ?_⟩⟩
    rw [tn, k1 90 rfl, q.1.1, wrap_id (by omega) (by omega), wrap_id (by omega) (by omega)]
    rintro _ rfl _ rfl
    rw [cs] at ih
    exact ih
theorem o_lastFirst {μ : Mem} {p : Int} (hI : Inv μ) : wp_X10_lastFirst μ p (fun r μ1 => wp_X11_lastFirst μ1 p (Ok r)) := by
  obtain ⟨n, hn, h8, hm⟩ := hI.n
  unfold wp_X10_lastFirst b_X10_lastFirst_e
  rw [isFrom_iff, hn, wrap_id (by omega) (by omega)]
  refine ⟨fun hp => ⟨fun _ => ?_, fun h' => absurd h' (by decide)⟩, fun hp => ⟨fun h' => absurd rfl h', fun _ => ?_⟩⟩
  · refine k_behind hI hn h8 (fun μ1 fr c80 c4 => ?_)
    have k1 : Kp μ μ1 := fun c hc => fr c (by have := isP_c hc; omega) (by have := isP_c hc; omega)
    refine ⟨fun c => ⟨by omega, ?_⟩, fun c => ?_⟩
    · refine m_lastFirst hI k1 hn h8 hm ⟨by omega, by omega⟩ (fun μ2 k2 => ⟨?_, (hI.kp k1).kp k2⟩)
      rw [if_neg c]
      have e := c80 (n - 1 - p.toNat) (by omega)
      rw [show n - 1 - (n - 1 - p.toNat) = p.toNat by omega] at e
      exact e
    · refine m_lastFirst hI k1 hn h8 hm ⟨by omega, by omega⟩ (fun μ2 k2 => ⟨?_, (hI.kp k1).kp k2⟩)
      rw [if_pos c]
      exact c4
  · show wp_X11_lastFirst μ p (Ok _)
    unfold wp_X11_lastFirst
    intro G25 G61 G75 G104 h25 h61 h75 h104
    unfold b_X11_lastFirst_e
    rw [isPlace_iff hm h8]
    exact ⟨fun h' => absurd h' (by omega), fun _ => ⟨fun h' => absurd rfl h', fun _ => okI hI⟩⟩
