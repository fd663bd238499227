/-! Works that may be broken off: both sides run; minute. -/
theorem k_workOn {μ μ1 : Mem} (h : Inv μ) (k1 : Kp μ μ1) {n m : Nat} (hn : μ 1 0 = n) (h8 : n ≤ 8) {L : Nat → Int} (hL : ∀ w, w < n → μ1 81 w = L w) (hB : ∀ w, w < n → 0 ≤ L w ∧ L w ≤ 40) {Post : Pst} (hp : ∀ μ2 : Mem, (∀ c, c ≠ 81 → μ2 c = μ1 c) → (∀ w : Nat, w < n → μ2 81 w = if (w : Int) = trn (μ 25) (μ 26) L m n then L w - 1 else L w) → Post (trn (μ 25) (μ 26) L m n) μ2) : wp_X3_workOn μ1 (m : Int) Post := by
  unfold wp_X3_workOn b_X3_workOn_e
  intro G hG
  have e10 : μ1 1 0 = n := by rw [k1 1 rfl]; exact hn
  have e25 : μ1 25 = μ 25 := k1 25 rfl
  have e26 : μ1 26 = μ 26 := k1 26 rfl
  refine upTo (P := fun i => G μ1 (m : Int) 26 (trn (μ 25) (μ 26) L m i) (i : Int)) (n := n) ?_ ?_
  · have tr := trn_rng (c := μ 25) (d := μ 26) (L := L) (m := m) n
    obtain ⟨x, hx⟩ : ∃ x, x = trn (μ 25) (μ 26) L m n := ⟨_, rfl⟩
    rw [← hx] at tr hp ⊢
    refine hG _ _ _ _ _ ⟨fun _ => ⟨fun c => ?_, fun c => ?_⟩, fun h' => absurd h' (by omega)⟩
    · refine hp μ1 (fun _ _ => rfl) (fun w hw => ?_)
      rw [if_neg (by omega)]; exact hL w hw
    · rcases tr with tr | tr
      · exact absurd tr c
      · obtain ⟨y, hy⟩ := natOf tr.1
        rw [hy, tn] at tr
        rw [hy]
        have by' := hB y (by omega)
        refine ⟨by omega, by omega, ?_⟩
        rw [tn, hL y (by omega), wrap_id (by omega) (by omega)]
        intro μ2 h2
        rw [hy] at hp
        refine hp μ2 (fun d hd => by rw [h2, wr_ne hd]) (fun w hw => ?_)
        rw [h2]
        by_cases e : w = y
        · rw [e, wr_s, if_pos rfl]
        · rw [wr_i e, if_neg (by omega)]; exact hL w hw
  · intro i hi ih
    have tr := trn_rng (c := μ 25) (d := μ 26) (L := L) (m := m) i
    rw [cs] at ih
    unfold trn at ih
    obtain ⟨x, hx⟩ : ∃ x, x = trn (μ 25) (μ 26) L m i := ⟨_, rfl⟩
    rw [← hx] at tr ih ⊢
    have no : ¬ (0 < L i ∧ μ 25 i ≤ m) → b_X3_workOn_57 G Post μ1 (m : Int) 26 x (i : Int) := by
      intro hno
      unfold b_X3_workOn_57 b_X3_workOn_58 b_X3_workOn_83
      rw [wrap_id (by omega) (by omega)]
      refine ⟨fun _ => ?_, fun h' => absurd rfl h'⟩
      rintro _ rfl
      rw [if_neg (fun hh => hno hh.1)] at ih
      exact ih
    refine hG _ _ _ _ _ ⟨fun h' => absurd h' (by omega), fun _ => ⟨by omega, ?_⟩⟩
    rw [tn, hL i hi, e25]
    refine ⟨fun c => no (by omega), fun c => ⟨by omega, fun c2 => no (by omega), fun c2 => ?_⟩⟩
    unfold b_X3_workOn_58 b_X3_workOn_80 b_X3_workOn_83
    rw [wrap_id (by omega) (by omega)]
    have yes : (0 < L i ∧ μ 25 i ≤ m) := by omega
    refine ⟨fun h' => absurd h' (by decide), fun _ => ⟨fun c3 => ?_, fun c3 => ?_⟩⟩
    · rw [if_pos ⟨yes, Or.inl c3⟩] at ih
      rintro _ rfl
      exact ih
    · obtain ⟨y, hy⟩ := natOf (a := x) (by omega)
      rw [hy] at tr c3 ih ⊢
      rw [tn] at ih
      rw [tn, tn, e26]
      refine ⟨⟨by decide, by decide, by omega, by show _ < ((8 : Nat) : Int); omega⟩, ⟨by decide, by decide, by omega, by show _ < ((8 : Nat) : Int); omega⟩, fun c4 => ?_, fun c4 => ?_⟩
      · rw [if_neg (by intro hh; omega)] at ih
        rintro _ rfl
        exact ih
      · rw [if_pos ⟨yes, by omega⟩] at ih
        rintro _ rfl
        exact ih
theorem k_begin {μ : Mem} {n : Nat} (hn : μ 1 0 = n) (h8 : n ≤ 8) {Post : Pst} (hp : ∀ μ1 : Mem, (∀ c, c ≠ 81 → μ1 c = μ c) → (∀ w, w < n → μ1 81 w = μ 24 w) → Post 0 μ1) : wp_X3_begin μ Post := by
  unfold wp_X3_begin b_X3_begin_e
  rw [hn, tn]
  refine ⟨⟨by decide, by omega, by omega, by omega⟩, ?_⟩
  intro μ1 h1
  refine hp μ1 (fun c hc => ?_) (fun w hw => ?_)
  · rw [h1]; unfold cpm; rw [if_neg hc]
  · rw [h1]
    show (if (81 : Nat) = 81 then (fun j => if (0 : Int).toNat ≤ j ∧ j < (0 : Int).toNat + n then μ 24 ((0 : Int).toNat + (j - (0 : Int).toNat)) else μ 81 j) else μ 81) w = μ 24 w
    rw [if_pos rfl]
    show (if (0 : Nat) ≤ w ∧ w < 0 + n then μ 24 (0 + (w - 0)) else μ 81 w) = μ 24 w
    rw [if_pos (by omega), Nat.zero_add, Nat.sub_zero]
theorem Inv.p {μ : Mem} (h : Inv μ) {n : Nat} (hn : μ 1 0 = n) : ∀ w, w < n → 1 ≤ μ 24 w ∧ μ 24 w ≤ 40 := fun w hw => (h.w hn hw).1.2
theorem kp81 {μ μ1 : Mem} (fr : ∀ c, c ≠ 81 → μ1 c = μ c) : Kp μ μ1 := fun c hc => fr c (by have := isP_c hc; omega)
theorem k_greatest {μ : Mem} (h : Inv μ) {n : Nat} (hn : μ 1 0 = n) (h8 : n ≤ 8) {Post : Pst} (hp : ∀ μ1 : Mem, Kp μ μ1 → Post (bt (μ 25) (μ 26) (μ 24) (lte μ) n 1000) μ1) : wp_X3_greatestLate μ Post := by
  unfold wp_X3_greatestLate b_X3_greatestLate_e
  intro G hG
  refine k_begin hn h8 (fun μ1 fr1 c1 => ?_)
  have k1 := kp81 fr1
  rintro _ rfl
  rw [k1 1 rfl, hn]
  have o0 : opn (bl (μ 25) (μ 26) (μ 24) n 0) n = n := by
    unfold opn
    have : ∀ i, i ≤ n → sumTo (fun w => if 0 < bl (μ 25) (μ 26) (μ 24) n 0 w then (1 : Int) else 0) i = i := by
      intro i
      induction i with
      | zero => intro _; rfl
      | succ i ih =>
        intro hi
        have q := h.p hn i (by omega)
        unfold sumTo
        rw [ih (by omega)]
        have : (if 0 < bl (μ 25) (μ 26) (μ 24) n 0 i then (1 : Int) else 0) = 1 := if_pos (by show 0 < μ 24 i; omega)
        rw [this]
        omega
    exact this n (Nat.le_refl n)
  have key := upTo (P := fun m => ∀ μ1 : Mem, Kp μ μ1 → (∀ w, w < n → μ1 81 w = bl (μ 25) (μ 26) (μ 24) n m w) → G μ1 (bt (μ 25) (μ 26) (μ 24) (lte μ) n m) (opn (bl (μ 25) (μ 26) (μ 24) n m) n) (m : Int)) (n := 1000) ?_ ?_ μ1 k1 c1
  · rw [o0] at key
    exact key
  · intro μ1 k1 c1
    exact hG _ _ _ _ ⟨fun _ => hp μ1 k1, fun h' => absurd h' (by omega)⟩
  · intro m hm ih μ1 k1 c1
    refine hG _ _ _ _ ⟨fun h' => absurd h' (by omega), fun _ => ⟨fun c => ?_, fun c => ?_⟩⟩
    · have := (bt_stay (lt := lte μ) c (1000 - m)).2
      rw [show m + (1000 - m) = 1000 by omega] at this
      have hh := hp μ1 k1
      rw [this] at hh
      exact hh
    · have br := bl_rng (c := μ 25) (d := μ 26) (h.p hn) m
      refine k_workOn h k1 hn h8 c1 br (fun μ2 fr2 c2 => ?_)
      have k2 : Kp μ μ2 := k1.tr (kp81 fr2)
      have tr := trn_rng (c := μ 25) (d := μ 26) (L := bl (μ 25) (μ 26) (μ 24) n m) (m := m) n
      have c2' : ∀ w, w < n → μ2 81 w = bl (μ 25) (μ 26) (μ 24) n (m + 1) w := c2
      have ihx := ih μ2 k2 c2'
      have ob := opn_bl (c := μ 25) (d := μ 26) (h.p hn) m
      have orng : 0 ≤ opn (bl (μ 25) (μ 26) (μ 24) n m) n ∧ opn (bl (μ 25) (μ 26) (μ 24) n m) n ≤ 1 * n := sumTo_bd (fun i _ => by
        show 0 ≤ (if 0 < bl (μ 25) (μ 26) (μ 24) n m i then (1 : Int) else 0) ∧ (if 0 < bl (μ 25) (μ 26) (μ 24) n m i then (1 : Int) else 0) ≤ 1
        split <;> omega)
      have eb : bt (μ 25) (μ 26) (μ 24) (lte μ) n (m + 1) = if trn (μ 25) (μ 26) (bl (μ 25) (μ 26) (μ 24) n m) m n = -1 then bt (μ 25) (μ 26) (μ 24) (lte μ) n m else if bl (μ 25) (μ 26) (μ 24) n (m + 1) (trn (μ 25) (μ 26) (bl (μ 25) (μ 26) (μ 24) n m) m n).toNat = 0 then imax (bt (μ 25) (μ 26) (μ 24) (lte μ) n m) (lte μ (trn (μ 25) (μ 26) (bl (μ 25) (μ 26) (μ 24) n m) m n).toNat ((m : Int) + 1)) else bt (μ 25) (μ 26) (μ 24) (lte μ) n m := rfl
      rw [eb, ob, cs] at ihx
      obtain ⟨x, hx⟩ : ∃ x, x = trn (μ 25) (μ 26) (bl (μ 25) (μ 26) (μ 24) n m) m n := ⟨_, rfl⟩
      rw [← hx] at tr ihx ⊢
      unfold b_X3_greatestLate_70
      rw [wrap_id (x := (m : Int) + 1) (by omega) (by omega)]
      refine ⟨fun e => ?_, fun e => ?_⟩
      · rw [if_pos e, if_pos e] at ihx
        rintro _ rfl
        exact ihx
      · rw [if_neg e, if_neg e] at ihx
        obtain ⟨y, hy⟩ := natOf (a := x) (by omega)
        rw [hy, tn] at ihx
        rw [hy] at tr
        rw [hy, tn, c2' y (by omega)]
        refine ⟨by omega, fun e2 => ?_, fun e2 => ?_⟩
        · rw [if_neg e2, if_neg e2] at ihx
          rintro _ rfl
          exact ihx
        · rw [if_pos e2, if_pos e2] at ihx
          refine s_late (h.kp k2) (by rw [k2 1 rfl]; exact hn) h8 (by omega) (by omega) (by omega) ?_
          rw [lte_cg k2, wrap_id (by omega) (by omega)]
          rintro _ rfl _ rfl _ rfl
          exact ihx
theorem k_workIn {μ : Mem} (h : Inv μ) {n p : Nat} (hn : μ 1 0 = n) (h8 : n ≤ 8) (hp9 : p ≤ 999) {Post : Pst} (hp : ∀ μ1 : Mem, Kp μ μ1 → Post (trn (μ 25) (μ 26) (bl (μ 25) (μ 26) (μ 24) n p) p n) μ1) : wp_X3_workIn μ (p : Int) Post := by
  unfold wp_X3_workIn b_X3_workIn_e
  intro G hG
  refine k_begin hn h8 (fun μ1 fr1 c1 => ?_)
  have k1 := kp81 fr1
  refine upTo (P := fun m => ∀ (μ1 : Mem) (x : Int), (0 < m → x = trn (μ 25) (μ 26) (bl (μ 25) (μ 26) (μ 24) n (m - 1)) ((m - 1 : Nat) : Int) n) → Kp μ μ1 → (∀ w, w < n → μ1 81 w = bl (μ 25) (μ 26) (μ 24) n m w) → G μ1 (p : Int) x (m : Int)) (n := p + 1) ?_ ?_ μ1 _ (fun h' => by omega) k1 c1
  · intro μ1 x hx k1 c1
    refine hG _ _ _ _ ⟨fun _ => ?_, fun h' => absurd h' (by omega)⟩
    rw [hx (by omega), Nat.add_sub_cancel]
    exact hp μ1 k1
  · intro m hm ih μ1 x hx k1 c1
    refine hG _ _ _ _ ⟨fun h' => absurd h' (by omega), fun _ => ?_⟩
    have br := bl_rng (c := μ 25) (d := μ 26) (h.p hn) m
    refine k_workOn h k1 hn h8 c1 br (fun μ2 fr2 c2 => ?_)
    rw [wrap_id (by omega) (by omega)]
    rintro _ rfl
    rw [← cs]
    exact ih μ2 _ (fun _ => by rw [Nat.add_sub_cancel]) (k1.tr (kp81 fr2)) c2
theorem m_goBroken {μ μ1 : Mem} (h : Inv μ) (k1 : Kp μ μ1) {n : Nat} (hn : μ 1 0 = n) (h8 : n ≤ 8) (hm : μ 11 0 = n) {Post : Pst} (hp : ∀ μ2 : Mem, Kp μ μ2 → (∀ m : Nat, m < 1000 → μ2 105 m = trn (μ 25) (μ 26) (bl (μ 25) (μ 26) (μ 24) n m) m n) → Post (bt (μ 25) (μ 26) (μ 24) (lte μ) n 1000) μ2) : wp_X11_goBroken μ1 Post := by
  unfold wp_X11_goBroken b_X11_goBroken_e
  intro G4 G32 G44 h4 h32 h44
  refine upTo (P := fun i => ∀ μ1 : Mem, Kp μ μ1 → (∀ w, w < i → μ1 106 w = μ 24 w) → G4 μ1 0 (i : Int)) (n := n) ?_ ?_ μ1 k1 (fun w hw => absurd hw (by omega))
  · intro μ1 k1 c1
    have m1 : μ1 11 0 = n := by rw [k1 11 rfl]; exact hm
    refine h4 _ _ _ ⟨fun _ => ?_, fun h' => absurd h' (by omega)⟩
    refine upTo (P := fun m => ∀ μ1 : Mem, Kp μ μ1 → (∀ w, w < n → μ1 106 w = bl (μ 25) (μ 26) (μ 24) n m w) → (∀ j : Nat, j < m → μ1 105 j = trn (μ 25) (μ 26) (bl (μ 25) (μ 26) (μ 24) n j) j n) → G32 μ1 (bt (μ 25) (μ 26) (μ 24) (lte μ) n m) (m : Int)) (n := 1000) ?_ ?_ μ1 k1 c1 (fun j hj => absurd hj (by omega))
    · intro μ1 k1 c1 c2
      exact h32 _ _ _ ⟨fun _ => hp μ1 k1 c2, fun h' => absurd h' (by omega)⟩
    · intro m hm' ihm μ1 k1 c1 c2
      have m1 : μ1 11 0 = n := by rw [k1 11 rfl]; exact hm
      have e91 : ∀ w, w < n → μ1 91 w = μ 25 w := fun w hw => by rw [k1 91 rfl]; exact (h.w hn hw).2.1.1
      have e92 : ∀ w, w < n → μ1 92 w = μ 26 w := fun w hw => by rw [k1 92 rfl]; exact (h.w hn hw).2.2.1.1
      have br := bl_rng (c := μ 25) (d := μ 26) (h.p hn) m
      have bnn := bt_nn (c := μ 25) (d := μ 26) (p := μ 24) (lt := lte μ) (n := n) m
      refine h32 _ _ _ ⟨fun h' => absurd h' (by omega), fun _ => ?_⟩
      obtain ⟨L, hL⟩ : ∃ L, L = bl (μ 25) (μ 26) (μ 24) n m := ⟨_, rfl⟩
      have ebl : bl (μ 25) (μ 26) (μ 24) n (m + 1) = fun (w : Nat) => if (w : Int) = trn (μ 25) (μ 26) L m n then L w - 1 else L w := by rw [hL]; rfl
      have ebt : bt (μ 25) (μ 26) (μ 24) (lte μ) n (m + 1) = if trn (μ 25) (μ 26) L m n = -1 then bt (μ 25) (μ 26) (μ 24) (lte μ) n m else if bl (μ 25) (μ 26) (μ 24) n (m + 1) (trn (μ 25) (μ 26) L m n).toNat = 0 then imax (bt (μ 25) (μ 26) (μ 24) (lte μ) n m) (lte μ (trn (μ 25) (μ 26) L m n).toNat ((m : Int) + 1)) else bt (μ 25) (μ 26) (μ 24) (lte μ) n m := by rw [hL]; rfl
      rw [← hL] at c1 br
      obtain ⟨b, hb⟩ : ∃ b, b = bt (μ 25) (μ 26) (μ 24) (lte μ) n m := ⟨_, rfl⟩
      rw [← hb] at bnn ebt ⊢
      refine upTo (P := fun i => G44 μ1 b (m : Int) (trn (μ 25) (μ 26) L m i) (i : Int)) (n := n) ?_ ?_
      · have tr := trn_rng (c := μ 25) (d := μ 26) (L := L) (m := m) n
        obtain ⟨x, hx⟩ : ∃ x, x = trn (μ 25) (μ 26) L m n := ⟨_, rfl⟩
        have cx : x = trn (μ 25) (μ 26) (bl (μ 25) (μ 26) (μ 24) n m) m n := by rw [hx, hL]
        rw [← hx] at tr ebl ebt ⊢
        refine h44 _ _ _ _ _ ⟨fun _ => ⟨by omega, ?_⟩, fun h' => absurd h' (by omega)⟩
        rw [tn]
        intro μ2 h2
        have k2 : Kp μ μ2 := fun c hc => by rw [h2, wr_ne (by have := isP_c hc; omega)]; exact k1 c hc
        have c105 : ∀ j : Nat, j < m + 1 → μ2 105 j = trn (μ 25) (μ 26) (bl (μ 25) (μ 26) (μ 24) n j) j n := by
          intro j hj
          rw [h2]
          by_cases e : j = m
          · rw [e, wr_s]; exact cx
          · rw [wr_i e]; exact c2 j (by omega)
        have done : ∀ (μ3 : Mem) (v : Int), Kp μ μ3 → (∀ w, w < n → μ3 106 w = bl (μ 25) (μ 26) (μ 24) n (m + 1) w) → μ3 105 = μ2 105 → v = bt (μ 25) (μ 26) (μ 24) (lte μ) n (m + 1) → b_X11_goBroken_180 G4 G32 G44 Post μ3 v (m : Int) := by
          intro μ3 v k3 c3 e3 hv
          unfold b_X11_goBroken_180
          rw [wrap_id (by omega) (by omega)]
          rintro _ rfl
          rw [hv, ← cs]
          exact ihm μ3 k3 c3 (fun j hj => by rw [e3]; exact c105 j hj)
        refine ⟨fun e => ?_, fun e => ?_⟩
        · rw [if_pos e] at ebt
          refine done μ2 b k2 (fun w hw => ?_) rfl ebt.symm
          rw [ebl]
          show μ2 106 w = if (w : Int) = x then L w - 1 else L w
          rw [if_neg (by omega), h2, wr_o (by decide)]
          exact c1 w hw
        · rw [if_neg e] at ebt
          obtain ⟨y, hy⟩ := natOf (a := x) (by omega)
          rw [hy, tn] at ebt tr
          rw [hy]
          have by' := br y (by omega)
          have ly : μ2 106 y = L y := by rw [h2, wr_o (by decide)]; exact c1 y (by omega)
          refine ⟨by omega, by omega, ?_⟩
          rw [tn, ly, wrap_id (by omega) (by omega)]
          intro μ3 h3
          have k3 : Kp μ μ3 := fun c hc => by rw [h3, wr_ne (by have := isP_c hc; omega)]; exact k2 c hc
          have c3 : ∀ w, w < n → μ3 106 w = bl (μ 25) (μ 26) (μ 24) n (m + 1) w := by
            intro w hw
            rw [ebl]
            show μ3 106 w = if (w : Int) = x then L w - 1 else L w
            rw [h3, hy]
            by_cases e : w = y
            · rw [e, wr_s, if_pos rfl]
            · rw [wr_i e, if_neg (by omega), h2, wr_o (by decide)]
              exact c1 w hw
          have e105 : μ3 105 = μ2 105 := by rw [h3, wr_ne (by decide)]
          have e92' : μ3 92 y = μ 26 y := by rw [k3 92 rfl]; exact (h.w hn (by omega)).2.2.1.1
          have q := h.w hn (w := y) (by omega)
          rw [c3 y (by omega), e92', wrap_id (x := (m : Int) + 1) (by omega) (by omega), wrap_id (x := (m : Int) + 1 - μ 26 y) (by omega) (by omega)]
          have dl := imax_d 0 ((m : Int) + 1 - μ 26 y)
          have el : lte μ y ((m : Int) + 1) = imax 0 ((m : Int) + 1 - μ 26 y) := rfl
          unfold b_X11_goBroken_178 b_X11_goBroken_179
          refine ⟨by omega, fun e2 => ?_, fun e2 => ⟨by omega, fun e3 => ?_, fun e3 => ⟨by omega, ?_⟩⟩⟩
          · rw [if_neg e2] at ebt
            exact done μ3 b k3 c3 e105 ebt.symm
          · rw [if_pos e2] at ebt
            refine done μ3 b k3 c3 e105 ?_
            have d2 := imax_d b (lte μ y ((m : Int) + 1))
            omega
          · rw [if_pos e2] at ebt
            refine done μ3 _ k3 c3 e105 ?_
            have d2 := imax_d b (lte μ y ((m : Int) + 1))
            omega
      · intro i hi ih
        have tr := trn_rng (c := μ 25) (d := μ 26) (L := L) (m := m) i
        rw [cs] at ih
        unfold trn at ih
        obtain ⟨x, hx⟩ : ∃ x, x = trn (μ 25) (μ 26) L m i := ⟨_, rfl⟩
        rw [← hx] at tr ih ⊢
        have no : ¬ (0 < L i ∧ μ 25 i ≤ m) → b_X11_goBroken_78 G4 G32 G44 Post μ1 b (m : Int) x (i : Int) := by
          intro hno
          unfold b_X11_goBroken_78 b_X11_goBroken_79 b_X11_goBroken_112 b_X11_goBroken_113
          rw [wrap_id (by omega) (by omega)]
          refine ⟨fun _ => ?_, fun h' => absurd rfl h'⟩
          rintro _ rfl
          rw [if_neg (fun hh => hno hh.1)] at ih
          exact ih
        refine h44 _ _ _ _ _ ⟨fun h' => absurd h' (by omega), fun _ => ⟨by omega, ?_⟩⟩
        rw [tn, c1 i hi, e91 i hi]
        refine ⟨fun c => no (by omega), fun c => ⟨by omega, fun c2 => no (by omega), fun c2 => ?_⟩⟩
        unfold b_X11_goBroken_79 b_X11_goBroken_107 b_X11_goBroken_112 b_X11_goBroken_113
        rw [wrap_id (by omega) (by omega)]
        have yes : (0 < L i ∧ μ 25 i ≤ m) := by omega
        refine ⟨fun h' => absurd h' (by decide), fun _ => ⟨fun c3 => ?_, fun c3 => ?_⟩⟩
        · rw [if_pos ⟨yes, Or.inl c3⟩] at ih
          rintro _ rfl
          exact ih
        · obtain ⟨y, hy⟩ := natOf (a := x) (by omega)
          rw [hy] at tr c3 ih ⊢
          rw [tn] at ih
          rw [tn, tn, e92 i hi, e92 y (by omega)]
          refine ⟨by omega, by omega, fun c4 => ?_, fun c4 => ?_⟩
          · rw [if_neg (by intro hh; omega)] at ih
            rintro _ rfl
            exact ih
          · rw [if_pos ⟨yes, by omega⟩] at ih
            rintro _ rfl
            exact ih
  · intro i hi ih μ1 k1 c1
    have m1 : μ1 11 0 = n := by rw [k1 11 rfl]; exact hm
    refine h4 _ _ _ ⟨fun h' => absurd h' (by omega), fun _ => ⟨by omega, by omega, ?_⟩⟩
    rw [tn, k1 90 rfl, (h.w hn hi).1.1, wrap_id (by omega) (by omega)]
    intro μ2 h2
    rintro _ rfl
    rw [← cs]
    refine ih μ2 (fun c hc => by rw [h2, wr_ne (by have := isP_c hc; omega)]; exact k1 c hc) (fun w hw => ?_)
    rw [h2]
    by_cases e : w = i
    · rw [e, wr_s]
    · rw [wr_i e]; exact c1 w (by omega)
theorem o_minute {μ : Mem} {p : Int} (hI : Inv μ) : wp_X10_minute μ p (fun r μ1 => wp_X11_minute μ1 p (Ok r)) := by
  obtain ⟨n, hn, h8, hm⟩ := hI.n
  unfold wp_X10_minute b_X10_minute_e wp_X11_minute b_X11_minute_e
  rw [isFrom_iff]
  refine ⟨fun hp => ⟨fun _ => ?_, fun h' => absurd h' (by decide)⟩, fun hp => ⟨fun h' => absurd rfl h', fun _ => ?_⟩⟩
  · obtain ⟨q, hq⟩ := natOf hp.1
    rw [hq] at hp ⊢
    refine k_workIn hI hn h8 (by omega) (fun μ1 k1 => ?_)
    refine in_iff.mpr ⟨fun _ => ⟨fun _ => ?_, fun h' => absurd h' (by decide)⟩, fun h' => absurd hp h'⟩
    refine m_goBroken hI k1 hn h8 hm (fun μ2 k2 c2 => ⟨by omega, ?_, hI.kp k2⟩)
    rw [tn, c2 q (by omega)]
  · show wp_X11_in μ p 0 999 _
    rw [in_iff]
    exact ⟨fun h' => absurd h' hp, fun _ => ⟨fun h' => absurd rfl h', fun _ => okI hI⟩⟩
