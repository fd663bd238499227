/-! broken -/
def Sp (c d : Nat → Int) (n i j : Nat) (x y : Int) : Prop := ∃ i' j', (i' < i ∧ j' < n ∨ i' = i ∧ j' < j) ∧ x = c i' ∧ y = d j'
theorem Sp_more {c d : Nat → Int} {n i j : Nat} (x y : Int) : Sp c d n i (j + 1) x y ↔ Sp c d n i j x y ∨ (x = c i ∧ y = d j) := by
  constructor
  · rintro ⟨i', j', h, e⟩
    by_cases c1 : i' = i ∧ j' = j
    · exact Or.inr ⟨by rw [e.1, c1.1], by rw [e.2, c1.2]⟩
    · exact Or.inl ⟨i', j', by omega, e⟩
  · rintro (⟨i', j', h, e⟩ | ⟨e1, e2⟩)
    · exact ⟨i', j', by omega, e⟩
    · exact ⟨i, j, by omega, e1, e2⟩
theorem Sp_turn {c d : Nat → Int} {n i : Nat} : Sp c d n (i + 1) 0 = Sp c d n i n := by
  funext x y
  apply propext
  constructor
  · rintro ⟨i', j', h, e⟩; exact ⟨i', j', by omega, e⟩
  · rintro ⟨i', j', h, e⟩; exact ⟨i', j', by omega, e⟩
def Sg (a b x y : Int) : Prop := (0 ≤ x ∧ 0 ≤ y ∧ y ≤ 300) ∧ (x < a ∨ (x = a ∧ y < b))
theorem Sg_more {a b : Int} (ha : 0 ≤ a) (hb : 0 ≤ b ∧ b ≤ 300) (x y : Int) : Sg a (b + 1) x y ↔ Sg a b x y ∨ (x = a ∧ y = b) := by unfold Sg; omega
theorem Sg_turn {a : Int} (ha : 0 ≤ a) : Sg (a + 1) 0 = Sg a 301 := by
  funext x y
  apply propext
  unfold Sg
  omega
theorem Bst.ge {c d p : Nat → Int} {n : Nat} {S : Int → Int → Prop} {g0 g A D : Int} (h : Bst c d p n S g0 g A D) (hS : ∀ a b, S a b → 0 ≤ a ∧ b ≤ 300) (h0 : g0 ≤ -1000) : (g = g0 ∧ A = -1 ∧ D = -1) ∨ (-300 ≤ g ∧ S A D) := by
  rcases h with ⟨n1, e⟩ | ⟨s1, p1, v1, m1⟩
  · exact Or.inl e
  · have := hS A D s1
    exact Or.inr ⟨by omega, s1⟩
theorem k_findWhy {μ μ0 : Mem} (h : Inv μ) (k0 : Kp μ μ0) {n : Nat} (hn : μ 1 0 = n) (h8 : n ≤ 8) {Post : Pst} (hp : ∀ (μ1 : Mem) (g : Int), Kp μ μ1 → Bst (μ 25) (μ 26) (μ 24) n (Sp (μ 25) (μ 26) n n 0) (-1000000000) g (μ1 5 1) (μ1 5 2) → Post 0 μ1) : wp_X3_findWhy μ0 Post := by
  unfold wp_X3_findWhy b_X3_findWhy_e
  intro G15 G28 h15 h28
  intro μa ha μb hb
  have kb : Kp μ μb := fun c hc => by rw [hb, wr_ne (by have := isP_c hc; omega), ha, wr_ne (by have := isP_c hc; omega)]; exact k0 c hc
  have hrange : ∀ i j, i < n → j ≤ n → ∀ a b, Sp (μ 25) (μ 26) n i j a b → 0 ≤ a ∧ b ≤ 300 ∨ False := by
    intro i j hi hj a b ⟨i', j', hh, e1, e2⟩
    by_cases ci : i' < n
    · by_cases cj : j' < n
      · have q1 := h.w hn ci
        have q2 := h.w hn cj
        left
        omega
      · exact absurd hh (by omega)
    · left
      exfalso
      omega
  refine upTo (P := fun i => ∀ (μ1 : Mem) (g : Int), Kp μ μ1 → Bst (μ 25) (μ 26) (μ 24) n (Sp (μ 25) (μ 26) n i 0) (-1000000000) g (μ1 5 1) (μ1 5 2) → G15 μ1 g (i : Int)) (n := n) ?_ ?_ μb _ kb (Or.inl ⟨fun a b hab => ?_, rfl, ?_, ?_⟩)
  · intro μ1 g k1 bs
    have n1 : μ1 1 0 = n := by rw [k1 1 rfl]; exact hn
    exact h15 _ _ _ ⟨fun _ => hp μ1 g k1 bs, fun h' => absurd h' (by omega)⟩
  · intro i hi ih μ1 g k1 bs
    have n1 : μ1 1 0 = n := by rw [k1 1 rfl]; exact hn
    refine h15 _ _ _ ⟨fun h' => absurd h' (by omega), fun _ => ?_⟩
    refine upTo (P := fun j => ∀ (μ1 : Mem) (g : Int), Kp μ μ1 → Bst (μ 25) (μ 26) (μ 24) n (Sp (μ 25) (μ 26) n i j) (-1000000000) g (μ1 5 1) (μ1 5 2) → G28 μ1 g (i : Int) (j : Int)) (n := n) ?_ ?_ μ1 g k1 bs
    · intro μ1 g k1 bs
      have n1 : μ1 1 0 = n := by rw [k1 1 rfl]; exact hn
      refine h28 _ _ _ _ ⟨fun _ => ?_, fun h' => absurd h' (by omega)⟩
      rw [wrap_id (by omega) (by omega)]
      rintro _ rfl
      rw [← cs]
      exact ih μ1 g k1 (by rw [Sp_turn]; exact bs)
    · intro j hj ihj μ1 g k1 bs
      have n1 : μ1 1 0 = n := by rw [k1 1 rfl]; exact hn
      have qi := h.w hn hi
      have qj := h.w hn hj
      have hge := bs.ge (fun a b hab => by rcases hrange i j (by omega) (by omega) a b hab with h | h; exact h; exact absurd h (by decide)) (by decide)
      have sbd := sm_bd (c := μ 25) (d := μ 26) (h.p hn) (μ 25 i) (μ 26 j) (Nat.le_refl n)
      obtain ⟨mo0, mo1⟩ := bs.more (S' := Sp (μ 25) (μ 26) n i (j + 1)) (a := μ 25 i) (b := μ 26 j) (fun x y => Sp_more x y)
      refine h28 _ _ _ _ ⟨fun h' => absurd h' (by omega), fun _ => ⟨by omega, ?_⟩⟩
      rw [tn, k1 25 rfl]
      intro x hx
      refine ⟨by omega, ?_⟩
      rw [tn, k1 26 rfl]
      intro y hy
      rw [hx, hy]
      have stay : Bst (μ 25) (μ 26) (μ 24) n (Sp (μ 25) (μ 26) n i (j + 1)) (-1000000000) g (μ1 5 1) (μ1 5 2) → b_X3_findWhy_113 G15 G28 Post μ1 g (i : Int) (j : Int) := by
        intro hb'
        unfold b_X3_findWhy_113
        rw [wrap_id (by omega) (by omega)]
        rintro _ rfl
        rw [← cs]
        exact ihj μ1 g k1 hb'
      have take : ∀ v, Bst (μ 25) (μ 26) (μ 24) n (Sp (μ 25) (μ 26) n i (j + 1)) (-1000000000) v (μ 25 i) (μ 26 j) → b_X3_findWhy_98 G15 G28 Post μ1 (i : Int) (j : Int) (μ 25 i) (μ 26 j) v := by
        intro v hb'
        unfold b_X3_findWhy_98 b_X3_findWhy_113
        intro μ2 h2 μ3 h3
        rw [wrap_id (by omega) (by omega)]
        rintro _ rfl
        rw [← cs]
        refine ihj μ3 v (fun c hc => by rw [h3, wr_ne (by have := isP_c hc; omega), h2, wr_ne (by have := isP_c hc; omega)]; exact k1 c hc) ?_
        have e1 : μ3 5 1 = μ 25 i := by rw [h3, wr_i (by decide), h2, wr_s]
        have e2 : μ3 5 2 = μ 26 j := by rw [h3, wr_s]
        rw [e1, e2]
        exact hb'
      have e24 : μ1 24 = μ 24 := k1 24 rfl
      have e25 : μ1 25 = μ 25 := k1 25 rfl
      have e26 : μ1 26 = μ 26 := k1 26 rfl
      refine s_over (h.kp k1) n1 h8 ⟨by omega, by omega⟩ ⟨by omega, by omega⟩ (fun hpos => ?_) (fun hno => ?_)
      · rw [e24, e25, e26] at hpos ⊢
        obtain ⟨t1, t2, t3, t4⟩ := mo1 hpos (by omega)
        refine ⟨fun c => take _ (t1 c), fun c => ⟨fun c2 => stay (t3 (by omega)), fun c2 => ?_⟩⟩
        unfold wp_X3_isSooner b_X3_isSooner_e
        refine ⟨fun c3 => ⟨fun h' => absurd h' (by decide), fun _ => take _ (t2 c2 (Or.inl c3))⟩, fun c3 => ⟨fun c4 => ⟨fun _ => stay (t4 c2 (by omega)), fun h' => absurd rfl h'⟩, fun c4 => ⟨fun c5 => ⟨fun _ => stay (t4 c2 (by omega)), fun h' => absurd rfl h'⟩, fun c5 => ⟨fun h' => absurd h' (by decide), fun _ => take _ (t2 c2 (by omega))⟩⟩⟩⟩
      · rw [e24, e25, e26] at hno
        refine ⟨fun c => by omega, fun c => ⟨fun c2 => stay (mo0 hno), fun c2 => ?_⟩⟩
        unfold wp_X3_isSooner b_X3_isSooner_e
        have ee : μ1 5 1 = -1 := by omega
        refine ⟨fun c3 => by omega, fun c3 => ⟨fun c4 => ⟨fun _ => stay (mo0 hno), fun h' => absurd rfl h'⟩, fun c4 => by omega⟩⟩
  · obtain ⟨i', j', hh, -⟩ := hab
    omega
  · rw [hb, wr_i (by decide), ha, wr_s]
  · rw [hb, wr_s]
theorem m_why {μ μ1 : Mem} (h : Inv μ) (k1 : Kp μ μ1) {n : Nat} (hn : μ 1 0 = n) (h8 : n ≤ 8) (hm : μ 11 0 = n) {p : Int} {Post : Pst} {G45 : Mem → Int → Int → Int → Int → Int → Prop} {G55 : Mem → Int → Int → Int → Int → Int → Int → Prop} {G69 : Mem → Int → Int → Int → Int → Int → Int → Int → Int → Prop} (h45 : ∀ μ x1 x3 x4 x5 x6, b_X11_broken_45 G45 G55 G69 Post μ x1 x3 x4 x5 x6 → G45 μ x1 x3 x4 x5 x6) (h55 : ∀ μ x1 x3 x4 x5 x6 x7, b_X11_broken_55 G45 G55 G69 Post μ x1 x3 x4 x5 x6 x7 → G55 μ x1 x3 x4 x5 x6 x7) (h69 : ∀ μ x1 x3 x4 x5 x6 x7 x8 x9, b_X11_broken_69 G45 G55 G69 Post μ x1 x3 x4 x5 x6 x7 x8 x9 → G69 μ x1 x3 x4 x5 x6 x7 x8 x9) (hp : ∀ g A D : Int, Bst (μ 25) (μ 26) (μ 24) n (Sg 100 0) (-1000) g A D → Post (if p = 1 then A else D) μ1) : G45 μ1 p (-1000) (-1) (-1) 0 := by
  have m1 : μ1 11 0 = n := by rw [k1 11 rfl]; exact hm
  have e90 : ∀ w, w < n → μ1 90 w = μ 24 w := fun w hw => by rw [k1 90 rfl]; exact (h.w hn hw).1.1
  have e91 : ∀ w, w < n → μ1 91 w = μ 25 w := fun w hw => by rw [k1 91 rfl]; exact (h.w hn hw).2.1.1
  have e92 : ∀ w, w < n → μ1 92 w = μ 26 w := fun w hw => by rw [k1 92 rfl]; exact (h.w hn hw).2.2.1.1
  refine upTo (P := fun a => ∀ g A D : Int, Bst (μ 25) (μ 26) (μ 24) n (Sg a 0) (-1000) g A D → G45 μ1 p g A D (a : Int)) (n := 100) ?_ ?_ _ _ _ (Or.inl ⟨fun x y hxy => by unfold Sg at hxy; omega, rfl, rfl, rfl⟩)
  · intro g A D bs
    have := hp g A D bs
    refine h45 _ _ _ _ _ _ ⟨fun _ => ⟨fun c => ?_, fun c => ?_⟩, fun h' => absurd h' (by omega)⟩
    · rw [if_neg c] at this; exact this
    · rw [if_pos c] at this; exact this
  · intro a ha ih g A D bs
    refine h45 _ _ _ _ _ _ ⟨fun h' => absurd h' (by omega), fun _ => ?_⟩
    refine upTo (P := fun b => ∀ g A D : Int, Bst (μ 25) (μ 26) (μ 24) n (Sg a b) (-1000) g A D → G55 μ1 p g A D (a : Int) (b : Int)) (n := 301) ?_ ?_ g A D bs
    · intro g A D bs
      refine h55 _ _ _ _ _ _ _ ⟨fun _ => ?_, fun h' => absurd h' (by omega)⟩
      rw [wrap_id (by omega) (by omega)]
      rintro _ rfl
      rw [← cs]
      refine ih g A D ?_
      rw [cs, Sg_turn (by omega)]
      exact bs
    · intro b hb ihb g A D bs
      have hge := bs.ge (fun x y hxy => by unfold Sg at hxy; omega) (by decide)
      have sbd := sm_bd (c := μ 25) (d := μ 26) (h.p hn) (a : Int) (b : Int) (Nat.le_refl n)
      obtain ⟨mo0, mo1⟩ := bs.more (S' := Sg a ((b : Int) + 1)) (a := (a : Int)) (b := (b : Int)) (fun x y => Sg_more (by omega) (by omega) x y)
      refine h55 _ _ _ _ _ _ _ ⟨fun h' => absurd h' (by omega), fun _ => ?_⟩
      refine upTo (P := fun i => G69 μ1 p g A D (a : Int) (b : Int) (sm (μ 25) (μ 26) (μ 24) i a b) (i : Int)) (n := n) ?_ ?_
      · have stay : ∀ g A D : Int, Bst (μ 25) (μ 26) (μ 24) n (Sg a ((b : Int) + 1)) (-1000) g A D → b_X11_broken_158 G45 G55 G69 Post μ1 p g A D (a : Int) (b : Int) := by
          intro g A D hb'
          unfold b_X11_broken_158
          rw [wrap_id (by omega) (by omega)]
          rintro _ rfl
          rw [← cs]
          refine ihb g A D ?_
          rw [cs]
          exact hb'
        refine h69 _ _ _ _ _ _ _ _ _ ⟨fun _ => ⟨fun c => stay g A D (mo0 (by omega)), fun c => ?_⟩, fun h' => absurd h' (by omega)⟩
        rw [wrap_id (x := (a : Int) + _) (by omega) (by omega), wrap_id (by omega) (by omega)]
        obtain ⟨t1, t2, t3, t4⟩ := mo1 (by omega) (by omega)
        refine ⟨fun c2 => stay g A D ?_, fun c2 => ?_⟩
        · by_cases c3 : (a : Int) + sm (μ 25) (μ 26) (μ 24) n a b - b < g
          · exact t3 c3
          · refine t4 (by omega) ?_
            rcases hge with ⟨e, -, -⟩ | ⟨-, hs⟩
            · omega
            · unfold Sg at hs
              omega
        · rintro _ rfl
          exact stay _ _ _ (t1 (by omega))
      · intro i hi ihi
        have bd := sm_bd (c := μ 25) (d := μ 26) (h.p hn) (a : Int) (b : Int) (i := i) (by omega)
        have q := h.p hn i hi
        have e : sm (μ 25) (μ 26) (μ 24) (i + 1) a b = sm (μ 25) (μ 26) (μ 24) i a b + (if (a : Int) ≤ μ 25 i ∧ μ 26 i ≤ (b : Int) then μ 24 i else 0) := rfl
        rw [e, cs] at ihi
        refine h69 _ _ _ _ _ _ _ _ _ ⟨fun h' => absurd h' (by omega), fun _ => ⟨by omega, ?_⟩⟩
        unfold b_X11_broken_114 b_X11_broken_115
        rw [tn, e90 i hi, e91 i hi, e92 i hi, wrap_id (x := (i : Int) + 1) (by omega) (by omega), Int.add_zero, wrap_id (x := sm (μ 25) (μ 26) (μ 24) i a b) (by omega) (by omega), wrap_id (x := sm (μ 25) (μ 26) (μ 24) i a b + μ 24 i) (by omega) (by omega)]
        refine ⟨fun c => ?_, fun c => ⟨by omega, fun c2 => ?_, fun c2 => ⟨by omega, ?_⟩⟩⟩
        · rw [if_neg (by omega), Int.add_zero] at ihi
          rintro _ rfl _ rfl
          exact ihi
        · rw [if_neg (by omega), Int.add_zero] at ihi
          rintro _ rfl _ rfl
          exact ihi
        · rw [if_pos (by omega)] at ihi
          rintro _ rfl _ rfl
          exact ihi
theorem o_broken {μ : Mem} {p : Int} (hI : Inv μ) : wp_X10_broken μ p (fun r μ1 => wp_X11_broken μ1 p (Ok r)) := by
  obtain ⟨n, hn, h8, hm⟩ := hI.n
  unfold wp_X10_broken b_X10_broken_e
  rw [isFrom_iff]
  refine ⟨fun hp => ⟨fun _ => ?_, fun h' => absurd h' (by decide)⟩, fun hp => ⟨fun h' => absurd rfl h', fun _ => ?_⟩⟩
  · refine k_greatest hI hn h8 (fun μ1 k1 => ⟨fun c => ⟨fun c2 => ?_, fun c2 => ?_⟩, fun c => ?_⟩)
    · refine k_findWhy hI k1 hn h8 (fun μ2 g k2 bs => ?_)
      have fin : ∀ r : Int, r = (if p = 1 then μ2 5 1 else μ2 5 2) → wp_X11_broken μ2 p (Ok r) := by
        intro r hr
        unfold wp_X11_broken
        intro G45 G55 G69 h45 h55 h69
        unfold b_X11_broken_e
        refine in_iff.mpr ⟨fun _ => ⟨fun _ => ?_, fun h' => absurd h' (by decide)⟩, fun h' => absurd hp h'⟩
        refine m_goBroken hI k2 hn h8 hm (fun μ3 k3 c3 => ⟨fun _ => ⟨fun _ => ?_, fun h' => absurd h' c2⟩, fun h' => absurd h' c⟩)
        refine m_why hI k3 hn h8 hm h45 h55 h69 (fun g' A D bs' => ⟨?_, hI.kp k3⟩)
        have u := Bst.uq (hI.p hn) (S1 := Sp (μ 25) (μ 26) n n 0) (S2 := Sg 100 0) (fun a b ⟨i', j', hh, e1, e2⟩ => by
          have q1 := hI.w hn (w := i') (by omega)
          have q2 := hI.w hn (w := j') (by omega)
          unfold Sg
          omega) (fun i j hi hj => ⟨i, j, Or.inl ⟨hi, hj⟩, rfl, rfl⟩) bs bs'
        rw [hr, u.1, u.2]
      refine ⟨fun c3 => fin _ ?_, fun c3 => fin _ ?_⟩
      · rw [if_neg c3]
      · rw [if_pos c3]
    · show wp_X11_broken μ1 p (Ok _)
      unfold wp_X11_broken
      intro G45 G55 G69 h45 h55 h69
      unfold b_X11_broken_e
      refine in_iff.mpr ⟨fun _ => ⟨fun _ => ?_, fun h' => absurd h' (by decide)⟩, fun h' => absurd hp h'⟩
      exact m_goBroken hI k1 hn h8 hm (fun μ3 k3 c3 => ⟨fun _ => ⟨fun h' => absurd c2 h', fun _ => okI (hI.kp k3)⟩, fun h' => absurd h' c⟩)
    · show wp_X11_broken μ1 p (Ok _)
      unfold wp_X11_broken
      intro G45 G55 G69 h45 h55 h69
      unfold b_X11_broken_e
      refine in_iff.mpr ⟨fun _ => ⟨fun _ => ?_, fun h' => absurd h' (by decide)⟩, fun h' => absurd hp h'⟩
      exact m_goBroken hI k1 hn h8 hm (fun μ3 k3 c3 => ⟨fun h' => absurd c h', fun _ => okI (hI.kp k3)⟩)
  · show wp_X11_broken μ p (Ok _)
    unfold wp_X11_broken
    intro G45 G55 G69 h45 h55 h69
    unfold b_X11_broken_e
    exact in_iff.mpr ⟨fun h' => absurd h' hp, fun _ => ⟨fun h' => absurd rfl h', fun _ => okI hI⟩⟩
