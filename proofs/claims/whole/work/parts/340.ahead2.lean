/-! ahead -/
theorem swp_P {A : Nat → Nat} {P : Nat → Prop} {n S i : Nat} (hi : i ≤ n) (hX : ∀ w u, w < n → P w → (A w).testBit u = true → P u) (hS : ∀ u, S.testBit u = true → P u) : ∀ u, (swp A S i).testBit u = true → P u := by
  induction i with
  | zero => exact hS
  | succ i ih =>
    intro u hu
    unfold swp at hu
    split at hu
    · rename_i c
      rw [Nat.testBit_or, Bool.or_eq_true] at hu
      rcases hu with hu | hu
      · exact ih (by omega) u hu
      · exact hX i u (by omega) (ih (by omega) i c) hu
    · exact ih (by omega) u hu
theorem rds_P {A : Nat → Nat} {P : Nat → Prop} {n S : Nat} (hX : ∀ w u, w < n → P w → (A w).testBit u = true → P u) (hS : ∀ u, S.testBit u = true → P u) (r : Nat) : ∀ u, (rds A n S r).testBit u = true → P u := by
  induction r with
  | zero => exact hS
  | succ r ih => unfold rds; exact swp_P (Nat.le_refl n) hX ih
theorem xor_or {x i : Nat} (h : x.testBit i = false) : x ^^^ 2 ^ i = x ||| 2 ^ i := by
  apply Nat.eq_of_testBit_eq
  intro u
  rw [Nat.testBit_xor, Nat.testBit_or, Nat.testBit_two_pow]
  by_cases e : i = u
  · subst e; rw [h]; simp
  · simp [e]
theorem xor_ndf {x i : Nat} (h : x.testBit i = true) : x ^^^ 2 ^ i = ndf x (2 ^ i) := by
  apply Nat.eq_of_testBit_eq
  intro u
  rw [Nat.testBit_xor, ndf_bit, Nat.testBit_two_pow]
  by_cases e : i = u
  · subst e; rw [h]; simp
  · simp [e]
theorem o_ahead {μ : Mem} {a b p : Int} (hI : Inv μ) (hp : p = 0 ∨ p = 1) : wp_X10_ahead μ a b p (fun r μ1 => wp_X11_ahead μ1 a b p (Ok r)) := by
  have hN := hI.1
  obtain ⟨n, hn, h8, hm⟩ := hI.n
  have p8 := pow8 h8
  obtain ⟨a1, a2, a3, a4, rk, a5⟩ := hI.a hn h8
  have hAn : ∀ w, w < 8 → Ad μ w < 2 ^ n := fun w hw => Ad_lt hI hn h8 hw
  unfold wp_X10_ahead b_X10_ahead_e
  rw [has_iff hN]
  by_cases h1 : 0 ≤ a ∧ a < μ 1 0
  · refine ⟨fun _ => ⟨fun h => absurd h (by decide), fun _ => ?_⟩, fun h => absurd h1 h⟩
    rw [has_iff hN]
    by_cases h2 : 0 ≤ b ∧ b < μ 1 0
    · refine ⟨fun _ => ⟨fun h => absurd h (by decide), fun _ => ⟨fun hab => ?_, fun hab => ?_⟩⟩, fun h => absurd h2 h⟩
      · obtain ⟨x, rfl⟩ := natOf h1.1
        obtain ⟨y, rfl⟩ := natOf h2.1
        have hx : x < n := by omega
        have hy : y < n := by omega
        have hxy : x ≠ y := fun e => hab (by rw [e])
        -- the other side
        have other : ∀ μ1 (Post : Pst), (∀ c, c ≠ 74 → μ1 c = μ c) → (if (Ad μ y).testBit x then (1 : Int) else 0) ≠ p → (p = 1 → (rds (Ad μ) n (Ad μ x) n).testBit y = false) → (∀ μ3, μ3 = wr μ1 95 y ((Ad μ y ^^^ 2 ^ x : Nat) : Int) → Post 1 μ3) → wp_X11_ahead μ1 (x : Int) (y : Int) p Post := by
          intro μ1 Post fr hso hcl hpost
          have N1 : IN μ1 := hN.cg (by rw [fr 1 (by omega)]) (by rw [fr 11 (by omega)])
          have e10 : μ1 1 0 = μ 1 0 := by rw [fr 1 (by omega)]
          have e95 : ∀ w, w < n → μ1 95 w = Ad μ w := fun w hw => by rw [fr 95 (by omega)]; exact a2 w hw
          have ay := a4 y (by omega)
          have fin : b_X11_ahead_71 Post μ1 (x : Int) (y : Int) := by
            unfold b_X11_ahead_71
            rw [tn, e95 y hy, ishl_n (by omega), ixor_n (by omega) (pow_lt31 (by omega))]
            exact ⟨by omega, by omega, hpost⟩
          have mid : ∀ s, s = (if (Ad μ y).testBit x then (1 : Int) else 0) → b_X11_ahead_43 Post μ1 (x : Int) (y : Int) p s := by
            intro s hs
            unfold b_X11_ahead_43
            refine ⟨fun h => absurd (hs ▸ h) hso, fun _ => ⟨fun _ => fin, fun hp0 => ?_⟩⟩
            refine m_allAhead h8 (by rw [fr 11 (by omega)]; exact hm) e95 (fun w hw => hAn w (by omega)) hx ?_
            have lt := rds_lt (hAn x (by omega)) (fun w hw => hAn w (by omega)) (n := n) n
            rw [bit1_n (by omega) (by omega), hcl (by omega)]
            exact ⟨fun _ => fin, fun h => absurd h (by decide)⟩
          unfold wp_X11_ahead b_X11_ahead_e
          rw [isWork_iff N1]
          refine ⟨fun _ => ⟨fun h => absurd h (by decide), fun _ => ?_⟩, fun h => absurd (by rw [e10]; exact h1) h⟩
          rw [isWork_iff N1]
          refine ⟨fun _ => ⟨fun h => absurd h (by decide), fun _ => ⟨fun _ => ⟨by omega, ?_⟩, fun h => absurd h hab⟩⟩, fun h => absurd (by rw [e10]; exact h2) h⟩
          rw [tn, e95 y hy, bit1_n (by omega) (by omega)]
          cases hb : (Ad μ y).testBit x with
          | true => exact ⟨fun h => absurd rfl h, fun _ => mid 1 (by rw [hb]; rfl)⟩
          | false => exact ⟨fun _ => mid 0 (by rw [hb]; rfl), fun h => absurd h (by decide)⟩
        -- the world behind it
        have world : ∀ (N : Nat) (rk' : Nat → Nat), (∀ u w, w < 8 → (if w = y then N else Ad μ w).testBit u = true → u < n ∧ rk' u < rk' w) → Inv (wr (wr μ 74 y (N : Int)) 95 y (N : Int)) := by
          intro N rk' hr
          refine hI.setA (fun c hc hn => by rw [wr_ne (by omega), wr_ne (by omega)]) (fun i hi => by rw [wr_o (by decide), wr_o (by decide)]) ?_
          have e1 : wr (wr μ 74 y (N : Int)) 95 y (N : Int) 1 0 = n := by rw [wr_o (by decide), wr_o (by decide)]; exact hn
          refine ⟨fun w => if w = y then N else if w < 8 then Ad μ w else 0, rk', fun w hw => ?_, fun w hw => ?_, fun w hw => ?_, fun u w hu => ?_⟩
          · rw [wr_o (by decide), wr_app, if_pos rfl]
            by_cases c : w = y
            · simp only [c, if_true]
            · simp only [c, if_false, hw, if_true]; exact a1 w hw
          · rw [e1] at hw
            rw [wr_app, if_pos rfl]
            by_cases c : w = y
            · simp only [c, if_true]
            · have h8' : w < 8 := by omega
              simp only [c, if_false, h8', if_true]; rw [wr_o (by decide)]; exact a2 w (by omega)
          · rw [e1] at hw
            have c : ¬ w = y := by omega
            simp only [c, if_false]
            split
            · rename_i h8'
              exact a3 w h8' (by omega)
            · rfl
          · rw [e1]
            by_cases c : w = y
            · simp only [c, if_true] at hu
              have := hr u y (by omega) (by simp only [if_true]; exact hu)
              rw [c]
              exact ⟨by omega, this.2⟩
            · simp only [c, if_false] at hu
              split at hu
              · rename_i h8'
                have := hr u w h8' (by simp only [c, if_false]; exact hu)
                exact ⟨by omega, this.2⟩
              · simp at hu
        have ay := a4 y (by omega)
        unfold wp_X9_isToldAhead b_X9_isToldAhead_e
        refine ⟨by omega, ?_⟩
        rw [tn, a1 y (by omega)]
        refine s_isIn (by omega) (by omega) ⟨by split <;> simp, fun hso => ?_, fun hso => ?_⟩
        · -- as it was
          show wp_X11_ahead μ _ _ _ (Ok _)
          unfold wp_X11_ahead b_X11_ahead_e
          rw [isWork_iff hN]
          refine ⟨fun _ => ⟨fun h => absurd h (by decide), fun _ => ?_⟩, fun h => absurd h1 h⟩
          rw [isWork_iff hN]
          refine ⟨fun _ => ⟨fun h => absurd h (by decide), fun _ => ⟨fun _ => ⟨by omega, ?_⟩, fun h => absurd h hab⟩⟩, fun h => absurd h2 h⟩
          rw [tn, a2 y hy, bit1_n (by omega) (by omega)]
          have mid : ∀ s, s = p → b_X11_ahead_43 (Ok (-3)) μ (x : Int) (y : Int) p s := by
            intro s hs
            unfold b_X11_ahead_43
            exact ⟨fun _ => okI hI, fun h => absurd hs h⟩
          cases hb : (Ad μ y).testBit x with
          | true => rw [hb] at hso; exact ⟨fun h => absurd rfl h, fun _ => mid 1 hso⟩
          | false => rw [hb] at hso; exact ⟨fun _ => mid 0 hso, fun h => absurd h (by decide)⟩
        · refine k_byOthers hI hn h8 hy hx ?_
          have lt := rds_lt (hAn x (by omega)) (fun w hw => hAn w (by omega)) (n := n) n
          rcases hp with rfl | rfl
          · -- told no more
            have hb : (Ad μ y).testBit x = true := by
              cases hb : (Ad μ y).testBit x with
              | true => rfl
              | false => rw [hb] at hso; exact absurd rfl hso
            have hno : (rds (Ad μ) n (Ad μ x) n).testBit y = false := by
              cases hc : (rds (Ad μ) n (Ad μ x) n).testBit y with
              | false => rfl
              | true =>
                have r1 := (a5 x y (by omega) hb).2
                have r2 := rds_P (P := fun u => rk u < rk x) (n := n) (A := Ad μ) (fun w u hw hwx hu => Nat.lt_trans (a5 u w (by omega) hu).2 hwx) (fun u hu => (a5 u x (by omega) hu).2) n y hc
                exact absurd r2 (by omega)
            rw [hno]
            refine ⟨fun _ => ?_, fun h => absurd rfl h⟩
            unfold wp_X9_tellAhead b_X9_tellAhead_e
            refine ⟨fun _ => ⟨by omega, by omega, ?_⟩, fun h => absurd rfl h⟩
            rw [tn, a1 y (by omega), ishl_n (by omega), iandn_n (by omega) (pow_lt31 (by omega))]
            intro μ1 hμ1
            refine other μ1 _ (fun c hc => by rw [hμ1, wr_ne hc]) hso (fun h => by omega) (fun μ3 h3 => ⟨rfl, ?_⟩)
            rw [h3, hμ1, xor_ndf hb]
            refine world _ rk (fun u w hw hu => ?_)
            by_cases c : w = y
            · rw [if_pos c, ndf_bit, Bool.and_eq_true] at hu
              rw [c]
              exact a5 u y (by omega) hu.1
            · rw [if_neg c] at hu
              exact a5 u w hw hu
          · -- told
            have hb : (Ad μ y).testBit x = false := by
              cases hb : (Ad μ y).testBit x with
              | false => rfl
              | true => rw [hb] at hso; exact absurd rfl hso
            cases hc : (rds (Ad μ) n (Ad μ x) n).testBit y with
            | true =>
              refine ⟨fun h => absurd h (by decide), fun _ => ?_⟩
              show wp_X11_ahead μ _ _ _ (Ok _)
              unfold wp_X11_ahead b_X11_ahead_e
              rw [isWork_iff hN]
              refine ⟨fun _ => ⟨fun h => absurd h (by decide), fun _ => ?_⟩, fun h => absurd h1 h⟩
              rw [isWork_iff hN]
              refine ⟨fun _ => ⟨fun h => absurd h (by decide), fun _ => ⟨fun _ => ⟨by omega, ?_⟩, fun h => absurd h hab⟩⟩, fun h => absurd h2 h⟩
              rw [tn, a2 y hy, bit1_n (by omega) (by omega), hb]
              refine ⟨fun _ => ?_, fun h => absurd h (by decide)⟩
              unfold b_X11_ahead_43
              refine ⟨fun h => absurd h (by decide), fun _ => ⟨fun h => absurd h (by decide), fun _ => ?_⟩⟩
              refine m_allAhead h8 hm a2 (fun w hw => hAn w (by omega)) hx ?_
              rw [bit1_n (by omega) (by omega), hc]
              exact ⟨fun h => absurd rfl h, fun _ => okI hI⟩
            | false =>
              refine ⟨fun _ => ?_, fun h => absurd rfl h⟩
              unfold wp_X9_tellAhead b_X9_tellAhead_e
              refine ⟨fun h => absurd h (by decide), fun _ => ⟨by omega, by omega, ?_⟩⟩
              rw [tn, a1 y (by omega), ishl_n (by omega), ior_n (by omega) (pow_lt31 (by omega))]
              intro μ1 hμ1
              refine other μ1 _ (fun c hc => by rw [hμ1, wr_ne hc]) hso (fun _ => hc) (fun μ3 h3 => ⟨rfl, ?_⟩)
              rw [h3, hμ1, xor_or hb]
              have up : ∀ u w, w < 8 → (Ad μ w).testBit u = true → (u = y ∨ (rds (Ad μ) n (Ad μ u) n).testBit y = true) → (rds (Ad μ) n (Ad μ w) n).testBit y = true := by
                intro u w hw hu hd
                have inw : (rds (Ad μ) n (Ad μ w) n).testBit u = true := rds_ge n hu
                rcases hd with e | e
                · rw [← e]; exact inw
                · have cl := rds_stop (A := Ad μ) (n := n) (hAn w hw) (fun v hv => hAn v (by omega))
                  exact rds_in cl (fun v hv => cl u v (a5 u w hw hu).1 inw hv) n y e
              refine world _ (fun w => rk w + (if w = y ∨ (rds (Ad μ) n (Ad μ w) n).testBit y = true then rk x + 1 else 0)) (fun u w hw hu => ?_)
              have gen : ∀ w, w < 8 → (Ad μ w).testBit u = true → u < n ∧ rk u + (if u = y ∨ (rds (Ad μ) n (Ad μ u) n).testBit y = true then rk x + 1 else 0) < rk w + (if w = y ∨ (rds (Ad μ) n (Ad μ w) n).testBit y = true then rk x + 1 else 0) := by
                intro w hw hu
                have r := a5 u w hw hu
                refine ⟨r.1, ?_⟩
                by_cases c : u = y ∨ (rds (Ad μ) n (Ad μ u) n).testBit y = true
                · rw [if_pos c, if_pos (Or.inr (up u w hw hu c))]; omega
                · rw [if_neg c]; omega
              by_cases c : w = y
              · rw [if_pos c, Nat.testBit_or, Bool.or_eq_true, Nat.testBit_two_pow, decide_eq_true_eq] at hu
                rw [c]
                rcases hu with hu | hu
                · exact gen y (by omega) hu
                · rw [← hu]
                  refine ⟨hx, ?_⟩
                  show rk x + (if x = y ∨ (rds (Ad μ) n (Ad μ x) n).testBit y = true then rk x + 1 else 0) < rk y + (if y = y ∨ (rds (Ad μ) n (Ad μ y) n).testBit y = true then rk x + 1 else 0)
                  rw [if_neg (by rw [hc]; simp [hxy]), if_pos (Or.inl rfl)]
                  omega
              · rw [if_neg c] at hu
                exact gen w hw hu
      · show wp_X11_ahead μ _ _ _ (Ok _)
        unfold wp_X11_ahead b_X11_ahead_e
        rw [isWork_iff hN]
        refine ⟨fun _ => ⟨fun h => absurd h (by decide), fun _ => ?_⟩, fun h => absurd h1 h⟩
        rw [isWork_iff hN]
        exact ⟨fun _ => ⟨fun h => absurd h (by decide), fun _ => ⟨fun h => absurd hab h, fun _ => okI hI⟩⟩, fun h => absurd h2 h⟩
    · refine ⟨fun h => absurd h h2, fun _ => ⟨fun _ => ?_, fun h => absurd rfl h⟩⟩
      show wp_X11_ahead μ _ _ _ (Ok _)
      unfold wp_X11_ahead b_X11_ahead_e
      rw [isWork_iff hN]
      refine ⟨fun _ => ⟨fun h => absurd h (by decide), fun _ => ?_⟩, fun h => absurd h1 h⟩
      rw [isWork_iff hN]
      exact ⟨fun h => absurd h h2, fun _ => ⟨fun _ => okI hI, fun h => absurd rfl h⟩⟩
  · refine ⟨fun h => absurd h h1, fun _ => ⟨fun _ => ?_, fun h => absurd rfl h⟩⟩
    show wp_X11_ahead μ _ _ _ (Ok _)
    unfold wp_X11_ahead b_X11_ahead_e
    rw [isWork_iff hN]
    exact ⟨fun h => absurd h h1, fun _ => ⟨fun _ => okI hI, fun h => absurd rfl h⟩⟩
