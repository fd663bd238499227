/-! The first of the least: what both sides keep; the other side's way through all orders. -/
def Cl (n : Nat) (Lw : (Nat → Nat) → Prop) (V : (Nat → Nat) → Int → Prop) (c : Nat) (m : Int) (β : Nat → Int) : Prop :=
  (∀ p u, Pm p n → cd p n < c → Lw p → V p u → m ≤ u) ∧ (m = 1000000000 ∨ ∃ b : Nat → Nat, (∀ i, i < n → β i = b i) ∧ Pm b n ∧ Lw b ∧ V b m ∧ cd b n < c ∧ ∀ p u, Pm p n → Lw p → V p u → cd p n < cd b n → m < u)
theorem Cl.init {n : Nat} {Lw : (Nat → Nat) → Prop} {V : (Nat → Nat) → Int → Prop} {β : Nat → Int} : Cl n Lw V 0 1000000000 β := ⟨fun p u _ h => by omega, Or.inl rfl⟩
theorem Cl.skip {n : Nat} {Lw : (Nat → Nat) → Prop} {V : (Nat → Nat) → Int → Prop} {c c' : Nat} {m : Int} {β : Nat → Int} (h : Cl n Lw V c m β) (hc : c ≤ c') (hs : ∀ p u, Pm p n → c ≤ cd p n → cd p n < c' → Lw p → V p u → m ≤ u) : Cl n Lw V c' m β := by
  refine ⟨fun p u hp h1 h2 h3 => ?_, ?_⟩
  · by_cases d : cd p n < c
    · exact h.1 p u hp d h2 h3
    · exact hs p u hp (by omega) h1 h2 h3
  · rcases h.2 with e | ⟨b, b1, b2, b3, b4, b5, b6⟩
    · exact Or.inl e
    · exact Or.inr ⟨b, b1, b2, b3, b4, by omega, b6⟩
theorem Cl.found {n : Nat} {Lw : (Nat → Nat) → Prop} {V : (Nat → Nat) → Int → Prop} {c : Nat} {m u0 : Int} {β β' : Nat → Int} {o : Nat → Nat} (h8 : n ≤ 8) (hV : ∀ p q u u', Pm p n → Pm q n → (∀ i, i < n → p i = q i) → V p u → V q u' → u = u') (h : Cl n Lw V c m β) (hP : Pm o n) (hc : cd o n = c) (hL : Lw o) (hv : V o u0) (hlt : u0 < m) (hβ : ∀ i, i < n → β' i = o i) : Cl n Lw V (c + 1) u0 β' := by
  refine ⟨fun p u hp h1 h2 h3 => ?_, Or.inr ⟨o, hβ, hP, hL, hv, by omega, fun p u hp h1 h2 h3 => ?_⟩⟩
  · by_cases d : cd p n < c
    · have := h.1 p u hp d h2 h3
      omega
    · have e := cd_inj (hp.d8 h8) (hP.d8 h8) (show cd p n = cd o n by omega)
      have := hV p o u u0 hp hP e h3 hv
      omega
  · have := h.1 p u hp (by omega) h1 h2
    omega
theorem Cl.keep {n : Nat} {Lw : (Nat → Nat) → Prop} {V : (Nat → Nat) → Int → Prop} {c : Nat} {m u0 : Int} {β : Nat → Int} {o : Nat → Nat} (h8 : n ≤ 8) (hV : ∀ p q u u', Pm p n → Pm q n → (∀ i, i < n → p i = q i) → V p u → V q u' → u = u') (h : Cl n Lw V c m β) (hP : Pm o n) (hc : cd o n = c) (hv : V o u0) (hle : m ≤ u0) : Cl n Lw V (c + 1) m β := by
  refine h.skip (by omega) (fun p u hp h1 h2 h3 h4 => ?_)
  have e := cd_inj (hp.d8 h8) (hP.d8 h8) (show cd p n = cd o n by omega)
  have := hV p o u u0 hp hP e h4 hv
  omega
theorem Cl.cgb {n : Nat} {Lw : (Nat → Nat) → Prop} {V : (Nat → Nat) → Int → Prop} {c : Nat} {m : Int} {β β' : Nat → Int} (h : Cl n Lw V c m β) (hβ : ∀ i, i < n → β' i = β i) : Cl n Lw V c m β' := by
  refine ⟨h.1, ?_⟩
  rcases h.2 with e | ⟨b, b1, b2, b3, b4, b5, b6⟩
  · exact Or.inl e
  · exact Or.inr ⟨b, fun i hi => by rw [hβ i hi]; exact b1 i hi, b2, b3, b4, b5, b6⟩
theorem Cl.uq {n : Nat} {Lw : (Nat → Nat) → Prop} {V : (Nat → Nat) → Int → Prop} {c c' : Nat} {m m' : Int} {β β' : Nat → Int} (h8 : n ≤ 8) (h : Cl n Lw V c m β) (h' : Cl n Lw V c' m' β') (hc : ∀ p, Pm p n → cd p n < c ∧ cd p n < c') {p : Nat → Nat} {u : Int} (hp : Pm p n) (hL : Lw p) (hv : V p u) (hu : u < 1000000000) : m = m' ∧ ∀ i, i < n → β i = β' i := by
  have a1 := h.1 p u hp (hc p hp).1 hL hv
  have a2 := h'.1 p u hp (hc p hp).2 hL hv
  rcases h.2 with e | ⟨b, b1, b2, b3, b4, b5, b6⟩
  · omega
  rcases h'.2 with e | ⟨b', b1', b2', b3', b4', b5', b6'⟩
  · omega
  have q1 := h.1 b' m' b2' (hc b' b2').1 b3' b4'
  have q2 := h'.1 b m b2 (hc b b2).2 b3 b4
  have e1 : m = m' := by omega
  have n1 : ¬ cd b n < cd b' n := fun hh => by
    have := b6' b m b2 b3 b4 hh
    omega
  have n2 : ¬ cd b' n < cd b n := fun hh => by
    have := b6 b' m' b2' b3' b4' hh
    omega
  have e2 := cd_inj (b2.d8 h8) (b2'.d8 h8) (show cd b n = cd b' n by omega)
  exact ⟨e1, fun i hi => by rw [b1 i hi, b1' i hi, e2 i hi]⟩
/-- the least so far, as the other side writes it -/
def Mn (x m : Int) : Prop := (x = -1 ∧ m = 1000000000) ∨ (0 ≤ x ∧ x = m)
theorem m_goOver {μ : Mem} {n : Nat} {x1 : Int} (hm : μ 11 0 = n) (h8 : n ≤ 8) {Lw : (Nat → Nat) → Prop} {V : (Nat → Nat) → Int → Prop} (hL : ∀ p q, (∀ i, i < n → p i = q i) → Lw p → Lw q) (hV : ∀ p q u u', Pm p n → Pm q n → (∀ i, i < n → p i = q i) → V p u → V q u' → u = u') (hVb : ∀ p u, Pm p n → V p u → 0 ≤ u ∧ u < 1000000000) {Post : Pst}
    (hev : ∀ (G8 : Mem → Int → Int → Int → Prop) (G64 : Mem → Int → Int → Int → Prop) (μ1 : Mem) (o : Nat → Nat) (x2 : Int), Kp μ μ1 → Pm o n → (∀ i, i < n → μ1 103 i = o i) → (¬ Lw o → b_X11_goOver_93 G8 G64 Post μ1 x1 x2) → (Lw o → ∀ (μ2 : Mem) (u : Int), V o u → Kp μ1 μ2 → μ2 103 = μ1 103 → μ2 104 = μ1 104 → b_X11_goOver_46 G8 G64 Post μ2 x1 x2 u) → b_X11_goOver_8 G8 G64 Post μ1 x1 x2 1)
    (hp : ∀ (μ' : Mem) (x m : Int), Kp μ μ' → Mn x m → Cl n Lw V (8 ^ n) m (μ' 104) → Post x μ') : wp_X11_goOver μ x1 Post := by
  unfold wp_X11_goOver
  intro G8 G64 g8 g64
  unfold b_X11_goOver_e
  have main : ∀ (f : Nat) (μ1 : Mem) (o : Nat → Nat) (x m : Int), 8 ^ n ≤ cd o n + f → Kp μ μ1 → Pm o n → (∀ i, i < n → μ1 103 i = o i) → Mn x m → Cl n Lw V (cd o n) m (μ1 104) → G8 μ1 x1 x 1 := by
    intro f
    induction f with
    | zero =>
      intro μ1 o x m hf k1 hP
      have := cd_bd (hP.d8 h8)
      omega
    | succ f ih =>
      intro μ1 o x m hf k1 hP hq hx hC
      -- on to the next
      have on : ∀ (μ2 : Mem) (x' m' : Int), Kp μ μ2 → (∀ i, i < n → μ2 103 i = o i) → Mn x' m' → Cl n Lw V (cd o n + 1) m' (μ2 104) → b_X11_goOver_93 G8 G64 Post μ2 x1 x' := by
        intro μ2 x' m' k2 hq2 hx' hC'
        unfold b_X11_goOver_93
        have e11 : μ2 11 0 = n := by rw [k2 11 rfl]; exact hm
        refine m_nextOrder e11 h8 hP hq2 (fun hmax => ?_) (fun μ3 o' fr3 hP' hq3 hlt hnx => ?_)
        · refine g8 _ _ _ _ ⟨fun _ => hp μ2 x' m' k2 hx' (hC'.skip ?_ (fun p u hpp h1 h2 _ _ => ?_)), fun h' => absurd rfl h'⟩
          · have := cd_bd (hP.d8 h8)
            omega
          · have := hmax p hpp
            omega
        · refine ih μ3 o' x' m' (by omega) (fun c hc => ?_) hP' hq3 hx' ?_
          · rw [fr3 c (by have := isP_c hc; omega)]
            exact k2 c hc
          · rw [fr3 104 (by decide)]
            refine hC'.skip (by omega) (fun p u hpp h1 h2 _ _ => ?_)
            have := hnx p hpp h2
            omega
      refine g8 _ _ _ _ (hev G8 G64 μ1 o x k1 hP hq (fun hn => ?_) (fun hl μ2 u hu k2 e103 e104 => ?_))
      · refine on μ1 x m k1 hq hx (hC.skip (by omega) (fun p u hpp h1 h2 h3 _ => ?_))
        have e := cd_inj (hpp.d8 h8) (hP.d8 h8) (show cd p n = cd o n by omega)
        exact absurd (hL p o e h3) hn
      · have k12 := k1.tr k2
        have ub := hVb o u hP hu
        have cpy : u < m → b_X11_goOver_58 G8 G64 Post μ2 x1 u := by
          intro hlt
          unfold b_X11_goOver_58
          refine upTo (P := fun i => ∀ μ3 : Mem, (∀ c, c ≠ 104 → μ3 c = μ2 c) → (∀ j, j < i → μ3 104 j = o j) → G64 μ3 x1 u (i : Int)) (n := n) ?_ ?_ μ2 (fun _ _ => rfl) (fun i hi => absurd hi (by omega))
          · intro μ3 fr3 c3
            have k3 : Kp μ μ3 := fun c hc => by
              rw [fr3 c (by have := isP_c hc; omega)]
              exact k12 c hc
            have e11 : μ3 11 0 = n := by rw [k3 11 rfl]; exact hm
            refine g64 _ _ _ _ ⟨fun _ => ?_, fun h' => absurd h' (by omega)⟩
            refine on μ3 u u k3 (fun i hi => ?_) (Or.inr ⟨ub.1, rfl⟩) (hC.found h8 hV hP rfl hl hu hlt c3)
            rw [fr3 103 (by decide), e103]
            exact hq i hi
          · intro i hi ih3 μ3 fr3 c3
            have k3 : Kp μ μ3 := fun c hc => by
              rw [fr3 c (by have := isP_c hc; omega)]
              exact k12 c hc
            have e11 : μ3 11 0 = n := by rw [k3 11 rfl]; exact hm
            refine g64 _ _ _ _ ⟨fun h' => absurd h' (by omega), fun _ => ⟨by omega, by omega, ?_⟩⟩
            rw [tn, wrap_id (by omega) (by omega), fr3 103 (by decide), e103, hq i hi]
            intro μ4 h4 y hy
            rw [hy, ← cs]
            refine ih3 μ4 (fun c hc => by rw [h4, wr_ne hc]; exact fr3 c hc) (fun j hj => ?_)
            rw [h4]
            by_cases e : j = i
            · rw [e, wr_s]
            · rw [wr_i e]; exact c3 j (by omega)
        unfold b_X11_goOver_46
        refine ⟨fun hneg => cpy ?_, fun hnn => ⟨fun hle => ?_, fun hgt => cpy ?_⟩⟩
        · rcases hx with ⟨a, b⟩ | ⟨a, b⟩ <;> omega
        · refine on μ2 x m k12 (fun i hi => by rw [e103]; exact hq i hi) hx ?_
          rw [e104]
          exact hC.keep h8 hV hP rfl hu (by rcases hx with ⟨a, b⟩ | ⟨a, b⟩ <;> omega)
        · rcases hx with ⟨a, b⟩ | ⟨a, b⟩ <;> omega
  refine m_first hm h8 ?_
  intro μ1 fr1 c1
  refine main (8 ^ n) μ1 (fun i => i) (-1) 1000000000 (by omega) (fun c hc => fr1 c (by have := isP_c hc; omega)) (Pm.id n) c1 (Or.inl ⟨rfl, rfl⟩) ?_
  refine Cl.init.skip (by omega) (fun p u hpp h1 h2 h3 h4 => ?_)
  have := min_inc (o := fun i => i) (p := p) (a := 0) h8 (Pm.id n) hpp (fun i _ _ => by omega) (fun i hi => by omega)
  omega
