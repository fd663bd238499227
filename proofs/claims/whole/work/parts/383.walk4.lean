/-! Two works: the other side's table, drawn onwards; walk. -/
def Wk (W : Nat → Nat → Int) (p q r z : Nat → Int) (A B x y : Nat) (f : Nat → Int) : Prop :=
  (∀ a b, a ≤ A → b ≤ B → imin (W a b) 100000 ≤ f (121 * a + b) ∧ f (121 * a + b) ≤ 100000) ∧ f 0 ≤ 0 ∧
  (∀ a b, a ≤ A → b ≤ B → (a < x ∨ (a = x ∧ b < y)) → (a < A → p a ≠ z b → f (121 * (a + 1) + b) ≤ imin (W a b) 100000 + 1) ∧ (b < B → r b ≠ q a → f (121 * a + (b + 1)) ≤ imin (W a b) 100000 + 1) ∧ (a < A → b < B → p a ≠ r b → f (121 * (a + 1) + (b + 1)) ≤ imin (W a b) 100000 + 1))
theorem Wk.now {W : Nat → Nat → Int} {p q r z : Nat → Int} {A B x y : Nat} {f : Nat → Int} (h : Wk W p q r z A B x y f) (We : ∀ x y, W x y = wc p q r z x y (W (x - 1) y) (W x (y - 1)) (W (x - 1) (y - 1))) (hx : x ≤ A) (hy : y ≤ B) : f (121 * x + y) = imin (W x y) 100000 := by
  have l := h.1 x y hx hy
  have u : f (121 * x + y) ≤ W x y := by
    rw [We x y]
    refine wc_ge (fun e1 e2 => ?_) l.2 (fun h1 h2 => ?_) (fun h1 h2 => ?_) (fun h1 h2 h3 => ?_)
    · rw [e1, e2]; exact h.2.1
    · have := (h.2.2 (x - 1) y (by omega) hy (Or.inl (by omega))).1 (by omega) h2
      rw [show x - 1 + 1 = x by omega] at this
      exact this
    · have := (h.2.2 x (y - 1) hx (by omega) (Or.inr ⟨rfl, by omega⟩)).2.1 (by omega) h2
      rw [show y - 1 + 1 = y by omega] at this
      exact this
    · have := (h.2.2 (x - 1) (y - 1) (by omega) (by omega) (Or.inl (by omega))).2.2 (by omega) (by omega) h3
      rw [show x - 1 + 1 = x by omega, show y - 1 + 1 = y by omega] at this
      exact this
  have d := imin_d (W x y) 100000
  omega
theorem Wk.row {W : Nat → Nat → Int} {p q r z : Nat → Int} {A B x : Nat} {f : Nat → Int} (h : Wk W p q r z A B x (B + 1) f) : Wk W p q r z A B (x + 1) 0 f := by
  refine ⟨h.1, h.2.1, fun a b ha hb hd => h.2.2 a b ha hb ?_⟩
  rcases hd with c | ⟨_, c⟩
  · by_cases e : a = x
    · exact Or.inr ⟨e, by omega⟩
    · exact Or.inl (by omega)
  · omega
theorem Wk.step {W : Nat → Nat → Int} {p q r z : Nat → Int} {A B x y : Nat} {f f' : Nat → Int} (h : Wk W p q r z A B x y f) (hle : ∀ t, f' t ≤ f t) (hlb : ∀ a b, a ≤ A → b ≤ B → imin (W a b) 100000 ≤ f' (121 * a + b)) (h1 : x < A → p x ≠ z y → f' (121 * (x + 1) + y) ≤ imin (W x y) 100000 + 1) (h2 : y < B → r y ≠ q x → f' (121 * x + (y + 1)) ≤ imin (W x y) 100000 + 1) (h3 : x < A → y < B → p x ≠ r y → f' (121 * (x + 1) + (y + 1)) ≤ imin (W x y) 100000 + 1) : Wk W p q r z A B x (y + 1) f' := by
  refine ⟨fun a b ha hb => ⟨hlb a b ha hb, Int.le_trans (hle _) (h.1 a b ha hb).2⟩, Int.le_trans (hle 0) h.2.1, fun a b ha hb hd => ?_⟩
  by_cases e : a = x ∧ b = y
  · rw [e.1, e.2]; exact ⟨h1, h2, h3⟩
  · have o := h.2.2 a b ha hb (by omega)
    exact ⟨fun c1 c2 => Int.le_trans (hle _) (o.1 c1 c2), fun c1 c2 => Int.le_trans (hle _) (o.2.1 c1 c2), fun c1 c2 c3 => Int.le_trans (hle _) (o.2.2 c1 c2 c3)⟩
/-- both can be done, one after the other -/
theorem wt_end {p q r z : Nat → Int} {A : Nat} (hz : z 0 = -1) (hq : q A = -1) (hp : ∀ t, t < A → 0 ≤ p t) {B : Nat} (hr : ∀ t, t < B → 0 ≤ r t) : wt p q r z A B ≤ A + B := by
  have a : ∀ x : Nat, x ≤ A → wt p q r z x 0 ≤ x := by
    intro x
    induction x with
    | zero => intro _; rw [wt_eq]; unfold wc; rw [if_pos ⟨rfl, rfl⟩]; decide
    | succ x ih =>
      intro hx
      have i1 := ih (by omega)
      have p1 := hp x (by omega)
      have := (wc_le (p := p) (q := q) (r := r) (z := z) (x := x + 1) (y := 0) (a := wt p q r z x 0) (b := wt p q r z (x + 1) (0 - 1)) (c := wt p q r z x (0 - 1))).1 (by omega) (by rw [Nat.add_sub_cancel, hz]; omega)
      rw [wt_eq]
      rw [Nat.add_sub_cancel]
      omega
  have b : ∀ y : Nat, y ≤ B → wt p q r z A y ≤ A + y := by
    intro y
    induction y with
    | zero => intro _; have := a A (Nat.le_refl A); omega
    | succ y ih =>
      intro hy
      have i1 := ih (by omega)
      have p1 := hr y (by omega)
      have := (wc_le (p := p) (q := q) (r := r) (z := z) (x := A) (y := y + 1) (a := wt p q r z (A - 1) (y + 1)) (b := wt p q r z A y) (c := wt p q r z (A - 1) y)).2.1 (by omega) (by rw [Nat.add_sub_cancel, hq]; omega)
      rw [wt_eq]
      rw [Nat.add_sub_cancel]
      omega
  exact b B (Nat.le_refl B)
theorem m_walk {μ : Mem} {s0 s1 : Nat} {b0 b1 : Nat → Int} {m0 m1 : Nat → Nat} {p q r z : Nat → Int} (z0 : μ 101 0 = s0) (z1 : μ 101 1 = s1) (h60 : s0 ≤ 6) (h61 : s1 ≤ 6) (hb0 : ∀ i, i < s0 → μ 100 (12 * 0 + 2 * i) = b0 i) (hb1 : ∀ i, i < s1 → μ 100 (12 * 1 + 2 * i) = b1 i) (hm0 : ∀ i, i < s0 → μ 100 (12 * 0 + 2 * i + 1) = m0 i ∧ m0 i ≤ 20) (hm1 : ∀ i, i < s1 → μ 100 (12 * 1 + 2 * i + 1) = m1 i ∧ m1 i ≤ 20) (nn0 : ∀ i, i < s0 → 0 ≤ b0 i) (nn1 : ∀ i, i < s1 → 0 ≤ b1 i) (lo0 : LO b0 m0 s0 p q) (lo1 : LO b1 m1 s1 r z) {Post : Pst} (hp : ∀ M : Mem, (∀ c, c ≠ 109 → M c = μ c) → Post (wt p q r z (ps m0 s0) (ps m1 s1)) M) : wp_X11_walk μ Post := by
  unfold wp_X11_walk
  intro G14 G22 G67 G75 g14 g22 g67 g75
  unfold b_X11_walk_e
  refine m_all (k := 0) (by decide) z0 h60 hm0 (m_all (k := 1) (by decide) z1 h61 hm1 ?_)
  have bA := ps_bd (m := m0) (s := s0) (fun i hi => (hm0 i hi).2)
  have bB := ps_bd (m := m1) (s := s1) (fun i hi => (hm1 i hi).2)
  have hld0 : ∀ t, t ≤ ps m0 s0 → q t = -1 ∨ (t < ps m0 s0 ∧ q t = p t) := fun t ht => lo0.held ht
  have hld1 : ∀ t, t ≤ ps m1 s1 → z t = -1 ∨ (t < ps m1 s1 ∧ z t = r t) := fun t ht => lo1.held ht
  have np : ∀ t, t < ps m0 s0 → 0 ≤ p t := fun t ht => lo0.nn nn0 ht
  have nr : ∀ t, t < ps m1 s1 → 0 ≤ r t := fun t ht => lo1.nn nn1 ht
  have we : wt p q r z (ps m0 s0) (ps m1 s1) ≤ ((ps m0 s0 : Nat) : Int) + ((ps m1 s1 : Nat) : Int) := wt_end (lo1.2.2 0 (Nat.zero_le _)) (lo0.2.2 s0 (Nat.le_refl _)) np nr
  have B0 : ∀ (M : Mem), (∀ c, c ≠ 109 → M c = μ c) → ∀ (t : Nat) (Po : Pst), t < ps m0 s0 → Po (p t) M → wp_X11_benchAt M 0 (t : Int) Po := fun M fr t Po ht hP => m_benchAt (k := 0) (by decide) h60 (fun i hi => by rw [fr 100 (by decide)]; exact hb0 i hi) (fun i hi => by rw [fr 100 (by decide)]; exact hm0 i hi) lo0 ht hP
  have B1 : ∀ (M : Mem), (∀ c, c ≠ 109 → M c = μ c) → ∀ (t : Nat) (Po : Pst), t < ps m1 s1 → Po (r t) M → wp_X11_benchAt M 1 (t : Int) Po := fun M fr t Po ht hP => m_benchAt (k := 1) (by decide) h61 (fun i hi => by rw [fr 100 (by decide)]; exact hb1 i hi) (fun i hi => by rw [fr 100 (by decide)]; exact hm1 i hi) lo1 ht hP
  have H0 : ∀ (M : Mem), (∀ c, c ≠ 109 → M c = μ c) → ∀ (t : Nat) (Po : Pst), t ≤ ps m0 s0 → Po (q t) M → wp_X11_heldAt M 0 (t : Int) Po := fun M fr t Po ht hP => m_heldAt (k := 0) (by decide) (by rw [fr 101 (by decide)]; exact z0) h60 (fun i hi => by rw [fr 100 (by decide)]; exact hb0 i hi) (fun i hi => by rw [fr 100 (by decide)]; exact hm0 i hi) lo0 ht hP
  have H1 : ∀ (M : Mem), (∀ c, c ≠ 109 → M c = μ c) → ∀ (t : Nat) (Po : Pst), t ≤ ps m1 s1 → Po (z t) M → wp_X11_heldAt M 1 (t : Int) Po := fun M fr t Po ht hP => m_heldAt (k := 1) (by decide) (by rw [fr 101 (by decide)]; exact z1) h61 (fun i hi => by rw [fr 100 (by decide)]; exact hb1 i hi) (fun i hi => by rw [fr 100 (by decide)]; exact hm1 i hi) lo1 ht hP
  obtain ⟨A, hA⟩ : ∃ A, A = ps m0 s0 := ⟨_, rfl⟩
  obtain ⟨B, hB⟩ : ∃ B, B = ps m1 s1 := ⟨_, rfl⟩
  rw [← hA] at hld0 np B0 H0 bA
  rw [← hB] at hld1 nr B1 H1 bB
  rw [← hA, ← hB] at we hp
  rw [← hA, ← hB]
  obtain ⟨W, hW⟩ : ∃ W, W = wt p q r z := ⟨_, rfl⟩
  rw [← hW] at we hp
  have We : ∀ x y, W x y = wc p q r z x y (W (x - 1) y) (W x (y - 1)) (W (x - 1) (y - 1)) := fun x y => by rw [hW]; exact wt_eq x y
  have Wb : ∀ x y, 0 ≤ W x y ∧ W x y ≤ 1000000000 := fun x y => by rw [hW]; exact wt_bd x y
  have W00 : W 0 0 = 0 := by rw [We]; unfold wc; rw [if_pos ⟨rfl, rfl⟩]
  -- the table, place by place
  have main : ∀ M : Mem, (∀ c, c ≠ 109 → M c = μ c) → Wk W p q r z A B 0 0 (M 109) → G67 M (A : Int) (B : Int) ((0 : Nat) : Int) := by
    refine upTo (P := fun x => ∀ M : Mem, (∀ c, c ≠ 109 → M c = μ c) → Wk W p q r z A B x 0 (M 109) → G67 M (A : Int) (B : Int) (x : Int)) (n := A + 1) ?_ ?_
    · intro M fr wk
      refine g67 _ _ _ _ ⟨fun _ => ?_, fun h' => absurd h' (by omega)⟩
      have e : True → wrap (wrap (121 * (A : Int)) + (B : Int)) = ((121 * A + B : Nat) : Int) := fun _ => by
        rw [wrap_id (x := 121 * (A : Int)) (by omega) (by omega), wrap_id (by omega) (by omega)]; omega
      rw [e trivial, tn]
      refine ⟨by omega, ?_⟩
      have l := wk.1 A B (Nat.le_refl _) (Nat.le_refl _)
      have eq : M 109 (121 * A + B) = W A B := by
        have d := imin_d (W A B) 100000
        have u : M 109 (121 * A + B) ≤ W A B := by
          rw [We A B]
          refine wc_ge (fun e1 e2 => ?_) l.2 (fun h1 h2 => ?_) (fun h1 h2 => ?_) (fun h1 h2 h3 => ?_)
          · rw [e1, e2]; exact wk.2.1
          · have := (wk.2.2 (A - 1) B (by omega) (Nat.le_refl _) (Or.inl (by omega))).1 (by omega) h2
            rw [show A - 1 + 1 = A by omega] at this
            exact this
          · have := (wk.2.2 A (B - 1) (Nat.le_refl _) (by omega) (Or.inl (by omega))).2.1 (by omega) h2
            rw [show B - 1 + 1 = B by omega] at this
            exact this
          · have := (wk.2.2 (A - 1) (B - 1) (by omega) (by omega) (Or.inl (by omega))).2.2 (by omega) (by omega) h3
            rw [show A - 1 + 1 = A by omega, show B - 1 + 1 = B by omega] at this
            exact this
        omega
      rw [eq]
      exact hp M fr
    · intro x hx ih M fr wk
      refine g67 _ _ _ _ ⟨fun h' => absurd h' (by omega), fun _ => ?_⟩
      refine upTo (P := fun y => ∀ M : Mem, (∀ c, c ≠ 109 → M c = μ c) → Wk W p q r z A B x y (M 109) → G75 M (A : Int) (B : Int) (x : Int) (y : Int)) (n := B + 1) ?_ ?_ M fr wk
      · intro M fr wk
        refine g75 _ _ _ _ _ ⟨fun _ => ?_, fun h' => absurd h' (by omega)⟩
        rw [wrap_id (by omega) (by omega), ← cs]
        rintro _ rfl
        exact ih M fr wk.row
      · intro y hy ihy M fr wk
        have now := wk.now We (show x ≤ A by omega) (show y ≤ B by omega)
        have dn := imin_d (W x y) 100000
        have wb := Wb x y
        have e : True → wrap (wrap (121 * (x : Int)) + (y : Int)) = ((121 * x + y : Nat) : Int) := fun _ => by
          rw [wrap_id (x := 121 * (x : Int)) (by omega) (by omega), wrap_id (by omega) (by omega)]; omega
        have i1 : True → wrap (wrap (wrap (121 * (x : Int)) + 121) + (y : Int)) = ((121 * (x + 1) + y : Nat) : Int) := fun _ => by
          rw [wrap_id (x := 121 * (x : Int)) (by omega) (by omega), wrap_id (x := 121 * (x : Int) + 121) (by omega) (by omega), wrap_id (by omega) (by omega)]; omega
        have i2 : True → wrap (((121 * x + y : Nat) : Int) + 1) = ((121 * x + (y + 1) : Nat) : Int) := fun _ => by
          rw [wrap_id (by omega) (by omega)]; omega
        have i3 : True → wrap (wrap (wrap (121 * (x : Int)) + 122) + (y : Int)) = ((121 * (x + 1) + (y + 1) : Nat) : Int) := fun _ => by
          rw [wrap_id (x := 121 * (x : Int)) (by omega) (by omega), wrap_id (x := 121 * (x : Int) + 122) (by omega) (by omega), wrap_id (by omega) (by omega)]; omega
        obtain ⟨v, hv⟩ : ∃ v, v = imin (W x y) 100000 + 1 := ⟨_, rfl⟩
        -- a place is lowered
        have upd : ∀ (M1 M2 : Mem) (a0 c0 : Nat), a0 ≤ A → c0 ≤ B → W a0 c0 ≤ W x y + 1 → (∀ c, c ≠ 109 → M1 c = μ c) → (∀ t, M1 109 t ≤ M 109 t) → (∀ a b, a ≤ A → b ≤ B → imin (W a b) 100000 ≤ M1 109 (121 * a + b)) → ¬ (M1 109 (121 * a0 + c0) ≤ v) → M2 = wr M1 109 (121 * a0 + c0) v → (∀ c, c ≠ 109 → M2 c = μ c) ∧ (∀ t, M2 109 t ≤ M1 109 t) ∧ (∀ t, M2 109 t ≤ M 109 t) ∧ (∀ a b, a ≤ A → b ≤ B → imin (W a b) 100000 ≤ M2 109 (121 * a + b)) ∧ M2 109 (121 * a0 + c0) ≤ v := by
          intro M1 M2 a0 c0 ha hc hw fr1 le1 lb1 hgt h2
          have at2 : ∀ t, M2 109 t = if t = 121 * a0 + c0 then v else M1 109 t := fun t => by rw [h2, wr_app, if_pos rfl]
          have le2 : ∀ t, M2 109 t ≤ M1 109 t := fun t => by
            rw [at2 t]
            by_cases et : t = 121 * a0 + c0
            · rw [if_pos et, et]; omega
            · rw [if_neg et]; exact Int.le_refl _
          refine ⟨fun c hc => by rw [h2, wr_ne hc]; exact fr1 c hc, le2, fun t => Int.le_trans (le2 t) (le1 t), fun a b ha' hb' => ?_, by rw [at2, if_pos rfl]; exact Int.le_refl _⟩
          rw [at2]
          by_cases et : 121 * a + b = 121 * a0 + c0
          · have ea : a = a0 := by omega
            have eb : b = c0 := by omega
            rw [if_pos et, ea, eb, hv]
            have d0 := imin_d (W a0 c0) 100000
            omega
          · rw [if_neg et]; exact lb1 a b ha' hb'
        have t0 : ∀ M' : Mem, (∀ c, c ≠ 109 → M' c = μ c) → Wk W p q r z A B x (y + 1) (M' 109) → b_X11_walk_311 G14 G22 G67 G75 Post M' (A : Int) (B : Int) (x : Int) (y : Int) := by
          intro M' fr' wk'
          unfold b_X11_walk_311
          rw [wrap_id (by omega) (by omega), ← cs]
          rintro _ rfl
          exact ihy M' fr' wk'
        have t3 : ∀ (M1 : Mem) (x8 : Int), (∀ c, c ≠ 109 → M1 c = μ c) → (∀ t, M1 109 t ≤ M 109 t) → (∀ a b, a ≤ A → b ≤ B → imin (W a b) 100000 ≤ M1 109 (121 * a + b)) → (x < A → p x ≠ z y → M1 109 (121 * (x + 1) + y) ≤ v) → (y < B → r y ≠ q x → M1 109 (121 * x + (y + 1)) ≤ v) → ((x8 = 0 ∧ ¬ (x < A ∧ y < B ∧ p x ≠ r y)) ∨ (x8 = 1 ∧ x < A ∧ y < B ∧ p x ≠ r y)) → b_X11_walk_269 G14 G22 G67 G75 Post M1 (A : Int) (B : Int) (x : Int) (y : Int) v x8 := by
          intro M1 x8 fr1 le1 lb1 e1 e2 h8
          unfold b_X11_walk_269
          rw [i3 trivial, tn]
          refine ⟨fun c0 => t0 M1 fr1 (wk.step le1 lb1 (by rw [← hv]; exact e1) (by rw [← hv]; exact e2) (fun c1 c2 c3 => ?_)), fun c0 => ?_⟩
          · rcases h8 with ⟨_, h8⟩ | ⟨h8, _⟩
            · exact absurd ⟨c1, c2, c3⟩ h8
            · omega
          · rcases h8 with ⟨h8, _⟩ | ⟨_, hxA, hyB, hne⟩
            · exact absurd h8 c0
            refine ⟨by omega, fun c1 => t0 M1 fr1 (wk.step le1 lb1 (by rw [← hv]; exact e1) (by rw [← hv]; exact e2) (fun _ _ _ => by rw [← hv]; exact c1)), fun c1 => ⟨by omega, ?_⟩⟩
            intro M2 h2
            have wle : W (x + 1) (y + 1) ≤ W x y + 1 := by
              have := (wc_le (p := p) (q := q) (r := r) (z := z) (x := x + 1) (y := y + 1) (a := W x (y + 1)) (b := W (x + 1) y) (c := W x y)).2.2 (by omega) (by omega) (by rw [Nat.add_sub_cancel, Nat.add_sub_cancel]; exact hne)
              rw [We (x + 1) (y + 1)]
              exact this
            obtain ⟨u1, u2, u3, u4, u5⟩ := upd M1 M2 (x + 1) (y + 1) (by omega) (by omega) wle fr1 le1 lb1 c1 h2
            exact t0 M2 u1 (wk.step u3 u4 (fun a1 a2 => by rw [← hv]; exact Int.le_trans (u2 _) (e1 a1 a2)) (fun a1 a2 => by rw [← hv]; exact Int.le_trans (u2 _) (e2 a1 a2)) (fun _ _ _ => by rw [← hv]; exact u5))
        have t2 : ∀ (M1 : Mem) (x7 x8 : Int), (∀ c, c ≠ 109 → M1 c = μ c) → (∀ t, M1 109 t ≤ M 109 t) → (∀ a b, a ≤ A → b ≤ B → imin (W a b) 100000 ≤ M1 109 (121 * a + b)) → (x < A → p x ≠ z y → M1 109 (121 * (x + 1) + y) ≤ v) → ((x7 = 0 ∧ ¬ (y < B ∧ r y ≠ q x)) ∨ (x7 = 1 ∧ y < B ∧ r y ≠ q x)) → ((x8 = 0 ∧ ¬ (x < A ∧ y < B ∧ p x ≠ r y)) ∨ (x8 = 1 ∧ x < A ∧ y < B ∧ p x ≠ r y)) → b_X11_walk_229 G14 G22 G67 G75 Post M1 (A : Int) (B : Int) (x : Int) (y : Int) v x7 x8 := by
          intro M1 x7 x8 fr1 le1 lb1 e1 h7 h8
          unfold b_X11_walk_229
          rw [e trivial, i2 trivial, tn]
          refine ⟨fun c0 => t3 M1 x8 fr1 le1 lb1 e1 (fun c1 c2 => ?_) h8, fun c0 => ?_⟩
          · rcases h7 with ⟨_, h7⟩ | ⟨h7, _⟩
            · exact absurd ⟨c1, c2⟩ h7
            · omega
          · rcases h7 with ⟨h7, _⟩ | ⟨_, hyB, hne⟩
            · exact absurd h7 c0
            refine ⟨by omega, fun c1 => t3 M1 x8 fr1 le1 lb1 e1 (fun _ _ => c1) h8, fun c1 => ⟨by omega, ?_⟩⟩
            intro M2 h2
            have wle : W x (y + 1) ≤ W x y + 1 := by
              have := (wc_le (p := p) (q := q) (r := r) (z := z) (x := x) (y := y + 1) (a := W (x - 1) (y + 1)) (b := W x y) (c := W (x - 1) y)).2.1 (by omega) (by rw [Nat.add_sub_cancel]; exact hne)
              rw [We x (y + 1)]
              exact this
            obtain ⟨u1, u2, u3, u4, u5⟩ := upd M1 M2 x (y + 1) (by omega) (by omega) wle fr1 le1 lb1 c1 h2
            exact t3 M2 x8 u1 u3 u4 (fun a1 a2 => Int.le_trans (u2 _) (e1 a1 a2)) (fun _ _ => u5) h8
        have t1 : ∀ (x6 x7 x8 : Int), ((x6 = 0 ∧ ¬ (x < A ∧ p x ≠ z y)) ∨ (x6 = 1 ∧ x < A ∧ p x ≠ z y)) → ((x7 = 0 ∧ ¬ (y < B ∧ r y ≠ q x)) ∨ (x7 = 1 ∧ y < B ∧ r y ≠ q x)) → ((x8 = 0 ∧ ¬ (x < A ∧ y < B ∧ p x ≠ r y)) ∨ (x8 = 1 ∧ x < A ∧ y < B ∧ p x ≠ r y)) → b_X11_walk_185 G14 G22 G67 G75 Post M (A : Int) (B : Int) (x : Int) (y : Int) v x6 x7 x8 := by
          intro x6 x7 x8 h6 h7 h8
          have lb : ∀ a b, a ≤ A → b ≤ B → imin (W a b) 100000 ≤ M 109 (121 * a + b) := fun a b ha hb => (wk.1 a b ha hb).1
          unfold b_X11_walk_185
          rw [i1 trivial, tn]
          refine ⟨fun c0 => t2 M x7 x8 fr (fun _ => Int.le_refl _) lb (fun c1 c2 => ?_) h7 h8, fun c0 => ?_⟩
          · rcases h6 with ⟨_, h6⟩ | ⟨h6, _⟩
            · exact absurd ⟨c1, c2⟩ h6
            · omega
          · rcases h6 with ⟨h6, _⟩ | ⟨_, hxA, hne⟩
            · exact absurd h6 c0
            refine ⟨by omega, fun c1 => t2 M x7 x8 fr (fun _ => Int.le_refl _) lb (fun _ _ => c1) h7 h8, fun c1 => ⟨by omega, ?_⟩⟩
            intro M2 h2
            have wle : W (x + 1) y ≤ W x y + 1 := by
              have := (wc_le (p := p) (q := q) (r := r) (z := z) (x := x + 1) (y := y) (a := W x y) (b := W (x + 1) (y - 1)) (c := W x (y - 1))).1 (by omega) (by rw [Nat.add_sub_cancel]; exact hne)
              rw [We (x + 1) y]
              exact this
            obtain ⟨u1, u2, u3, u4, u5⟩ := upd M M2 (x + 1) y (by omega) (by omega) wle fr (fun _ => Int.le_refl _) lb c1 h2
            exact t2 M2 x7 x8 u1 u3 u4 (fun _ _ => u5) h7 h8
        have q3 : ∀ (x6 x7 : Int), ((x6 = 0 ∧ ¬ (x < A ∧ p x ≠ z y)) ∨ (x6 = 1 ∧ x < A ∧ p x ≠ z y)) → ((x7 = 0 ∧ ¬ (y < B ∧ r y ≠ q x)) ∨ (x7 = 1 ∧ y < B ∧ r y ≠ q x)) → b_X11_walk_152 G14 G22 G67 G75 Post M (A : Int) (B : Int) (x : Int) (y : Int) v x6 x7 := by
          intro x6 x7 h6 h7
          unfold b_X11_walk_152 b_X11_walk_184
          refine ⟨fun c0 => t1 x6 x7 0 h6 h7 (Or.inl ⟨rfl, fun hh => ?_⟩), fun c0 => ⟨fun c1 => t1 x6 x7 0 h6 h7 (Or.inl ⟨rfl, fun hh => ?_⟩), fun c1 => ?_⟩⟩
          · rcases h6 with ⟨_, h6⟩ | ⟨h6, _⟩
            · refine h6 ⟨hh.1, fun ee => ?_⟩
              have n1 := np x hh.1
              rcases hld1 y (by omega) with z1' | ⟨_, z1'⟩
              · omega
              · exact hh.2.2 (by rw [ee, z1'])
            · omega
          · rcases h7 with ⟨_, h7⟩ | ⟨h7, _⟩
            · refine h7 ⟨hh.2.1, fun ee => ?_⟩
              have n1 := nr y hh.2.1
              rcases hld0 x (by omega) with z1' | ⟨_, z1'⟩
              · omega
              · exact hh.2.2 (by rw [ee, z1'])
            · omega
          · have hxA : x < A := by
              rcases h6 with ⟨h6, _⟩ | ⟨_, h6, _⟩
              · exact absurd h6 c0
              · exact h6
            have hyB : y < B := by
              rcases h7 with ⟨h7, _⟩ | ⟨_, h7, _⟩
              · exact absurd h7 c1
              · exact h7
            refine B0 M fr x _ hxA (B1 M fr y _ hyB ⟨fun ee => t1 x6 x7 0 h6 h7 (Or.inl ⟨rfl, fun hh => hh.2.2 ee⟩), fun ee => t1 x6 x7 1 h6 h7 (Or.inr ⟨rfl, hxA, hyB, ee⟩)⟩)
        have q2 : ∀ (x6 : Int), ((x6 = 0 ∧ ¬ (x < A ∧ p x ≠ z y)) ∨ (x6 = 1 ∧ x < A ∧ p x ≠ z y)) → b_X11_walk_123 G14 G22 G67 G75 Post M (A : Int) (B : Int) (x : Int) (y : Int) v x6 := by
          intro x6 h6
          unfold b_X11_walk_123 b_X11_walk_151
          refine ⟨fun c0 => q3 x6 0 h6 (Or.inl ⟨rfl, fun hh => by omega⟩), fun c0 => ?_⟩
          refine B1 M fr y _ (by omega) (H0 M fr x _ (by omega) ⟨fun ee => q3 x6 0 h6 (Or.inl ⟨rfl, fun hh => hh.2 ee⟩), fun ee => q3 x6 1 h6 (Or.inr ⟨rfl, by omega, ee⟩)⟩)
        refine g75 _ _ _ _ _ ⟨fun h' => absurd h' (by omega), fun _ => ?_⟩
        rw [e trivial, tn, now, wrap_id (by omega) (by omega), ← hv]
        refine ⟨by omega, ?_⟩
        rintro _ rfl
        unfold b_X11_walk_122
        refine ⟨fun c0 => q2 0 (Or.inl ⟨rfl, fun hh => by omega⟩), fun c0 => ?_⟩
        refine B0 M fr x _ (by omega) (H1 M fr y _ (by omega) ⟨fun ee => q2 0 (Or.inl ⟨rfl, fun hh => hh.2 ee⟩), fun ee => q2 1 (Or.inr ⟨rfl, by omega, ee⟩)⟩)
  -- the table's beginning
  refine upTo (P := fun x => ∀ M : Mem, (∀ c, c ≠ 109 → M c = μ c) → (∀ a b, a < x → b ≤ B → M 109 (121 * a + b) = if a + b = 0 then 0 else 100000) → G14 M (A : Int) (B : Int) (x : Int)) (n := A + 1) ?_ ?_ μ (fun _ _ => rfl) (fun a b ha => absurd ha (by omega))
  · intro M fr c1
    refine g14 _ _ _ _ ⟨fun _ => main M fr ⟨fun a b ha hb => ?_, ?_, fun a b ha hb hd => by omega⟩, fun h' => absurd h' (by omega)⟩
    · rw [c1 a b (by omega) hb]
      have d := imin_d (W a b) 100000
      by_cases ee : a + b = 0
      · have ea : a = 0 := by omega
        have eb : b = 0 := by omega
        rw [if_pos ee]
        rw [ea, eb, W00] at d ⊢
        omega
      · rw [if_neg ee]; omega
    · have := c1 0 0 (by omega) (Nat.zero_le B)
      rw [if_pos rfl] at this
      have t : M 109 0 = 0 := this
      rw [t]
      exact Int.le_refl 0
  · intro x hx ih M fr c1
    refine g14 _ _ _ _ ⟨fun h' => absurd h' (by omega), fun _ => ?_⟩
    refine upTo (P := fun y => ∀ M : Mem, (∀ c, c ≠ 109 → M c = μ c) → (∀ a b, a < x → b ≤ B → M 109 (121 * a + b) = if a + b = 0 then 0 else 100000) → (∀ b, b < y → M 109 (121 * x + b) = if x + b = 0 then 0 else 100000) → G22 M (A : Int) (B : Int) (x : Int) (y : Int)) (n := B + 1) ?_ ?_ M fr c1 (fun b hb => absurd hb (by omega))
    · intro M fr c1 c2
      refine g22 _ _ _ _ _ ⟨fun _ => ?_, fun h' => absurd h' (by omega)⟩
      rw [wrap_id (by omega) (by omega), ← cs]
      rintro _ rfl
      refine ih M fr (fun a b ha hb => ?_)
      by_cases ee : a = x
      · rw [ee]; exact c2 b (by omega)
      · exact c1 a b (by omega) hb
    · intro y hy ihy M fr c1 c2
      have e : True → wrap (wrap (121 * (x : Int)) + (y : Int)) = ((121 * x + y : Nat) : Int) := fun _ => by
        rw [wrap_id (x := 121 * (x : Int)) (by omega) (by omega), wrap_id (by omega) (by omega)]; omega
      have wrt : ∀ u : Int, u = (if x + y = 0 then 0 else 100000) → b_X11_walk_52 G14 G22 G67 G75 Post M (A : Int) (B : Int) (x : Int) (y : Int) ((121 * x + y : Nat) : Int) u := by
        intro u hu
        unfold b_X11_walk_52
        rw [tn, wrap_id (by omega) (by omega), ← cs]
        refine ⟨by omega, ?_⟩
        rintro M2 h2 _ rfl
        have at2 : ∀ t, M2 109 t = if t = 121 * x + y then u else M 109 t := fun t => by rw [h2, wr_app, if_pos rfl]
        refine ihy M2 (fun c hc => by rw [h2, wr_ne hc]; exact fr c hc) (fun a b ha hb => ?_) (fun b hb => ?_)
        · rw [at2, if_neg (by omega)]; exact c1 a b ha hb
        · rw [at2]
          by_cases ee : b = y
          · rw [ee, if_pos rfl]; exact hu
          · rw [if_neg (by omega)]; exact c2 b (by omega)
      refine g22 _ _ _ _ _ ⟨fun h' => absurd h' (by omega), fun _ => ?_⟩
      rw [e trivial, wrap_id (by omega) (by omega)]
      refine ⟨fun c => wrt _ ?_, fun c => wrt _ ?_⟩
      · rw [if_neg (by omega)]
      · rw [if_pos (by omega)]
theorem o_walk {μ : Mem} (hI : Inv μ) : wp_X10_walk μ (fun r μ1 => wp_X11_walk μ1 (Ok r)) := by
  obtain ⟨s0, b0, m0, a1, a2, a3, a4, a5, a6, a7, a8⟩ := hI.s (k := 0) (by decide)
  obtain ⟨s1, b1, m1, d1, d2, d3, d4, d5, d6, d7, d8⟩ := hI.s (k := 1) (by decide)
  unfold wp_X10_walk b_X10_walk_e
  refine k_walk a1 d1 a3 d3 a4 d4 a5 d5 (fun M kM p q r z lo0 lo1 => ?_)
  refine m_walk (b0 := b0) (b1 := b1) (m0 := m0) (m1 := m1) (by rw [kM 101 rfl]; exact a2) (by rw [kM 101 rfl]; exact d2) a3 d3 (fun i hi => by rw [kM 100 rfl]; exact a6 i hi) (fun i hi => by rw [kM 100 rfl]; exact d6 i hi) (fun i hi => by rw [kM 100 rfl]; exact a7 i hi) (fun i hi => by rw [kM 100 rfl]; exact d7 i hi) a8 d8 lo0 lo1 (fun M2 fr2 => ⟨rfl, hI.kp (kM.tr (fun c hc => fr2 c (by have := isP_c hc; omega)))⟩)
