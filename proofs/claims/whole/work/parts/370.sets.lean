/-! Least minutes: sets of works done, ways from one to another, and what the tables hold of them. -/
def sbs (A B : Nat) : Prop := ∀ u, A.testBit u = true → B.testBit u = true
theorem bit_lt {A N u : Nat} (h : A < 2 ^ N) (hu : A.testBit u = true) : u < N := by
  refine Nat.lt_of_not_le (fun hle => ?_)
  have : A < 2 ^ u := Nat.lt_of_lt_of_le h (Nat.pow_le_pow_right (by decide) hle)
  rw [Nat.testBit_lt_two_pow this] at hu
  cases hu
theorem sbs.lt {A B N : Nat} (h : sbs A B) (hB : B < 2 ^ N) : A < 2 ^ N := lt_of_bits (fun u hu => bit_lt hB (h u hu))
theorem sbs.le {A B : Nat} (h : sbs A B) : A ≤ B := by
  have e : A &&& B = A := by
    apply Nat.eq_of_testBit_eq
    intro u
    rw [Nat.testBit_and]
    cases hc : A.testBit u with
    | false => rfl
    | true => rw [h u hc]; rfl
  rw [← e]
  exact Nat.and_le_right
theorem or_le {A B : Nat} : A ≤ A ||| B := sbs.le (fun u hu => by rw [Nat.testBit_or, hu]; rfl)
theorem cdn_add {X w : Nat} (h : X.testBit w = false) (i : Nat) : cdn (X ||| 2 ^ w) i = cdn X i + (if w < i then 1 else 0) := by
  induction i with
  | zero => rfl
  | succ i ih =>
    unfold cdn
    rw [ih, Nat.testBit_or, Nat.testBit_two_pow]
    by_cases e : w = i
    · subst e
      rw [h]
      simp
    · rw [decide_eq_false e, Bool.or_false]
      by_cases c : w < i
      · rw [if_pos c, if_pos (show w < i + 1 by omega)]; omega
      · rw [if_neg c, if_neg (show ¬ w < i + 1 by omega)]; omega
theorem cdn_zero {A : Nat} (hA : A < 4096) (h : cdn A 12 = 0) : A = 0 := by
  apply Nat.eq_of_testBit_eq
  intro u
  rw [Nat.zero_testBit]
  cases hc : A.testBit u with
  | false => rfl
  | true =>
    have hu : u < 12 := bit_lt (N := 12) hA hc
    have := cdn_lt (S := 0) (X := A) (fun v hv => by rw [Nat.zero_testBit] at hv; cases hv) hu (Nat.zero_testBit u) hc
    omega
theorem cdn_00 : cdn 0 12 = 0 := by decide
/-- so many of F, some of them given -/
theorem grow_to {F m : Nat} (hF : F < 4096) (hm : m ≤ cdn F 12) (k : Nat) : ∀ X, sbs X F → cdn X 12 ≤ m → m ≤ cdn X 12 + k → ∃ A, sbs X A ∧ sbs A F ∧ cdn A 12 = m := by
  induction k with
  | zero => intro X h1 h2 h3; exact ⟨X, fun u hu => hu, h1, by omega⟩
  | succ k ih =>
    intro X h1 h2 h3
    by_cases c : cdn X 12 = m
    · exact ⟨X, fun u hu => hu, h1, c⟩
    · have : ∃ w, F.testBit w = true ∧ X.testBit w = false := by
        refine Classical.byContradiction fun hx => ?_
        have := cdn_mono (S := F) (X := X) (fun u hu => by
          cases hc : X.testBit u with
          | true => rfl
          | false => exact absurd ⟨u, hu, hc⟩ hx) 12
        omega
      obtain ⟨w, w1, w2⟩ := this
      have hw : w < 12 := bit_lt (N := 12) hF w1
      have ca := cdn_add w2 12
      rw [if_pos hw] at ca
      obtain ⟨A, a1, a2, a3⟩ := ih (X ||| 2 ^ w) (fun u hu => by
        rw [Nat.testBit_or, Nat.testBit_two_pow, Bool.or_eq_true, decide_eq_true_eq] at hu
        rcases hu with hu | hu
        · exact h1 u hu
        · rw [← hu]; exact w1) (by omega) (by omega)
      exact ⟨A, fun u hu => a1 u (by rw [Nat.testBit_or, hu]; rfl), a2, a3⟩
def pth (E : Nat → Nat → Prop) : Nat → Nat → Prop
  | 0, T => T = 0
  | v + 1, T => ∃ S, pth E v S ∧ E S T
/-- what is tried: as many as can be; so many at most -/
def Ec (h : Nat → Int) (N q S T : Nat) : Prop := ∃ A, sbs A (FB h N S) ∧ cdn A 12 = min q (cdn (FB h N S) 12) ∧ T = S ||| A
def Er (h : Nat → Int) (N q S T : Nat) : Prop := ∃ A, sbs A (FB h N S) ∧ cdn A 12 ≤ q ∧ T = S ||| A
theorem Ec.r {h : Nat → Int} {N q S T : Nat} (e : Ec h N q S T) : Er h N q S T := by
  obtain ⟨A, a1, a2, a3⟩ := e
  exact ⟨A, a1, by rw [a2]; exact Nat.min_le_left _ _, a3⟩
theorem Er.le {h : Nat → Int} {N q S T : Nat} (e : Er h N q S T) : S ≤ T := by
  obtain ⟨A, a1, a2, a3⟩ := e
  rw [a3]; exact or_le
theorem pth_r {h : Nat → Int} {N q : Nat} (v : Nat) : ∀ T, pth (Ec h N q) v T → pth (Er h N q) v T := by
  induction v with
  | zero => intro T e; exact e
  | succ v ih =>
    rintro T ⟨S, p, e⟩
    exact ⟨S, ih S p, e.r⟩
theorem pth_lt {h : Nat → Int} {N q : Nat} (v : Nat) : ∀ T, pth (Er h N q) v T → T < 2 ^ N := by
  induction v with
  | zero => intro T e; rw [show T = 0 from e]; exact Nat.pow_pos (by decide)
  | succ v ih =>
    rintro T ⟨S, p, A, a1, a2, a3⟩
    rw [a3]
    exact Nat.or_lt_two_pow (ih S p) (a1.lt FB_lt)
theorem pth_dom {h : Nat → Int} {N q : Nat} (h12 : N ≤ 12) (hb : ∀ j, j < N → -1 ≤ h j) (v : Nat) : ∀ T, pth (Er h N q) v T → ∃ T', sbs T T' ∧ pth (Ec h N q) v T' := by
  induction v with
  | zero => intro T e; exact ⟨T, fun u hu => hu, e⟩
  | succ v ih =>
    rintro T ⟨S, p, A, a1, a2, a3⟩
    obtain ⟨S', s1, p'⟩ := ih S p
    have hX : sbs (ndf A S') (FB h N S') := fun u hu => by
      rw [ndf_bit, Bool.and_eq_true, Bool.not_eq_true'] at hu
      obtain ⟨f1, f2, f3⟩ := (FB_bit hb).mp (a1 u hu.1)
      exact (FB_bit hb).mpr ⟨f1, hu.2, fun j hj e => s1 j (f3 j hj e)⟩
    have hle : cdn (ndf A S') 12 ≤ cdn A 12 := cdn_mono (fun u hu => by
      rw [ndf_bit, Bool.and_eq_true] at hu
      exact hu.1) 12
    have hle2 := cdn_mono hX 12
    have hF : FB h N S' < 4096 := Nat.lt_of_lt_of_le FB_lt (pow12 h12)
    obtain ⟨A', b1, b2, b3⟩ := grow_to hF (Nat.min_le_right q (cdn (FB h N S') 12)) 12 (ndf A S') hX (by omega) (by have := cdn_le (FB h N S') 12; omega)
    refine ⟨S' ||| A', fun u hu => ?_, S', p', A', b2, b3, rfl⟩
    rw [a3, Nat.testBit_or, Bool.or_eq_true] at hu
    rw [Nat.testBit_or, Bool.or_eq_true]
    rcases hu with hu | hu
    · exact Or.inl (s1 u hu)
    · cases hc : S'.testBit u with
      | true => exact Or.inl rfl
      | false => exact Or.inr (b1 u (by rw [ndf_bit, hu, hc]; rfl))
/-- the table as it stands when x is next -/
def Stg (E : Nat → Nat → Prop) (L x : Nat) (f : Nat → Int) : Prop := (∀ T, T < L → 0 ≤ f T ∧ f T ≤ 100) ∧ f 0 = 0 ∧ (∀ S T, S < x → T < L → E S T → f T ≤ f S + 1) ∧ (∀ T, T < L → f T = 100 ∨ ∃ v : Nat, f T = v ∧ pth E v T)
theorem Stg.init {E : Nat → Nat → Prop} {L : Nat} {f : Nat → Int} (h0 : f 0 = 0) (h1 : ∀ T, T < L → T ≠ 0 → f T = 100) : Stg E L 0 f := by
  refine ⟨fun T hT => ?_, h0, fun S T hS => by omega, fun T hT => ?_⟩
  · by_cases c : T = 0
    · rw [c, h0]; decide
    · rw [h1 T hT c]; decide
  · by_cases c : T = 0
    · rw [c]; exact Or.inr ⟨0, h0, rfl⟩
    · exact Or.inl (h1 T hT c)
theorem Stg.pass {E : Nat → Nat → Prop} {L x : Nat} {f : Nat → Int} (h : Stg E L x f) (hx : f x = 100) : Stg E L (x + 1) f := by
  refine ⟨h.1, h.2.1, fun S T hS hT e => ?_, h.2.2.2⟩
  by_cases c : S = x
  · have := (h.1 T hT).2
    rw [c, hx]
    omega
  · exact h.2.2.1 S T (by omega) hT e
theorem Stg.step {E : Nat → Nat → Prop} {L x : Nat} {f f' : Nat → Int} (hE : ∀ S T, E S T → S ≤ T) (h : Stg E L x f) (hx : x < L) (hne : f x ≠ 100) (h1 : ∀ T, f' T ≤ f T) (h2 : ∀ T, f' T = f T ∨ (f' T = f x + 1 ∧ E x T)) (h3 : ∀ T, E x T → f' T ≤ f x + 1) : Stg E L (x + 1) f' := by
  have low : ∀ S, S < x → f' S = f S := fun S hS => by
    rcases h2 S with e | ⟨_, e⟩
    · exact e
    · have := hE x S e; omega
  have same : f' x = f x := by
    have := h1 x
    rcases h2 x with e | ⟨e, _⟩ <;> omega
  have rx := h.1 x hx
  refine ⟨fun T hT => ?_, ?_, fun S T hS hT e => ?_, fun T hT => ?_⟩
  · have := h.1 T hT
    rcases h2 T with e | ⟨e, _⟩ <;> omega
  · have h0 := h.2.1
    by_cases c : x = 0
    · rw [c] at same; omega
    · rw [low 0 (by omega)]; exact h0
  · by_cases c : S = x
    · rw [c, same]; rw [c] at e; exact h3 T e
    · rw [low S (by omega)]
      have := h.2.2.1 S T (by omega) hT e
      have := h1 T
      omega
  · rcases h2 T with e | ⟨e, ee⟩
    · rw [e]; exact h.2.2.2 T hT
    · rcases h.2.2.2 x hx with e1 | ⟨v, e1, p⟩
      · exact absurd e1 hne
      · exact Or.inr ⟨v + 1, by omega, x, p, ee⟩
theorem Stg.le {h : Nat → Int} {N q : Nat} {E : Nat → Nat → Prop} {f : Nat → Int} (hE : ∀ S T, E S T → S ≤ T) (g : Stg E (2 ^ N) (2 ^ N - 1) f) (v : Nat) : ∀ T, T < 2 ^ N → pth E v T → f T ≤ v := by
  induction v with
  | zero => intro T hT e; rw [show T = 0 from e, g.2.1]; decide
  | succ v ih =>
    rintro T hT ⟨S, p, e⟩
    have hS := hE S T e
    have i1 := ih S (by omega) p
    by_cases c : S < 2 ^ N - 1
    · have := g.2.2.1 S T c hT e
      omega
    · have : T = S := by omega
      rw [this]; omega
theorem sets_same {h : Nat → Int} {N q : Nat} {f g : Nat → Int} (h12 : N ≤ 12) (hb : ∀ j, j < N → -1 ≤ h j) (hf : Stg (Ec h N q) (2 ^ N) (2 ^ N - 1) f) (hg : Stg (Er h N q) (2 ^ N) (2 ^ N - 1) g) : f (2 ^ N - 1) = g (2 ^ N - 1) := by
  have p0 : 0 < 2 ^ N := Nat.pow_pos (by decide)
  have l1 : 2 ^ N - 1 < 2 ^ N := by omega
  have rf := hf.1 _ l1
  have rg := hg.1 _ l1
  have a : g (2 ^ N - 1) ≤ f (2 ^ N - 1) := by
    rcases hf.2.2.2 _ l1 with e | ⟨v, e, p⟩
    · omega
    · have := hg.le (h := h) (q := q) (fun S T e => e.le) v _ l1 (pth_r v _ p)
      omega
  have b : f (2 ^ N - 1) ≤ g (2 ^ N - 1) := by
    rcases hg.2.2.2 _ l1 with e | ⟨v, e, p⟩
    · omega
    · obtain ⟨T', s, p'⟩ := pth_dom h12 hb v _ p
      have hT := pth_lt v T' (pth_r v _ p')
      have := s.le
      have eT : T' = 2 ^ N - 1 := by omega
      rw [eT] at p'
      have := hf.le (h := h) (q := q) (fun S T e => e.r.le) v _ l1 p'
      omega
  omega
/-- the next of the subsets, from above -/
theorem sub_next (k : Nat) : ∀ F s A, s ≤ k → s &&& F = s → A &&& F = A → A < s → A ≤ (s - 1) &&& F := by
  induction k with
  | zero => intro F s A hk h1 h2 h3; omega
  | succ k ih =>
    intro F s A hk h1 h2 h3
    have d1 : s / 2 &&& F / 2 = s / 2 := by rw [← Nat.and_div_two, h1]
    have d2 : A / 2 &&& F / 2 = A / 2 := by rw [← Nat.and_div_two, h2]
    have d3 : ((s - 1) &&& F) / 2 = (s - 1) / 2 &&& F / 2 := Nat.and_div_two
    have m : ∀ a b : Nat, (a &&& b) % 2 = 1 ↔ a % 2 = 1 ∧ b % 2 = 1 := fun a b => by
      have := Nat.testBit_and a b 0
      simp only [Nat.testBit_zero] at this
      rw [← decide_eq_true_iff (p := (a &&& b) % 2 = 1), this, Bool.and_eq_true, decide_eq_true_eq, decide_eq_true_eq]
    by_cases e : s % 2 = 1
    · have e1 : (s - 1) / 2 = s / 2 := by omega
      rw [e1, d1] at d3
      omega
    · have e1 : (s - 1) / 2 = s / 2 - 1 := by omega
      have i1 := ih (F / 2) (s / 2) (A / 2) (by omega) d1 d2 (by omega)
      rw [e1] at d3
      have m1 := (m (s - 1) F)
      have m2 := (m A F)
      rw [h2] at m2
      by_cases c : A % 2 = 1
      · have := m1.mpr ⟨by omega, (m2.mp c).2⟩
        omega
      · omega
