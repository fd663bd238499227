/-! Two ways to put in order, one order. -/
def Pm (o : Nat → Nat) (n : Nat) : Prop := (∀ i, i < n → o i < n) ∧ (∀ i j, i < n → j < n → o i = o j → i = j)
theorem Pm.onto {o : Nat → Nat} {n : Nat} (h : Pm o n) {y : Nat} (hy : y < n) : ∃ i, i < n ∧ o i = y := fb_onto h.1 (fun i j hij hj e => by have := h.2 i j (by omega) hj e; omega) hy
def Srt (K : Nat → Int) (o : Nat → Nat) (n : Nat) : Prop := Pm o n ∧ ∀ i j, i < j → j < n → K (o i) < K (o j)
theorem Srt.uq {K : Nat → Int} {o o' : Nat → Nat} {n : Nat} (hK : ∀ a b, a < n → b < n → K a = K b → a = b) (h : Srt K o n) (h' : Srt K o' n) : ∀ i, i < n → o i = o' i := by
  intro i
  induction i using Nat.strongRecOn with
  | ind i ih =>
    intro hi
    have key : ∀ (a b : Nat → Nat), Srt K a n → Srt K b n → (∀ j, j < i → a j = b j) → K (b i) ≤ K (a i) := by
      intro a b ha hb hab
      obtain ⟨j, hj, e⟩ := hb.1.onto (ha.1.1 i hi)
      rw [← e]
      by_cases c : j < i
      · rw [← hab j c] at e
        have := ha.1.2 j i hj hi e
        omega
      · by_cases c2 : j = i
        · rw [c2]; exact Int.le_refl _
        · have := hb.2 i j (by omega) hj
          omega
    have h1 := key o o' h h' (fun j hj => ih j hj (by omega))
    have h2 := key o' o h' h (fun j hj => (ih j hj (by omega)).symm)
    exact hK _ _ (h.1.1 i hi) (h'.1.1 i hi) (by omega)
def insr (o : Nat → Nat) (p w : Nat) : Nat → Nat := fun i => if i < p then o i else if i = p then w else o (i - 1)
theorem Srt.ins {K : Nat → Int} {o : Nat → Nat} {p w : Nat} (h : Srt K o w) (hp : p ≤ w) (h1 : ∀ i, i < p → K (o i) < K w) (h2 : ∀ i, p ≤ i → i < w → K w < K (o i)) : Srt K (insr o p w) (w + 1) := by
  have v : ∀ i, (i < p ∧ insr o p w i = o i) ∨ (i = p ∧ insr o p w i = w) ∨ (p < i ∧ insr o p w i = o (i - 1)) := by
    intro i
    unfold insr
    by_cases c : i < p
    · rw [if_pos c]; omega
    · rw [if_neg c]
      by_cases c2 : i = p
      · rw [if_pos c2]; omega
      · rw [if_neg c2]; omega
  have vb : ∀ i, i < w + 1 → insr o p w i < w + 1 := by
    intro i hi
    rcases v i with ⟨c, e⟩ | ⟨c, e⟩ | ⟨c, e⟩
    · have := h.1.1 i (by omega); omega
    · omega
    · have := h.1.1 (i - 1) (by omega); omega
  have vs : ∀ i j, i < j → j < w + 1 → K (insr o p w i) < K (insr o p w j) := by
    intro i j hij hj
    rcases v i with ⟨c, e⟩ | ⟨c, e⟩ | ⟨c, e⟩
    · rcases v j with ⟨c', e'⟩ | ⟨c', e'⟩ | ⟨c', e'⟩
      · rw [e, e']; exact h.2 i j hij (by omega)
      · rw [e, e']; exact h1 i c
      · rw [e, e']; exact h.2 i (j - 1) (by omega) (by omega)
    · rcases v j with ⟨c', e'⟩ | ⟨c', e'⟩ | ⟨c', e'⟩
      · omega
      · omega
      · rw [e, e']; exact h2 (j - 1) (by omega) (by omega)
    · rcases v j with ⟨c', e'⟩ | ⟨c', e'⟩ | ⟨c', e'⟩
      · omega
      · omega
      · rw [e, e']; exact h.2 (i - 1) (j - 1) (by omega) (by omega)
  refine ⟨⟨vb, fun i j hi hj e => ?_⟩, vs⟩
  by_cases c : i < j
  · have := vs i j c hj
    rw [e] at this
    omega
  · by_cases c2 : j < i
    · have := vs j i c2 hi
      rw [e] at this
      omega
    · omega
def sw (o : Nat → Nat) (a b : Nat) : Nat → Nat := fun i => if i = a then o b else if i = b then o a else o i
theorem sw_v (o : Nat → Nat) (a b i : Nat) : (i = a ∧ sw o a b i = o b) ∨ (i ≠ a ∧ i = b ∧ sw o a b i = o a) ∨ (i ≠ a ∧ i ≠ b ∧ sw o a b i = o i) := by
  unfold sw
  by_cases c : i = a
  · rw [if_pos c]; exact Or.inl ⟨c, rfl⟩
  · rw [if_neg c]
    by_cases c2 : i = b
    · rw [if_pos c2]; exact Or.inr (Or.inl ⟨c, c2, rfl⟩)
    · rw [if_neg c2]; exact Or.inr (Or.inr ⟨c, c2, rfl⟩)
theorem Pm.exch {o : Nat → Nat} {n a b : Nat} (h : Pm o n) (ha : a < n) (hb : b < n) : Pm (sw o a b) n := by
  refine ⟨fun i hi => ?_, fun i j hi hj e => ?_⟩
  · rcases sw_v o a b i with ⟨_, e⟩ | ⟨_, _, e⟩ | ⟨_, _, e⟩
    · rw [e]; exact h.1 b hb
    · rw [e]; exact h.1 a ha
    · rw [e]; exact h.1 i hi
  · rcases sw_v o a b i with ⟨c, e1⟩ | ⟨c, c', e1⟩ | ⟨c, c', e1⟩ <;> rcases sw_v o a b j with ⟨d, e2⟩ | ⟨d, d', e2⟩ | ⟨d, d', e2⟩ <;> rw [e1, e2] at e
    · omega
    · have := h.2 b a hb ha e; omega
    · have := h.2 b j hb hj e; omega
    · have := h.2 a b ha hb e; omega
    · omega
    · have := h.2 a j ha hj e; omega
    · have := h.2 i b hi hb e; omega
    · have := h.2 i a hi ha e; omega
    · exact h.2 i j hi hj e
def BI (K : Nat → Int) (o : Nat → Nat) (n i k : Nat) : Prop := Pm o n ∧ (∀ p q, n - i ≤ p → p < n → q < p → K (o q) < K (o p)) ∧ (∀ t q, (t = k ∧ k ≤ n - 1 - i ∨ t = n - 1 - i ∧ n - 1 - i < k) → q < t → K (o q) < K (o t))
theorem BI.step {K : Nat → Int} {o : Nat → Nat} {n i k : Nat} (hK : ∀ a b, a < n → b < n → K a = K b → a = b) (h : BI K o n i k) (hi : i < n) (hk : k + 1 < n) : (K (o (k + 1)) < K (o k) → BI K (sw o k (k + 1)) n i (k + 1)) ∧ (¬ K (o (k + 1)) < K (o k) → BI K o n i (k + 1)) := by
  obtain ⟨h1, h2, h3⟩ := h
  refine ⟨fun c => ?_, fun c => ?_⟩
  · have hlt : k + 1 < n - i := Classical.byContradiction fun hx => by
      have := h2 (k + 1) k (by omega) hk (by omega)
      omega
    have h3' := fun q => h3 k q (Or.inl ⟨rfl, by omega⟩)
    refine ⟨h1.exch (by omega) hk, fun p q hp hpn hq => ?_, fun t q ht hq => ?_⟩
    · rcases sw_v o k (k + 1) p with ⟨d, e⟩ | ⟨d, d', e⟩ | ⟨d, d', e⟩
      · omega
      · omega
      · rw [e]
        rcases sw_v o k (k + 1) q with ⟨f, e'⟩ | ⟨f, f', e'⟩ | ⟨f, f', e'⟩
        · rw [e']; exact h2 p (k + 1) hp hpn (by omega)
        · rw [e']; exact h2 p k hp hpn (by omega)
        · rw [e']; exact h2 p q hp hpn hq
    · have et : t = k + 1 := by omega
      rw [et] at hq ⊢
      rcases sw_v o k (k + 1) (k + 1) with ⟨d, e⟩ | ⟨d, d', e⟩ | ⟨d, d', e⟩
      · omega
      · rw [e]
        rcases sw_v o k (k + 1) q with ⟨f, e'⟩ | ⟨f, f', e'⟩ | ⟨f, f', e'⟩
        · rw [e']; exact c
        · omega
        · rw [e']; exact h3' q (by omega)
      · omega
  · refine ⟨h1, h2, fun t q ht hq => ?_⟩
    by_cases c2 : k + 1 ≤ n - 1 - i
    · have et : t = k + 1 := by omega
      rw [et] at hq ⊢
      have hne : K (o k) ≠ K (o (k + 1)) := fun e => by
        have := h1.2 k (k + 1) (by omega) hk (hK _ _ (h1.1 k (by omega)) (h1.1 _ hk) e)
        omega
      by_cases c3 : q = k
      · rw [c3]; omega
      · have := h3 k q (Or.inl ⟨rfl, by omega⟩) (by omega)
        omega
    · have et : t = n - 1 - i := by omega
      by_cases c3 : k ≤ n - 1 - i
      · exact h3 t q (Or.inl ⟨by omega, c3⟩) hq
      · exact h3 t q (Or.inr ⟨et, by omega⟩) hq
theorem BI.turn {K : Nat → Int} {o : Nat → Nat} {n i : Nat} (h : BI K o n i (n - 1)) (hi : i < n) : BI K o n (i + 1) 0 := by
  obtain ⟨h1, h2, h3⟩ := h
  refine ⟨h1, fun p q hp hpn hq => ?_, fun t q ht hq => by omega⟩
  by_cases c : n - i ≤ p
  · exact h2 p q c hpn hq
  · have et : p = n - 1 - i := by omega
    by_cases c3 : n - 1 ≤ n - 1 - i
    · exact h3 p q (Or.inl ⟨by omega, c3⟩) hq
    · exact h3 p q (Or.inr ⟨et, by omega⟩) hq
theorem BI.srt {K : Nat → Int} {o : Nat → Nat} {n k : Nat} (h : BI K o n n k) : Srt K o n := ⟨h.1, fun i j hij hj => h.2.1 j i (by omega) hj hij⟩
theorem Pm.id (n : Nat) : Pm (fun i => i) n := ⟨fun _ h => h, fun _ _ _ _ e => e⟩
theorem BI.init {K : Nat → Int} {n : Nat} : BI K (fun i => i) n 0 0 := ⟨Pm.id n, fun p q hp hpn _ => by omega, fun t q ht hq => by omega⟩
theorem m_first {μ : Mem} {n : Nat} (hm : μ 11 0 = n) (h8 : n ≤ 8) {Post : Pst} (hp : ∀ μ' : Mem, (∀ c, c ≠ 103 → μ' c = μ c) → (∀ i, i < n → μ' 103 i = i) → Post 0 μ') : wp_X11_firstOrder μ Post := by
  unfold wp_X11_firstOrder b_X11_firstOrder_e
  intro G hG
  refine upTo (P := fun i => ∀ μ' : Mem, (∀ c, c ≠ 103 → μ' c = μ c) → (∀ j, j < i → μ' 103 j = j) → G μ' (i : Int)) (n := n) ?_ ?_ μ (fun _ _ => rfl) (fun i hi => absurd hi (by omega))
  · intro μ' fr c
    have e : μ' 11 0 = n := by rw [fr 11 (by decide)]; exact hm
    exact hG _ _ ⟨fun _ => hp μ' fr c, fun h' => absurd h' (by omega)⟩
  · intro i hi ih μ' fr c
    have e : μ' 11 0 = n := by rw [fr 11 (by decide)]; exact hm
    refine hG _ _ ⟨fun h' => absurd h' (by omega), fun _ => ⟨by omega, ?_⟩⟩
    rw [tn, wrap_id (by omega) (by omega)]
    intro μ2 h2 x hx
    rw [hx, ← cs]
    refine ih μ2 (fun d hd => by rw [h2, wr_ne hd]; exact fr d hd) (fun j hj => ?_)
    rw [h2]
    by_cases e : j = i
    · rw [e, wr_s]
    · rw [wr_i e]; exact c j (by omega)
theorem m_swap {μ : Mem} {n a b : Nat} (h8 : n ≤ 8) (ha : a < n) (hb : b < n) {o : Nat → Nat} (ho : ∀ i, i < n → μ 103 i = o i) {Post : Pst} (hp : ∀ μ' : Mem, (∀ c, c ≠ 103 → μ' c = μ c) → (∀ i, i < n → μ' 103 i = sw o a b i) → Post 0 μ') : wp_X11_swap μ (a : Int) (b : Int) Post := by
  unfold wp_X11_swap b_X11_swap_e
  refine ⟨by omega, ?_⟩
  intro x hx
  refine ⟨by omega, by omega, ?_⟩
  intro μ1 h1
  refine ⟨by omega, ?_⟩
  intro μ2 h2
  rw [tn, tn] at h1
  rw [tn] at hx h2
  refine hp μ2 (fun c hc => by rw [h2, wr_ne hc, h1, wr_ne hc]) (fun i hi => ?_)
  rw [h2, wr_app, if_pos rfl, h1, wr_app, if_pos rfl, hx, ho a ha, ho b hb, ho i hi]
  unfold sw
  by_cases c1 : i = b
  · rw [if_pos c1]
    by_cases c2 : i = a
    · rw [if_pos c2, ← c1, c2]
    · rw [if_neg c2, if_pos c1]
  · rw [if_neg c1]
    by_cases c2 : i = a
    · rw [if_pos c2, if_pos c2]
    · rw [if_neg c2, if_neg c2, if_neg c1]
