/-! Two works: the steps laid out by minutes. -/
def ps (m : Nat → Nat) : Nat → Nat
  | 0 => 0
  | i + 1 => ps m i + m i
theorem ps_mono {m : Nat → Nat} {a b : Nat} (h : a ≤ b) : ps m a ≤ ps m b := by
  induction b with
  | zero =>
    have : a = 0 := by omega
    rw [this]; exact Nat.le_refl _
  | succ b ih =>
    by_cases c : a = b + 1
    · rw [c]; exact Nat.le_refl _
    · have := ih (by omega)
      have e : ps m (b + 1) = ps m b + m b := rfl
      omega
theorem ps_bd {m : Nat → Nat} {s : Nat} (h : ∀ i, i < s → m i ≤ 20) : ps m s ≤ 20 * s := by
  induction s with
  | zero => exact Nat.le_refl 0
  | succ s ih =>
    have := ih (fun i hi => h i (by omega))
    have := h s (by omega)
    unfold ps
    omega
theorem ps_find {m : Nat → Nat} {t : Nat} (n : Nat) (h : t < ps m n) : ∃ i, i < n ∧ ps m i ≤ t ∧ t < ps m (i + 1) := by
  induction n with
  | zero => exact absurd h (by unfold ps; omega)
  | succ n ih =>
    by_cases c : t < ps m n
    · obtain ⟨i, a, b⟩ := ih c
      exact ⟨i, by omega, b⟩
    · exact ⟨n, by omega, by omega, h⟩
theorem ps_edge {m : Nat → Nat} {t : Nat} (n : Nat) (h : t ≤ ps m n) (hn : ∀ i, i < n → ¬ (ps m i < t ∧ t < ps m (i + 1))) : ∃ i, i ≤ n ∧ t = ps m i := by
  induction n with
  | zero => exact ⟨0, by omega, by unfold ps at h ⊢; omega⟩
  | succ n ih =>
    by_cases c : t = ps m (n + 1)
    · exact ⟨n + 1, by omega, c⟩
    · have := hn n (by omega)
      obtain ⟨i, a, b⟩ := ih (by omega) (fun i hi => hn i (by omega))
      exact ⟨i, by omega, b⟩
/-- laid out: the bench for the minute from here on; the bench that is held here -/
def LO (b : Nat → Int) (m : Nat → Nat) (s : Nat) (mo he : Nat → Int) : Prop := (∀ i t, i < s → ps m i ≤ t → t < ps m (i + 1) → mo t = b i) ∧ (∀ i t, i < s → ps m i < t → t < ps m (i + 1) → he t = b i) ∧ (∀ i, i ≤ s → he (ps m i) = -1)
theorem LO.cg {b : Nat → Int} {m : Nat → Nat} {s : Nat} {mo he mo' he' : Nat → Int} (h : LO b m s mo he) (h1 : ∀ t, t < ps m s → mo' t = mo t) (h2 : ∀ t, t ≤ ps m s → he' t = he t) : LO b m s mo' he' := by
  refine ⟨fun i t a1 a2 a3 => ?_, fun i t a1 a2 a3 => ?_, fun i a1 => ?_⟩
  · have := ps_mono (m := m) (show i + 1 ≤ s by omega)
    rw [h1 t (by omega)]; exact h.1 i t a1 a2 a3
  · have := ps_mono (m := m) (show i + 1 ≤ s by omega)
    rw [h2 t (by omega)]; exact h.2.1 i t a1 a2 a3
  · rw [h2 _ (ps_mono a1)]; exact h.2.2 i a1
theorem LO.held {b : Nat → Int} {m : Nat → Nat} {s : Nat} {mo he : Nat → Int} (h : LO b m s mo he) {t : Nat} (ht : t ≤ ps m s) : he t = -1 ∨ (t < ps m s ∧ he t = mo t) := by
  by_cases c : ∃ i, i < s ∧ ps m i < t ∧ t < ps m (i + 1)
  · obtain ⟨i, a1, a2, a3⟩ := c
    have := ps_mono (m := m) (show i + 1 ≤ s by omega)
    exact Or.inr ⟨by omega, by rw [h.2.1 i t a1 a2 a3, h.1 i t a1 (by omega) a3]⟩
  · obtain ⟨i, a1, a2⟩ := ps_edge s ht (fun i hi hh => c ⟨i, hi, hh⟩)
    rw [a2]; exact Or.inl (h.2.2 i a1)
theorem LO.nn {b : Nat → Int} {m : Nat → Nat} {s : Nat} {mo he : Nat → Int} (h : LO b m s mo he) (hb : ∀ i, i < s → 0 ≤ b i) {t : Nat} (ht : t < ps m s) : 0 ≤ mo t := by
  obtain ⟨i, a1, a2, a3⟩ := ps_find s ht
  rw [h.1 i t a1 a2 a3]; exact hb i a1
theorem k_layOut {μ : Mem} {k s : Nat} {b : Nat → Int} {m : Nat → Nat} (hk : k < 2) (hs : μ 86 k = s) (h6 : s ≤ 6) (hb : ∀ i, i < s → μ (64 + k) i = b i) (hm : ∀ i, i < s → μ (66 + k) i = m i ∧ m i ≤ 20) {Post : Pst} (hp : ∀ M : Mem, (∀ c, c ≠ 68 + k → c ≠ 70 + k → M c = μ c) → LO b m s (M (68 + k)) (M (70 + k)) → Post (ps m s : Int) M) : wp_X8_layOut μ (k : Int) Post := by
  unfold wp_X8_layOut
  intro G13 G26 g13 g26
  unfold b_X8_layOut_e
  rw [tn]
  refine ⟨by omega, ?_⟩
  intro M0 h0
  refine upTo (P := fun i => ∀ M : Mem, (∀ c, c ≠ 68 + k → c ≠ 70 + k → M c = μ c) → LO b m i (M (68 + k)) (M (70 + k)) → G13 M (k : Int) (ps m i : Int) (i : Int)) (n := s) ?_ ?_ M0 (fun c c1 c2 => by rw [h0, wr_ne c2]) ⟨fun i t hi => by omega, fun i t hi => by omega, fun i hi => ?_⟩
  · intro M fr lo
    have e86 : M 86 k = s := by rw [fr 86 (by omega) (by omega)]; exact hs
    refine g13 _ _ _ _ ⟨by omega, ?_⟩
    rw [tn]
    exact ⟨fun _ => hp M fr lo, fun h' => absurd h' (by omega)⟩
  · intro i hi ih M fr lo
    have e86 : M 86 k = s := by rw [fr 86 (by omega) (by omega)]; exact hs
    have bd : ps m (i + 1) ≤ 120 := by
      have := ps_bd (m := m) (s := i + 1) (fun j hj => (hm j (by omega)).2)
      omega
    have e1 : ps m (i + 1) = ps m i + m i := rfl
    refine g13 _ _ _ _ ⟨by omega, ?_⟩
    rw [tn]
    refine ⟨fun h' => absurd h' (by omega), fun _ => ?_⟩
    refine upTo (P := fun j => ∀ M : Mem, (∀ c, c ≠ 68 + k → c ≠ 70 + k → M c = μ c) → LO b m i (M (68 + k)) (M (70 + k)) → (∀ t, ps m i ≤ t → t < ps m i + j → M (68 + k) t = b i) → (∀ t, ps m i < t → t ≤ ps m i + j → M (70 + k) t = b i) → G26 M (k : Int) ((ps m i + j : Nat) : Int) (i : Int) (j : Int)) (n := m i) ?_ ?_ M fr lo (fun t h1 h2 => by omega) (fun t h1 h2 => by omega)
    · intro M fr lo c1 c2
      have e66 : M (66 + k) i = m i := by rw [fr _ (by omega) (by omega)]; exact (hm i hi).1
      refine g26 _ _ _ _ _ ⟨by omega, by omega, ?_⟩
      rw [tn, tn, tn]
      refine ⟨fun _ => ⟨by omega, by omega, ?_⟩, fun h' => absurd h' (by omega)⟩
      rw [wrap_id (by omega) (by omega), ← cs, ← e1]
      rintro M2 h2 _ rfl
      have o68 : M2 (68 + k) = M (68 + k) := by rw [h2, wr_ne (by omega)]
      have lo2 : LO b m i (M2 (68 + k)) (M2 (70 + k)) := lo.cg (fun t ht => by rw [o68]) (fun t ht => by
        rw [h2]
        by_cases e : t = ps m (i + 1)
        · have z : m i = 0 := by omega
          have : t = ps m i := by omega
          rw [e, wr_s, ← e, this]
          exact (lo.2.2 i (Nat.le_refl i)).symm
        · exact wr_i e)
      refine ih M2 (fun c a1 a2 => by rw [h2, wr_ne a2]; exact fr c a1 a2) ⟨fun i' t a1 a2 a3 => ?_, fun i' t a1 a2 a3 => ?_, fun i' a1 => ?_⟩
      · by_cases e : i' = i
        · rw [e] at a2 a3 ⊢
          rw [o68]; exact c1 t a2 (by omega)
        · exact lo2.1 i' t (by omega) a2 a3
      · by_cases e : i' = i
        · rw [e] at a2 a3 ⊢
          rw [h2, wr_i (by omega)]; exact c2 t a2 (by omega)
        · exact lo2.2.1 i' t (by omega) a2 a3
      · by_cases e : i' = i + 1
        · rw [e, h2, wr_s]
        · exact lo2.2.2 i' (by omega)
    · intro j hj ihj M fr lo c1 c2
      have e66 : M (66 + k) i = m i := by rw [fr _ (by omega) (by omega)]; exact (hm i hi).1
      have e64 : M (64 + k) i = b i := by rw [fr _ (by omega) (by omega)]; exact hb i hi
      refine g26 _ _ _ _ _ ⟨by omega, by omega, ?_⟩
      rw [tn, tn, tn]
      refine ⟨fun h' => absurd h' (by omega), fun _ => ⟨by omega, by omega, by omega, by omega, ?_⟩⟩
      rw [wrap_id (by omega) (by omega), wrap_id (by omega) (by omega), e64, ← cs, ← cs]
      rintro M2 h2 _ rfl
      rw [tn]
      refine ⟨by omega, by omega, by omega, by omega, ?_⟩
      have f64 : M2 (64 + k) i = b i := by rw [h2, wr_o (by omega)]; exact e64
      rw [f64]
      rintro M3 h3 _ rfl
      have a68 : ∀ t, M3 (68 + k) t = if t = ps m i + j then b i else M (68 + k) t := fun t => by rw [h3, wr_o (by omega), h2, wr_app, if_pos rfl]
      have a70 : ∀ t, M3 (70 + k) t = if t = ps m i + j + 1 then b i else M (70 + k) t := fun t => by
        rw [h3, wr_app, if_pos rfl]
        split
        · rfl
        · rw [h2, wr_o (by omega)]
      rw [Nat.add_assoc]
      refine ihj M3 (fun c a1 a2 => by rw [h3, wr_ne a2, h2, wr_ne a1]; exact fr c a1 a2) (lo.cg (fun t ht => ?_) (fun t ht => ?_)) (fun t h1 h2 => ?_) (fun t h1 h2 => ?_)
      · rw [a68, if_neg (by omega)]
      · rw [a70, if_neg (by omega)]
      · rw [a68]
        split
        · rfl
        · exact c1 t h1 (by omega)
      · rw [a70]
        split
        · rfl
        · exact c2 t h1 (by omega)
  · have : i = 0 := by omega
    rw [this, h0]
    exact wr_s
