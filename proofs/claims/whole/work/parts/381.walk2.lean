/-! Two works: the other side's look at the steps. -/
theorem m_all {μ : Mem} {k s : Nat} {m : Nat → Nat} (hk : k < 2) (hs : μ 101 k = s) (h6 : s ≤ 6) (hm : ∀ i, i < s → μ 100 (12 * k + 2 * i + 1) = m i ∧ m i ≤ 20) {Post : Pst} (hp : Post (ps m s : Int) μ) : wp_X11_allMinutes μ (k : Int) Post := by
  unfold wp_X11_allMinutes
  intro G hG
  unfold b_X11_allMinutes_e
  refine upTo (P := fun i => G μ (k : Int) (ps m i : Int) (i : Int)) (n := s) ?_ ?_
  · refine hG _ _ _ _ ⟨by omega, ?_⟩
    rw [tn]
    exact ⟨fun _ => hp, fun h' => absurd h' (by omega)⟩
  · intro i hi ih
    have bd := ps_bd (m := m) (s := i) (fun j hj => (hm j (by omega)).2)
    have mi := hm i hi
    refine hG _ _ _ _ ⟨by omega, ?_⟩
    rw [tn]
    refine ⟨fun h' => absurd h' (by omega), fun _ => ?_⟩
    have e : wrap (wrap (wrap (12 * (k : Int)) + wrap (2 * (i : Int))) + 1) = ((12 * k + 2 * i + 1 : Nat) : Int) := by
      rw [wrap_id (x := 12 * (k : Int)) (by omega) (by omega), wrap_id (x := 2 * (i : Int)) (by omega) (by omega), wrap_id (x := 12 * (k : Int) + 2 * (i : Int)) (by omega) (by omega), wrap_id (by omega) (by omega)]
      omega
    rw [e, tn, mi.1, wrap_id (by omega) (by omega), wrap_id (by omega) (by omega), ← cs, ← Int.natCast_add]
    refine ⟨by omega, ?_⟩
    rintro _ rfl _ rfl
    exact ih
theorem m_benchAt {μ : Mem} {k s t : Nat} {b : Nat → Int} {m : Nat → Nat} {mo he : Nat → Int} (hk : k < 2) (h6 : s ≤ 6) (hb : ∀ i, i < s → μ 100 (12 * k + 2 * i) = b i) (hm : ∀ i, i < s → μ 100 (12 * k + 2 * i + 1) = m i ∧ m i ≤ 20) (lo : LO b m s mo he) (ht : t < ps m s) {Post : Pst} (hp : Post (mo t) μ) : wp_X11_benchAt μ (k : Int) (t : Int) Post := by
  unfold wp_X11_benchAt
  intro G hG
  unfold b_X11_benchAt_e
  have bdS := ps_bd (m := m) (s := s) (fun j hj => (hm j (by omega)).2)
  have key : ∀ (d i : Nat), s ≤ i + d → ps m i ≤ t → G μ (k : Int) ((t - ps m i : Nat) : Int) (i : Int) := by
    intro d
    induction d with
    | zero =>
      intro i hi hpi
      have := ps_mono (m := m) (show s ≤ i by omega)
      omega
    | succ d ihd =>
      intro i hi hpi
      have his : i < s := Nat.lt_of_not_le (fun hle => by have := ps_mono (m := m) hle; omega)
      have mi := hm i his
      have e0 : wrap (wrap (12 * (k : Int)) + wrap (2 * (i : Int))) = ((12 * k + 2 * i : Nat) : Int) := by
        rw [wrap_id (x := 12 * (k : Int)) (by omega) (by omega), wrap_id (x := 2 * (i : Int)) (by omega) (by omega), wrap_id (by omega) (by omega)]
        omega
      have e1 : wrap (((12 * k + 2 * i : Nat) : Int) + 1) = ((12 * k + 2 * i + 1 : Nat) : Int) := by rw [wrap_id (by omega) (by omega)]; omega
      have ep : ps m (i + 1) = ps m i + m i := rfl
      refine hG _ _ _ _ ?_
      unfold b_X11_benchAt_5
      rw [e0, e1, tn, tn, mi.1, hb i his]
      refine ⟨by omega, fun c => ⟨by omega, ?_⟩, fun c => ⟨by omega, ?_⟩⟩
      · rw [← lo.1 i t his hpi (by omega)]
        exact hp
      · rw [wrap_id (by omega) (by omega), wrap_id (by omega) (by omega), ← cs, show ((t - ps m i : Nat) : Int) - (m i : Int) = ((t - ps m (i + 1) : Nat) : Int) by omega]
        rintro _ rfl _ rfl
        exact ihd (i + 1) (by omega) (by omega)
  exact key s 0 (by omega) (Nat.zero_le t)
theorem m_heldAt {μ : Mem} {k s t : Nat} {b : Nat → Int} {m : Nat → Nat} {mo he : Nat → Int} (hk : k < 2) (hs : μ 101 k = s) (h6 : s ≤ 6) (hb : ∀ i, i < s → μ 100 (12 * k + 2 * i) = b i) (hm : ∀ i, i < s → μ 100 (12 * k + 2 * i + 1) = m i ∧ m i ≤ 20) (lo : LO b m s mo he) (ht : t ≤ ps m s) {Post : Pst} (hp : Post (he t) μ) : wp_X11_heldAt μ (k : Int) (t : Int) Post := by
  unfold wp_X11_heldAt
  intro G hG
  unfold b_X11_heldAt_e
  refine upTo (P := fun i => (∀ j, j < i → ¬ (ps m j < t ∧ t < ps m (j + 1))) → G μ (k : Int) (t : Int) (ps m i : Int) (i : Int)) (n := s) ?_ ?_ (fun j hj => by omega)
  · intro hn
    refine hG _ _ _ _ _ ⟨by omega, ?_⟩
    rw [tn]
    refine ⟨fun _ => ?_, fun h' => absurd h' (by omega)⟩
    obtain ⟨i, a1, a2⟩ := ps_edge s ht hn
    rw [a2, lo.2.2 i a1] at hp
    exact hp
  · intro i hi ih hn
    have bd := ps_bd (m := m) (s := i) (fun j hj => (hm j (by omega)).2)
    have mi := hm i hi
    have e0 : wrap (wrap (12 * (k : Int)) + wrap (2 * (i : Int))) = ((12 * k + 2 * i : Nat) : Int) := by
      rw [wrap_id (x := 12 * (k : Int)) (by omega) (by omega), wrap_id (x := 2 * (i : Int)) (by omega) (by omega), wrap_id (by omega) (by omega)]
      omega
    have e1 : wrap (((12 * k + 2 * i : Nat) : Int) + 1) = ((12 * k + 2 * i + 1 : Nat) : Int) := by rw [wrap_id (by omega) (by omega)]; omega
    have ep : ps m (i + 1) = ps m i + m i := rfl
    have nx : ¬ (ps m i < t ∧ t < ps m (i + 1)) → b_X11_heldAt_62 G Post μ (k : Int) (t : Int) (i : Int) (ps m (i + 1) : Int) := by
      intro hno
      unfold b_X11_heldAt_62
      rw [wrap_id (by omega) (by omega), ← cs]
      rintro _ rfl
      refine ih (fun j hj => ?_)
      by_cases e : j = i
      · rw [e]; exact hno
      · exact hn j (by omega)
    refine hG _ _ _ _ _ ⟨by omega, ?_⟩
    rw [tn]
    refine ⟨fun h' => absurd h' (by omega), fun _ => ?_⟩
    rw [e0, e1, tn, tn, mi.1, hb i hi, wrap_id (by omega) (by omega), ← Int.natCast_add, ← ep]
    refine ⟨by omega, ?_⟩
    rintro _ rfl
    refine ⟨fun c => nx (by omega), fun c => ⟨fun c2 => nx (by omega), fun c2 => ⟨by omega, ?_⟩⟩⟩
    rw [← lo.2.1 i t hi (by omega) (by omega)]
    exact hp
/-- the steps of both -/
theorem Inv.s {μ : Mem} (h : Inv μ) {k : Nat} (hk : k < 2) : ∃ (s : Nat) (b : Nat → Int) (m : Nat → Nat), μ 86 k = s ∧ μ 101 k = s ∧ s ≤ 6 ∧ (∀ i, i < s → μ (64 + k) i = b i) ∧ (∀ i, i < s → μ (66 + k) i = m i ∧ m i ≤ 20) ∧ (∀ i, i < s → μ 100 (12 * k + 2 * i) = b i) ∧ (∀ i, i < s → μ 100 (12 * k + 2 * i + 1) = m i ∧ m i ≤ 20) ∧ (∀ i, i < s → 0 ≤ b i) := by
  obtain ⟨s1, s2, s3, s4⟩ := h.2.2.2.2.2.2.2.1 k hk
  obtain ⟨s, hs⟩ := natOf s2
  refine ⟨s, μ (64 + k), fun i => (μ (66 + k) i).toNat, hs, by omega, by omega, fun i _ => rfl, fun i hi => ?_, fun i hi => ?_, fun i hi => ?_, fun i hi => ?_⟩
  · have := s4 i (by omega)
    show μ (66 + k) i = ((μ (66 + k) i).toNat : Int) ∧ (μ (66 + k) i).toNat ≤ 20
    omega
  · have := s4 i (by omega)
    exact this.1.1.symm
  · have := s4 i (by omega)
    show μ 100 (12 * k + 2 * i + 1) = ((μ (66 + k) i).toNat : Int) ∧ (μ (66 + k) i).toNat ≤ 20
    omega
  · have := s4 i (by omega)
    exact this.1.2.1
