/-! The calls that only look and put: both sides side by side. -/
theorem isFrom_iff {μ : Mem} {v lo hi : Int} {Post : Pst} : wp_X10_isFrom μ v lo hi Post ↔ ((lo ≤ v ∧ v ≤ hi → Post 1 μ) ∧ (¬ (lo ≤ v ∧ v ≤ hi) → Post 0 μ)) := by
  unfold wp_X10_isFrom b_X10_isFrom_e
  constructor
  · intro h
    exact ⟨fun hv => (h.2 (by omega)).2 (by omega), fun hv => by
      by_cases h1 : v < lo
      · exact h.1 h1
      · exact (h.2 h1).1 (by omega)⟩
  · intro h
    exact ⟨fun h1 => h.2 (by omega), fun h1 => ⟨fun h2 => h.2 (by omega), fun h2 => h.1 (by omega)⟩⟩
theorem in_iff {μ : Mem} {v lo hi : Int} {Post : Pst} : wp_X11_in μ v lo hi Post ↔ ((lo ≤ v ∧ v ≤ hi → Post 1 μ) ∧ (¬ (lo ≤ v ∧ v ≤ hi) → Post 0 μ)) := by
  unfold wp_X11_in b_X11_in_e
  simp only [lcp_lt, lcp_gt]
  constructor
  · intro h
    exact ⟨fun hv => (h.2 (by omega)).2 (by omega), fun hv => by
      by_cases h1 : v < lo
      · exact h.1 h1
      · exact (h.2 h1).1 (by omega)⟩
  · intro h
    exact ⟨fun h1 => h.2 (by omega), fun h1 => ⟨fun h2 => h.2 (by omega), fun h2 => h.1 (by omega)⟩⟩
theorem has_iff {μ : Mem} {w : Int} {Post : Pst} (h0 : IN μ) : wp_X9_has μ w Post ↔ ((0 ≤ w ∧ w < μ 1 0 → Post 1 μ) ∧ (¬ (0 ≤ w ∧ w < μ 1 0) → Post 0 μ)) := by
  unfold wp_X9_has b_X9_has_e
  obtain ⟨h1, h2, -⟩ := h0
  rw [isFrom_iff, wrap_id (by omega) (by omega)]
  have e : (0 ≤ w ∧ w ≤ μ 1 0 - 1) ↔ (0 ≤ w ∧ w < μ 1 0) := by omega
  rw [e]
  simp
theorem isWork_iff {μ : Mem} {w : Int} {Post : Pst} (h0 : IN μ) : wp_X11_isWork μ w Post ↔ ((0 ≤ w ∧ w < μ 1 0 → Post 1 μ) ∧ (¬ (0 ≤ w ∧ w < μ 1 0) → Post 0 μ)) := by
  unfold wp_X11_isWork b_X11_isWork_e
  obtain ⟨h1, h2, h3⟩ := h0
  rw [in_iff, h3, wrap_id (by omega) (by omega)]
  have e : (0 ≤ w ∧ w ≤ μ 1 0 - 1) ↔ (0 ≤ w ∧ w < μ 1 0) := by omega
  rw [e]
  simp
theorem isTool_iff {μ : Mem} {w : Int} {Post : Pst} : wp_X11_isTool μ w Post ↔ ((0 ≤ w ∧ w ≤ 2 → Post 1 μ) ∧ (¬ (0 ≤ w ∧ w ≤ 2) → Post 0 μ)) := by
  unfold wp_X11_isTool b_X11_isTool_e
  rw [in_iff]
  simp
/-- what is asked of a call: the same answer, and the invariant behind it -/
abbrev Ok (r : Int) : Pst := fun r' μ2 => r = r' ∧ Inv μ2
theorem o_count {μ : Mem} {a : Int} (hI : Inv μ) : wp_X10_count μ a (fun r μ1 => wp_X11_count μ1 a (Ok r)) := by
  obtain ⟨hN, -, -, -, -, hT, -, hS, hL⟩ := id hI
  have s0 := (hS 0 (by omega)).1
  have s1 := (hS 1 (by omega)).1
  unfold wp_X10_count b_X10_count_e wp_X11_count b_X11_count_e b_X11_count_46 Ok
  refine ⟨fun h => ⟨fun _ => ⟨rfl, hI⟩, ?_⟩, fun h => ?_, fun h => ?_, fun h => ?_, fun h => ?_, fun h => ?_⟩
  · refine ⟨fun h => ?_, fun h => ?_, fun h => ?_, fun h => ?_, fun h => ?_⟩ <;> omega
  · subst h
    refine ⟨fun h => by omega, fun _ => ⟨hN.2.2.symm, hI⟩, fun h => by omega, fun h => by omega, fun h => by omega, fun h => by omega⟩
  · subst h
    refine ⟨fun h => by omega, fun h => by omega, fun _ => ⟨hT.1, hI⟩, fun h => by omega, fun h => by omega, fun h => by omega⟩
  · subst h
    refine ⟨fun h => by omega, fun h => by omega, fun h => by omega, fun _ => ⟨by decide, s0, hI⟩, fun h => by omega, fun h => by omega⟩
  · subst h
    refine ⟨fun h => by omega, fun h => by omega, fun h => by omega, fun h => by omega, fun _ => ⟨by decide, s1, hI⟩, fun h => by omega⟩
  · subst h
    refine ⟨fun h => by omega, fun h => by omega, fun h => by omega, fun h => by omega, fun h => by omega, fun _ => ⟨hL.1, hI⟩⟩
theorem isP_r {x : Nat} (hx : (24 ≤ x ∧ x ≤ 39) ∨ (64 ≤ x ∧ x ≤ 67) ∨ (88 ≤ x ∧ x ≤ 102) ∨ x = 1 ∨ x = 2 ∨ x = 6 ∨ x = 10 ∨ x = 11 ∨ x = 74 ∨ x = 75 ∨ x = 82 ∨ x = 86) : isP x = true := by
  unfold isP
  rcases hx with hx | hx | hx | hx | hx | hx | hx | hx | hx | hx | hx | hx <;> simp [hx]
theorem Inv.setW {μ μ' : Mem} (h : Inv μ) (k : ∀ c, isP c = true → ¬ ((24 ≤ c ∧ c ≤ 28) ∨ (90 ≤ c ∧ c ≤ 94) ∨ c = 11) → μ' c = μ c) (k11 : ∀ i, ¬ (i = 77) → μ' 11 i = μ 11 i) (hW' : IW μ') : Inv μ' := by
  obtain ⟨hN, hW, hB, hA, hC, hT, hR, hS, hL⟩ := h
  exact ⟨hN.cg (congrFun (k 1 (isP_r (by omega)) (by omega)) 0) (k11 0 (by omega)), hW', hB.cg hN (congrFun (k 1 (isP_r (by omega)) (by omega)) 0) (fun x hx => k x (isP_r (by omega)) (by omega)), hA.cg (congrFun (k 1 (isP_r (by omega)) (by omega)) 0) (k 74 (isP_r (by omega)) (by omega)) (k 95 (isP_r (by omega)) (by omega)), hC.cg (fun x hx => k x (isP_r (by omega)) (by omega)), hT.cg (congrFun (k 1 (isP_r (by omega)) (by omega)) 0) (congrFun (k 2 (isP_r (by omega)) (by omega)) 0) (congrFun (k 2 (isP_r (by omega)) (by omega)) 1) (k11 12 (by omega)) (k 75 (isP_r (by omega)) (by omega)) (k 99 (isP_r (by omega)) (by omega)), hR.cg (congrFun (k 6 (isP_r (by omega)) (by omega)) 1) (k11 9 (by omega)) (k 82 (isP_r (by omega)) (by omega)) (k 98 (isP_r (by omega)) (by omega)), hS.cg (fun x hx => k x (isP_r (by omega)) (by omega)), hL.cg (congrFun (k 10 (isP_r (by omega)) (by omega)) 0) (congrFun (k 10 (isP_r (by omega)) (by omega)) 1) (k11 15 (by omega)) (k11 17 (by omega)) (k 88 (isP_r (by omega)) (by omega)) (k 89 (isP_r (by omega)) (by omega)) (k 102 (isP_r (by omega)) (by omega))⟩
theorem Inv.setB {μ μ' : Mem} (h : Inv μ) (k : ∀ c, isP c = true → ¬ ((32 ≤ c ∧ c ≤ 39) ∨ c = 97 ∨ c = 11) → μ' c = μ c) (k11 : ∀ i, ¬ (i = 77) → μ' 11 i = μ 11 i) (hB' : IB μ') : Inv μ' := by
  obtain ⟨hN, hW, hB, hA, hC, hT, hR, hS, hL⟩ := h
  exact ⟨hN.cg (congrFun (k 1 (isP_r (by omega)) (by omega)) 0) (k11 0 (by omega)), hW.cg (congrFun (k 1 (isP_r (by omega)) (by omega)) 0) (fun x hx => k x (isP_r (by omega)) (by omega)), hB', hA.cg (congrFun (k 1 (isP_r (by omega)) (by omega)) 0) (k 74 (isP_r (by omega)) (by omega)) (k 95 (isP_r (by omega)) (by omega)), hC.cg (fun x hx => k x (isP_r (by omega)) (by omega)), hT.cg (congrFun (k 1 (isP_r (by omega)) (by omega)) 0) (congrFun (k 2 (isP_r (by omega)) (by omega)) 0) (congrFun (k 2 (isP_r (by omega)) (by omega)) 1) (k11 12 (by omega)) (k 75 (isP_r (by omega)) (by omega)) (k 99 (isP_r (by omega)) (by omega)), hR.cg (congrFun (k 6 (isP_r (by omega)) (by omega)) 1) (k11 9 (by omega)) (k 82 (isP_r (by omega)) (by omega)) (k 98 (isP_r (by omega)) (by omega)), hS.cg (fun x hx => k x (isP_r (by omega)) (by omega)), hL.cg (congrFun (k 10 (isP_r (by omega)) (by omega)) 0) (congrFun (k 10 (isP_r (by omega)) (by omega)) 1) (k11 15 (by omega)) (k11 17 (by omega)) (k 88 (isP_r (by omega)) (by omega)) (k 89 (isP_r (by omega)) (by omega)) (k 102 (isP_r (by omega)) (by omega))⟩
theorem Inv.setA {μ μ' : Mem} (h : Inv μ) (k : ∀ c, isP c = true → ¬ (c = 74 ∨ c = 95 ∨ c = 11) → μ' c = μ c) (k11 : ∀ i, ¬ (i = 77) → μ' 11 i = μ 11 i) (hA' : IA μ') : Inv μ' := by
  obtain ⟨hN, hW, hB, hA, hC, hT, hR, hS, hL⟩ := h
  exact ⟨hN.cg (congrFun (k 1 (isP_r (by omega)) (by omega)) 0) (k11 0 (by omega)), hW.cg (congrFun (k 1 (isP_r (by omega)) (by omega)) 0) (fun x hx => k x (isP_r (by omega)) (by omega)), hB.cg hN (congrFun (k 1 (isP_r (by omega)) (by omega)) 0) (fun x hx => k x (isP_r (by omega)) (by omega)), hA', hC.cg (fun x hx => k x (isP_r (by omega)) (by omega)), hT.cg (congrFun (k 1 (isP_r (by omega)) (by omega)) 0) (congrFun (k 2 (isP_r (by omega)) (by omega)) 0) (congrFun (k 2 (isP_r (by omega)) (by omega)) 1) (k11 12 (by omega)) (k 75 (isP_r (by omega)) (by omega)) (k 99 (isP_r (by omega)) (by omega)), hR.cg (congrFun (k 6 (isP_r (by omega)) (by omega)) 1) (k11 9 (by omega)) (k 82 (isP_r (by omega)) (by omega)) (k 98 (isP_r (by omega)) (by omega)), hS.cg (fun x hx => k x (isP_r (by omega)) (by omega)), hL.cg (congrFun (k 10 (isP_r (by omega)) (by omega)) 0) (congrFun (k 10 (isP_r (by omega)) (by omega)) 1) (k11 15 (by omega)) (k11 17 (by omega)) (k 88 (isP_r (by omega)) (by omega)) (k 89 (isP_r (by omega)) (by omega)) (k 102 (isP_r (by omega)) (by omega))⟩
theorem Inv.setC {μ μ' : Mem} (h : Inv μ) (k : ∀ c, isP c = true → ¬ ((29 ≤ c ∧ c ≤ 31) ∨ c = 96 ∨ c = 11) → μ' c = μ c) (k11 : ∀ i, ¬ (i = 77) → μ' 11 i = μ 11 i) (hC' : IC μ') : Inv μ' := by
  obtain ⟨hN, hW, hB, hA, hC, hT, hR, hS, hL⟩ := h
  exact ⟨hN.cg (congrFun (k 1 (isP_r (by omega)) (by omega)) 0) (k11 0 (by omega)), hW.cg (congrFun (k 1 (isP_r (by omega)) (by omega)) 0) (fun x hx => k x (isP_r (by omega)) (by omega)), hB.cg hN (congrFun (k 1 (isP_r (by omega)) (by omega)) 0) (fun x hx => k x (isP_r (by omega)) (by omega)), hA.cg (congrFun (k 1 (isP_r (by omega)) (by omega)) 0) (k 74 (isP_r (by omega)) (by omega)) (k 95 (isP_r (by omega)) (by omega)), hC', hT.cg (congrFun (k 1 (isP_r (by omega)) (by omega)) 0) (congrFun (k 2 (isP_r (by omega)) (by omega)) 0) (congrFun (k 2 (isP_r (by omega)) (by omega)) 1) (k11 12 (by omega)) (k 75 (isP_r (by omega)) (by omega)) (k 99 (isP_r (by omega)) (by omega)), hR.cg (congrFun (k 6 (isP_r (by omega)) (by omega)) 1) (k11 9 (by omega)) (k 82 (isP_r (by omega)) (by omega)) (k 98 (isP_r (by omega)) (by omega)), hS.cg (fun x hx => k x (isP_r (by omega)) (by omega)), hL.cg (congrFun (k 10 (isP_r (by omega)) (by omega)) 0) (congrFun (k 10 (isP_r (by omega)) (by omega)) 1) (k11 15 (by omega)) (k11 17 (by omega)) (k 88 (isP_r (by omega)) (by omega)) (k 89 (isP_r (by omega)) (by omega)) (k 102 (isP_r (by omega)) (by omega))⟩
theorem Inv.setT {μ μ' : Mem} (h : Inv μ) (k : ∀ c, isP c = true → ¬ (c = 2 ∨ c = 75 ∨ c = 99 ∨ c = 11) → μ' c = μ c) (k11 : ∀ i, ¬ (i = 12) → μ' 11 i = μ 11 i) (hT' : IT μ') : Inv μ' := by
  obtain ⟨hN, hW, hB, hA, hC, hT, hR, hS, hL⟩ := h
  exact ⟨hN.cg (congrFun (k 1 (isP_r (by omega)) (by omega)) 0) (k11 0 (by omega)), hW.cg (congrFun (k 1 (isP_r (by omega)) (by omega)) 0) (fun x hx => k x (isP_r (by omega)) (by omega)), hB.cg hN (congrFun (k 1 (isP_r (by omega)) (by omega)) 0) (fun x hx => k x (isP_r (by omega)) (by omega)), hA.cg (congrFun (k 1 (isP_r (by omega)) (by omega)) 0) (k 74 (isP_r (by omega)) (by omega)) (k 95 (isP_r (by omega)) (by omega)), hC.cg (fun x hx => k x (isP_r (by omega)) (by omega)), hT', hR.cg (congrFun (k 6 (isP_r (by omega)) (by omega)) 1) (k11 9 (by omega)) (k 82 (isP_r (by omega)) (by omega)) (k 98 (isP_r (by omega)) (by omega)), hS.cg (fun x hx => k x (isP_r (by omega)) (by omega)), hL.cg (congrFun (k 10 (isP_r (by omega)) (by omega)) 0) (congrFun (k 10 (isP_r (by omega)) (by omega)) 1) (k11 15 (by omega)) (k11 17 (by omega)) (k 88 (isP_r (by omega)) (by omega)) (k 89 (isP_r (by omega)) (by omega)) (k 102 (isP_r (by omega)) (by omega))⟩
theorem Inv.setR {μ μ' : Mem} (h : Inv μ) (k : ∀ c, isP c = true → ¬ (c = 6 ∨ c = 82 ∨ c = 98 ∨ c = 11) → μ' c = μ c) (k11 : ∀ i, ¬ (i = 9) → μ' 11 i = μ 11 i) (hR' : IR μ') : Inv μ' := by
  obtain ⟨hN, hW, hB, hA, hC, hT, hR, hS, hL⟩ := h
  exact ⟨hN.cg (congrFun (k 1 (isP_r (by omega)) (by omega)) 0) (k11 0 (by omega)), hW.cg (congrFun (k 1 (isP_r (by omega)) (by omega)) 0) (fun x hx => k x (isP_r (by omega)) (by omega)), hB.cg hN (congrFun (k 1 (isP_r (by omega)) (by omega)) 0) (fun x hx => k x (isP_r (by omega)) (by omega)), hA.cg (congrFun (k 1 (isP_r (by omega)) (by omega)) 0) (k 74 (isP_r (by omega)) (by omega)) (k 95 (isP_r (by omega)) (by omega)), hC.cg (fun x hx => k x (isP_r (by omega)) (by omega)), hT.cg (congrFun (k 1 (isP_r (by omega)) (by omega)) 0) (congrFun (k 2 (isP_r (by omega)) (by omega)) 0) (congrFun (k 2 (isP_r (by omega)) (by omega)) 1) (k11 12 (by omega)) (k 75 (isP_r (by omega)) (by omega)) (k 99 (isP_r (by omega)) (by omega)), hR', hS.cg (fun x hx => k x (isP_r (by omega)) (by omega)), hL.cg (congrFun (k 10 (isP_r (by omega)) (by omega)) 0) (congrFun (k 10 (isP_r (by omega)) (by omega)) 1) (k11 15 (by omega)) (k11 17 (by omega)) (k 88 (isP_r (by omega)) (by omega)) (k 89 (isP_r (by omega)) (by omega)) (k 102 (isP_r (by omega)) (by omega))⟩
theorem Inv.setS {μ μ' : Mem} (h : Inv μ) (k : ∀ c, isP c = true → ¬ ((64 ≤ c ∧ c ≤ 67) ∨ c = 86 ∨ c = 100 ∨ c = 101 ∨ c = 11) → μ' c = μ c) (k11 : ∀ i, ¬ (i = 77) → μ' 11 i = μ 11 i) (hS' : IS μ') : Inv μ' := by
  obtain ⟨hN, hW, hB, hA, hC, hT, hR, hS, hL⟩ := h
  exact ⟨hN.cg (congrFun (k 1 (isP_r (by omega)) (by omega)) 0) (k11 0 (by omega)), hW.cg (congrFun (k 1 (isP_r (by omega)) (by omega)) 0) (fun x hx => k x (isP_r (by omega)) (by omega)), hB.cg hN (congrFun (k 1 (isP_r (by omega)) (by omega)) 0) (fun x hx => k x (isP_r (by omega)) (by omega)), hA.cg (congrFun (k 1 (isP_r (by omega)) (by omega)) 0) (k 74 (isP_r (by omega)) (by omega)) (k 95 (isP_r (by omega)) (by omega)), hC.cg (fun x hx => k x (isP_r (by omega)) (by omega)), hT.cg (congrFun (k 1 (isP_r (by omega)) (by omega)) 0) (congrFun (k 2 (isP_r (by omega)) (by omega)) 0) (congrFun (k 2 (isP_r (by omega)) (by omega)) 1) (k11 12 (by omega)) (k 75 (isP_r (by omega)) (by omega)) (k 99 (isP_r (by omega)) (by omega)), hR.cg (congrFun (k 6 (isP_r (by omega)) (by omega)) 1) (k11 9 (by omega)) (k 82 (isP_r (by omega)) (by omega)) (k 98 (isP_r (by omega)) (by omega)), hS', hL.cg (congrFun (k 10 (isP_r (by omega)) (by omega)) 0) (congrFun (k 10 (isP_r (by omega)) (by omega)) 1) (k11 15 (by omega)) (k11 17 (by omega)) (k 88 (isP_r (by omega)) (by omega)) (k 89 (isP_r (by omega)) (by omega)) (k 102 (isP_r (by omega)) (by omega))⟩
theorem Inv.setL {μ μ' : Mem} (h : Inv μ) (k : ∀ c, isP c = true → ¬ (c = 10 ∨ c = 88 ∨ c = 89 ∨ c = 102 ∨ c = 11) → μ' c = μ c) (k11 : ∀ i, ¬ (i = 15 ∨ i = 17) → μ' 11 i = μ 11 i) (hL' : IL μ') : Inv μ' := by
  obtain ⟨hN, hW, hB, hA, hC, hT, hR, hS, hL⟩ := h
  exact ⟨hN.cg (congrFun (k 1 (isP_r (by omega)) (by omega)) 0) (k11 0 (by omega)), hW.cg (congrFun (k 1 (isP_r (by omega)) (by omega)) 0) (fun x hx => k x (isP_r (by omega)) (by omega)), hB.cg hN (congrFun (k 1 (isP_r (by omega)) (by omega)) 0) (fun x hx => k x (isP_r (by omega)) (by omega)), hA.cg (congrFun (k 1 (isP_r (by omega)) (by omega)) 0) (k 74 (isP_r (by omega)) (by omega)) (k 95 (isP_r (by omega)) (by omega)), hC.cg (fun x hx => k x (isP_r (by omega)) (by omega)), hT.cg (congrFun (k 1 (isP_r (by omega)) (by omega)) 0) (congrFun (k 2 (isP_r (by omega)) (by omega)) 0) (congrFun (k 2 (isP_r (by omega)) (by omega)) 1) (k11 12 (by omega)) (k 75 (isP_r (by omega)) (by omega)) (k 99 (isP_r (by omega)) (by omega)), hR.cg (congrFun (k 6 (isP_r (by omega)) (by omega)) 1) (k11 9 (by omega)) (k 82 (isP_r (by omega)) (by omega)) (k 98 (isP_r (by omega)) (by omega)), hS.cg (fun x hx => k x (isP_r (by omega)) (by omega)), hL'⟩
theorem okI {μ : Mem} {r : Int} (hI : Inv μ) : Ok r r μ := ⟨rfl, hI⟩
theorem o_benches {μ : Mem} {a : Int} (hI : Inv μ) : wp_X10_benches μ a (fun r μ1 => wp_X11_benches μ1 a (Ok r)) := by
  unfold wp_X10_benches b_X10_benches_e wp_X11_benches b_X11_benches_e
  by_cases h : 2 ≤ a ∧ a ≤ 4
  · simp only [isFrom_iff, in_iff, h, forall_eq]
    simp only [and_self, true_implies, not_true_eq_false, false_implies, and_true]
    refine ⟨fun _ => ⟨fun _ => ?_, fun h => absurd h (by decide)⟩, fun h => absurd h (by decide)⟩
    have hR := hI.2.2.2.2.2.2.1
    refine ⟨by rw [wr_o (by decide)]; exact hR.1, hI.setR (fun c hc hn => by rw [wr_ne (by omega), wr_ne (by omega)]) (fun i hi => by rw [wr_i (by omega), wr_o (by decide)]) ⟨by simp [wr_app], by simp [wr_app]; omega, by simp [wr_app]; omega, fun b h1 h2 => ?_⟩⟩
    rw [wr_o (by decide), wr_o (by decide), wr_o (by decide), wr_o (by decide)]
    exact hR.2.2.2 b h1 h2
  · simp only [isFrom_iff, in_iff, h, forall_eq]
    simp
    exact okI hI
theorem o_likes {μ : Mem} {a : Int} (hI : Inv μ) : wp_X10_likes μ a (fun r μ1 => wp_X11_likes μ1 a (Ok r)) := by
  unfold wp_X10_likes b_X10_likes_e wp_X11_likes b_X11_likes_e
  by_cases h : 1 ≤ a ∧ a ≤ 4
  · simp only [isFrom_iff, in_iff, h, forall_eq]
    simp only [and_self, true_implies, not_true_eq_false, false_implies, and_true]
    refine ⟨fun _ => ⟨fun _ => ?_, fun h => absurd h (by decide)⟩, fun h => absurd h (by decide)⟩
    obtain ⟨l1, l2, l3, l4, l5, l6, l7⟩ := hI.2.2.2.2.2.2.2.2
    refine ⟨by rw [wr_o (by decide)]; exact l4, hI.setL (fun c hc hn => by rw [wr_ne (by omega), wr_ne (by omega)]) (fun i hi => by rw [wr_i (by omega), wr_o (by decide)]) ⟨by simp [wr_app]; exact l1, by simp [wr_app]; exact l2, by simp [wr_app]; exact l3, by simp [wr_app], by simp [wr_app]; omega, by simp [wr_app]; omega, fun i hi => ?_⟩⟩
    have hi' : (i : Int) < μ 10 0 := by simpa [wr_app] using hi
    have := l7 i hi'
    simpa [wr_app] using this
  · simp only [isFrom_iff, in_iff, h, forall_eq]
    simp
    exact okI hI
theorem o_fell {μ : Mem} (hI : Inv μ) : wp_X10_fell μ (fun r μ1 => wp_X11_fell μ1 (Ok r)) := by
  unfold wp_X10_fell b_X10_fell_e wp_X7_empty b_X7_empty_e wp_X11_fell b_X11_fell_e
  simp only [forall_eq]
  obtain ⟨l1, l2, l3, l4, l5, l6, l7⟩ := hI.2.2.2.2.2.2.2.2
  refine ⟨by rw [wr_o (by decide)]; exact l1, hI.setL (fun c hc hn => by rw [wr_ne (by omega), wr_ne (by omega)]) (fun i hi => by rw [wr_i (by omega), wr_o (by decide)]) ⟨by simp [wr_app], by simp [wr_app], by simp [wr_app], by simp [wr_app]; exact l4, by simp [wr_app]; exact l5, by simp [wr_app]; exact l6, fun i hi => ?_⟩⟩
  have hi' : (i : Int) < 0 := by simpa [wr_app] using hi
  omega
theorem o_clear {μ : Mem} (hI : Inv μ) : wp_X10_clear μ (fun r μ1 => wp_X11_clear μ1 (Ok r)) := by
  unfold wp_X10_clear b_X10_clear_e wp_X8_empty b_X8_empty_e wp_X11_clear b_X11_clear_e
  simp only [forall_eq]
  have hS := hI.2.2.2.2.2.2.2.1
  have s0 := (hS 0 (by omega)).1
  have s1 := (hS 1 (by omega)).1
  refine ⟨by simp [wr_app]; rw [s0, s1], hI.setS (fun c hc hn => by rw [wr_ne (by omega), wr_ne (by omega), wr_ne (by omega), wr_ne (by omega)]) (fun i hi => by simp [wr_app]) (fun k hk => ?_)⟩
  have : k = 0 ∨ k = 1 := by omega
  rcases this with rfl | rfl <;> refine ⟨by simp [wr_app], by simp [wr_app], by simp [wr_app], fun i hi => ?_⟩ <;> (have hi' : (i : Int) < 0 := by simpa [wr_app] using hi) <;> omega
theorem o_anew {μ : Mem} (hI : Inv μ) : wp_X10_anew μ (fun r μ1 => wp_X11_anew μ1 (Ok r)) := by
  unfold wp_X10_anew b_X10_anew_e wp_X6_empty b_X6_empty_e wp_X11_anew b_X11_anew_e
  simp only [forall_eq]
  obtain ⟨t1, t2, t3, t4, t5, t6⟩ := hI.2.2.2.2.2.1
  refine ⟨by simp [wr_app]; exact t1, hI.setT (fun c hc hn => by rw [wr_ne (by omega), wr_ne (by omega), wr_ne (by omega)]) (fun i hi => by simp [wr_app]; omega) ⟨by simp [wr_app], by simp [wr_app], by simp [wr_app], fun i hi => ?_, fun i j hi => ?_, 0, by simp [wr_app], by decide, fun w => ⟨fun h => by simp at h, fun ⟨i, hi, _⟩ => ?_⟩⟩⟩
  · have hi' : (i : Int) < 0 := by simpa [wr_app] using hi
    omega
  · have hi' : (i : Int) < 0 := by simpa [wr_app] using hi
    omega
  · have hi' : (i : Int) < 0 := by simpa [wr_app] using hi
    omega
theorem o_way {μ : Mem} {a v : Int} (hI : Inv μ) : wp_X10_way μ a v (fun r μ1 => wp_X11_way μ1 a v (Ok r)) := by
  unfold wp_X10_way b_X10_way_e wp_X11_way b_X11_way_e
  by_cases h : 1 ≤ a ∧ a ≤ 3
  · by_cases h2 : 0 ≤ v ∧ v ≤ 9
    · have h3 : 0 ≤ a ∧ a < 4 := by omega
      simp only [isFrom_iff, in_iff, h, h2, h3, forall_eq]
      simp only [and_self, true_implies, not_true_eq_false, false_implies, and_true, true_and, Int.one_ne_zero, not_false_eq_true]
      obtain ⟨r1, r2, r3, r4⟩ := hI.2.2.2.2.2.2.1
      have hk : 1 ≤ a.toNat ∧ a.toNat < 4 := by omega
      generalize a.toNat = k at hk ⊢
      refine ⟨by rw [wr_o (by decide)]; exact (r4 k hk.1 hk.2).1, hI.setR (fun c hc hn => by rw [wr_ne (by omega), wr_ne (by omega)]) (fun i hi => by simp [wr_app]) ⟨by simp [wr_app]; exact r1, by simp [wr_app]; exact r2, by simp [wr_app]; exact r3, fun b h1 h2' => ?_⟩⟩
      by_cases hb : b = k
      · subst hb
        simp [wr_app]; omega
      · have := r4 b h1 h2'
        simpa [wr_app, hb] using this
    · simp only [isFrom_iff, in_iff, h, h2, forall_eq]
      simp
      exact okI hI
  · simp only [isFrom_iff, in_iff, h, forall_eq]
    simp
    exact okI hI
