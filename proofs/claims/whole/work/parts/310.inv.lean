/-! What the class's cells and the reference's have in common, between calls. -/
theorem wr_app (μ : Mem) (c i : Nat) (v : Int) (a j : Nat) : wr μ c i v a j = if a = c then (if j = i then v else μ c j) else μ a j := by
  unfold wr
  by_cases h : a = c
  · rw [if_pos h, if_pos h]
  · rw [if_neg h, if_neg h]
theorem wr_o {μ : Mem} {c i a j : Nat} {v : Int} (h : a ≠ c) : wr μ c i v a j = μ a j := by rw [wr_ne h]
theorem wr_s {μ : Mem} {c i : Nat} {v : Int} : wr μ c i v c i = v := by rw [wr_app, if_pos rfl, if_pos rfl]
theorem wr_i {μ : Mem} {c i j : Nat} {v : Int} (h : j ≠ i) : wr μ c i v c j = μ c j := by rw [wr_app, if_pos rfl, if_neg h]
def IN (μ : Mem) : Prop := 0 ≤ μ 1 0 ∧ μ 1 0 ≤ 8 ∧ μ 11 0 = μ 1 0
def IW (μ : Mem) : Prop := ∀ w : Nat, (w : Int) < μ 1 0 → (μ 24 w = μ 90 w ∧ 1 ≤ μ 24 w ∧ μ 24 w ≤ 40) ∧ (μ 25 w = μ 91 w ∧ 0 ≤ μ 25 w ∧ μ 25 w ≤ 99) ∧ (μ 26 w = μ 92 w ∧ 0 ≤ μ 26 w ∧ μ 26 w ≤ 300) ∧ (μ 27 w = μ 93 w ∧ 0 ≤ μ 27 w ∧ μ 27 w ≤ 20) ∧ (μ 28 w = μ 94 w ∧ 0 ≤ μ 28 w ∧ μ 28 w ≤ 2)
def IB (μ : Mem) : Prop := ∀ w b : Nat, (w : Int) < μ 1 0 → b < 4 → μ (32 + w) b = μ 97 (4 * w + b) ∧ 1 ≤ μ (32 + w) b ∧ μ (32 + w) b ≤ 40
def IA (μ : Mem) : Prop := ∃ (A rk : Nat → Nat), (∀ w, w < 8 → μ 74 w = A w) ∧ (∀ w : Nat, (w : Int) < μ 1 0 → μ 95 w = A w) ∧ (∀ w : Nat, μ 1 0 ≤ w → A w = 0) ∧ (∀ u w : Nat, (A w).testBit u = true → (u : Int) < μ 1 0 ∧ rk u < rk w)
def IC (μ : Mem) : Prop := ∀ f t : Nat, f < 3 → t < 3 → μ (29 + f) t = μ 96 (3 * f + t) ∧ 0 ≤ μ (29 + f) t ∧ μ (29 + f) t ≤ 20
def IT (μ : Mem) : Prop := μ 2 0 = μ 11 12 ∧ 0 ≤ μ 2 0 ∧ μ 2 0 ≤ 8 ∧ (∀ i : Nat, (i : Int) < μ 2 0 → μ 75 i = μ 99 i ∧ 0 ≤ μ 75 i ∧ μ 75 i < μ 1 0) ∧ (∀ i j : Nat, (i : Int) < μ 2 0 → (j : Int) < μ 2 0 → μ 75 i = μ 75 j → i = j) ∧ ∃ M : Nat, μ 2 1 = M ∧ M < 256 ∧ ∀ w : Nat, M.testBit w = true ↔ ∃ i : Nat, (i : Int) < μ 2 0 ∧ μ 75 i = w
def IR (μ : Mem) : Prop := μ 6 1 = μ 11 9 ∧ 2 ≤ μ 6 1 ∧ μ 6 1 ≤ 4 ∧ ∀ b : Nat, 1 ≤ b → b < 4 → μ 82 b = μ 98 b ∧ 0 ≤ μ 82 b ∧ μ 82 b ≤ 9
def IS (μ : Mem) : Prop := ∀ k : Nat, k < 2 → μ 86 k = μ 101 k ∧ 0 ≤ μ 86 k ∧ μ 86 k ≤ 6 ∧ ∀ i : Nat, (i : Int) < μ 86 k → (μ (64 + k) i = μ 100 (12 * k + 2 * i) ∧ 0 ≤ μ (64 + k) i ∧ μ (64 + k) i ≤ 5) ∧ (μ (66 + k) i = μ 100 (12 * k + 2 * i + 1) ∧ 1 ≤ μ (66 + k) i ∧ μ (66 + k) i ≤ 20)
def IL (μ : Mem) : Prop := μ 10 0 = μ 11 15 ∧ 0 ≤ μ 10 0 ∧ μ 10 0 ≤ 12 ∧ μ 10 1 = μ 11 17 ∧ 1 ≤ μ 10 1 ∧ μ 10 1 ≤ 4 ∧ ∀ i : Nat, (i : Int) < μ 10 0 → μ 88 i = μ 102 i ∧ -1 ≤ μ 88 i ∧ μ 88 i < i ∧ μ 89 i = if μ 88 i = -1 then 1 else μ 89 (μ 88 i).toNat + 1
def Inv (μ : Mem) : Prop := IN μ ∧ IW μ ∧ IB μ ∧ IA μ ∧ IC μ ∧ IT μ ∧ IR μ ∧ IS μ ∧ IL μ
theorem IN.cg {μ μ' : Mem} (h : IN μ) (h1 : μ' 1 0 = μ 1 0) (h2 : μ' 11 0 = μ 11 0) : IN μ' := by
  unfold IN at *; rw [h1, h2]; exact h
theorem IW.cg {μ μ' : Mem} (h : IW μ) (h1 : μ' 1 0 = μ 1 0) (hc : ∀ c, (24 ≤ c ∧ c ≤ 28) ∨ (90 ≤ c ∧ c ≤ 94) → μ' c = μ c) : IW μ' := by
  unfold IW at *
  rw [h1, hc 24 (by omega), hc 25 (by omega), hc 26 (by omega), hc 27 (by omega), hc 28 (by omega), hc 90 (by omega), hc 91 (by omega), hc 92 (by omega), hc 93 (by omega), hc 94 (by omega)]
  exact h
theorem IB.cg {μ μ' : Mem} (h : IB μ) (h0 : IN μ) (h1 : μ' 1 0 = μ 1 0) (hc : ∀ c, (32 ≤ c ∧ c ≤ 39) ∨ c = 97 → μ' c = μ c) : IB μ' := by
  intro w b hw hb
  rw [h1] at hw
  have h8 := h0.2.1
  rw [hc (32 + w) (by omega), hc 97 (by omega)]
  exact h w b hw hb
theorem IA.cg {μ μ' : Mem} (h : IA μ) (h1 : μ' 1 0 = μ 1 0) (h2 : μ' 74 = μ 74) (h3 : μ' 95 = μ 95) : IA μ' := by
  unfold IA at *; rw [h1, h2, h3]; exact h
theorem IC.cg {μ μ' : Mem} (h : IC μ) (hc : ∀ c, (29 ≤ c ∧ c ≤ 31) ∨ c = 96 → μ' c = μ c) : IC μ' := by
  intro f t hf ht
  rw [hc (29 + f) (by omega), hc 96 (by omega)]
  exact h f t hf ht
theorem IT.cg {μ μ' : Mem} (h : IT μ) (h1 : μ' 1 0 = μ 1 0) (h2 : μ' 2 0 = μ 2 0) (h3 : μ' 2 1 = μ 2 1) (h4 : μ' 11 12 = μ 11 12) (h5 : μ' 75 = μ 75) (h6 : μ' 99 = μ 99) : IT μ' := by
  unfold IT at *; rw [h1, h2, h3, h4, h5, h6]; exact h
theorem IR.cg {μ μ' : Mem} (h : IR μ) (h1 : μ' 6 1 = μ 6 1) (h2 : μ' 11 9 = μ 11 9) (h3 : μ' 82 = μ 82) (h4 : μ' 98 = μ 98) : IR μ' := by
  unfold IR at *; rw [h1, h2, h3, h4]; exact h
theorem IS.cg {μ μ' : Mem} (h : IS μ) (hc : ∀ c, (64 ≤ c ∧ c ≤ 67) ∨ c = 86 ∨ c = 100 ∨ c = 101 → μ' c = μ c) : IS μ' := by
  intro k hk
  rw [hc (64 + k) (by omega), hc (66 + k) (by omega), hc 86 (by omega), hc 100 (by omega), hc 101 (by omega)]
  exact h k hk
theorem IL.cg {μ μ' : Mem} (h : IL μ) (h1 : μ' 10 0 = μ 10 0) (h2 : μ' 10 1 = μ 10 1) (h3 : μ' 11 15 = μ 11 15) (h4 : μ' 11 17 = μ 11 17) (h5 : μ' 88 = μ 88) (h6 : μ' 89 = μ 89) (h7 : μ' 102 = μ 102) : IL μ' := by
  unfold IL at *; rw [h1, h2, h3, h4, h5, h6, h7]; exact h
/-- the cells that calls keep -/
def isP (c : Nat) : Bool := c == 1 || c == 2 || c == 6 || c == 10 || c == 11 || (decide (24 ≤ c) && decide (c ≤ 39)) || (decide (64 ≤ c) && decide (c ≤ 67)) || c == 74 || c == 75 || c == 82 || c == 86 || (decide (88 ≤ c) && decide (c ≤ 102))
def Kp (μ μ' : Mem) : Prop := ∀ c, isP c = true → μ' c = μ c
theorem Kp.rf {μ : Mem} : Kp μ μ := fun _ _ => rfl
theorem Kp.tr {μ μ1 μ2 : Mem} (h1 : Kp μ μ1) (h2 : Kp μ1 μ2) : Kp μ μ2 := fun c hc => (h2 c hc).trans (h1 c hc)
theorem Kp.wr {μ μ1 : Mem} {c i : Nat} {v : Int} (h : Kp μ μ1) (hc : isP c = false) : Kp μ (wr μ1 c i v) := fun d hd => by
  rw [wr_ne (fun e => by rw [e, hc] at hd; cases hd)]
  exact h d hd
theorem Inv.kp {μ μ' : Mem} (h : Inv μ) (k : Kp μ μ') : Inv μ' := by
  obtain ⟨a, b, c, d, e, f, g, i, j⟩ := h
  have k1 := congrFun (k 1 rfl)
  have k2 := congrFun (k 2 rfl)
  have k6 := congrFun (k 6 rfl)
  have k10 := congrFun (k 10 rfl)
  have k11 := congrFun (k 11 rfl)
  have kr : ∀ x, (24 ≤ x ∧ x ≤ 39) ∨ (64 ≤ x ∧ x ≤ 67) ∨ (88 ≤ x ∧ x ≤ 102) ∨ x = 86 → μ' x = μ x := fun x hx => k x (by
    unfold isP
    rcases hx with hx | hx | hx | hx
    · simp [hx]
    · simp [hx]
    · simp [hx]
    · simp [hx])
  exact ⟨a.cg (k1 0) (k11 0), b.cg (k1 0) (fun x hx => kr x (by omega)), c.cg a (k1 0) (fun x hx => kr x (by omega)), d.cg (k1 0) (k 74 rfl) (k 95 rfl), e.cg (fun x hx => kr x (by omega)), f.cg (k1 0) (k2 0) (k2 1) (k11 12) (k 75 rfl) (k 99 rfl), g.cg (k6 1) (k11 9) (k 82 rfl) (k 98 rfl), i.cg (fun x hx => kr x (by omega)), j.cg (k10 0) (k10 1) (k11 15) (k11 17) (k 88 rfl) (k 89 rfl) (k 102 rfl)⟩
theorem inv0 : Inv mu12 := by
  have hz : ∀ c, c ≠ 6 → c ≠ 82 → c ≠ 10 → c ≠ 11 → c ≠ 98 → ∀ i, mu12 c i = 0 := by
    intro c h1 h2 h3 h4 h5 i
    unfold mu12 mu11 mu10 mu9 mu8 mu7 mu6 mu5 mu4 mu3 mu2 mu1 mu0
    simp only [wr_app]
    simp [h1, h2, h3, h4, h5]
  have z1 := hz 1 (by decide) (by decide) (by decide) (by decide) (by decide) 0
  refine ⟨⟨by rw [z1]; decide, by rw [z1]; decide, by rw [z1]; rfl⟩, fun w hw => ?_, fun w b hw => ?_, ⟨fun _ => 0, fun _ => 0, fun w _ => hz 74 (by decide) (by decide) (by decide) (by decide) (by decide) w, fun w hw => ?_, fun _ _ => rfl, fun u w h => by simp at h⟩, fun f t hf ht => ?_, ⟨rfl, by decide, by decide, fun i hi => ?_, fun i j hi => ?_, 0, rfl, by decide, fun w => ⟨fun h => by simp at h, fun ⟨i, hi, _⟩ => ?_⟩⟩, ⟨rfl, by decide, by decide, fun b h1 h2 => ?_⟩, fun k hk => ?_, ⟨rfl, by decide, by decide, rfl, by decide, by decide, fun i hi => ?_⟩⟩
  · rw [z1] at hw; omega
  · rw [z1] at hw; omega
  · rw [z1] at hw; omega
  · rw [hz (29 + f) (by omega) (by omega) (by omega) (by omega) (by omega), hz 96 (by decide) (by decide) (by decide) (by decide) (by decide)]
    exact ⟨rfl, by decide, by decide⟩
  · have hi' : (i : Int) < 0 := hi
    omega
  · have hi' : (i : Int) < 0 := hi
    omega
  · have hi' : (i : Int) < 0 := hi
    omega
  · have : b = 1 ∨ b = 2 ∨ b = 3 := by omega
    rcases this with rfl | rfl | rfl <;> exact ⟨rfl, by decide, by decide⟩
  · rw [hz 86 (by decide) (by decide) (by decide) (by decide) (by decide), hz 101 (by decide) (by decide) (by decide) (by decide) (by decide)]
    exact ⟨rfl, by decide, by decide, fun i hi => by omega⟩
  · have hi' : (i : Int) < 0 := hi
    omega
