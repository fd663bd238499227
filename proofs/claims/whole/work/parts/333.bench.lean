/-! One bench: what an order makes. -/
abbrev St : Type := Int × Int × Int
def chf (μ : Mem) (t : Int) (w : Nat) : Int := if t = -1 then 0 else μ (29 + t.toNat) (μ 28 w).toNat
def eb (μ : Mem) (e : Int) (w : Nat) : Int := imax e (μ 25 w) + μ 24 w
def lte (μ : Mem) (w : Nat) (e : Int) : Int := imax 0 (e - μ 26 w)
def gth (μ : Mem) (aim : Nat) (m : Int) (w : Nat) (e : Int) : Int :=
  if aim = 0 then imax m e else if aim = 1 then m + μ 27 w * e else if aim = 2 then m + μ 27 w * lte μ w e else if aim = 3 then imax m (lte μ w e) else if 0 < lte μ w e then m + μ 27 w else m
def ex (μ : Mem) (aim : Nat) (s : St) (w : Nat) : St := ⟨μ 28 w, eb μ (s.2.1 + chf μ s.1 w) w, gth μ aim s.2.2 w (eb μ (s.2.1 + chf μ s.1 w) w)⟩
def rn (μ : Mem) (aim : Nat) (s : St) (o : Nat → Nat) (k : Nat) : Nat → St
  | 0 => s
  | j + 1 => ex μ aim (rn μ aim s o k j) (o (k + j))
def s0 : St := ⟨-1, 0, 0⟩
def SB (k : Nat) (s : St) : Prop := (-1 ≤ s.1 ∧ s.1 ≤ 2) ∧ (0 ≤ s.2.1 ∧ s.2.1 ≤ 99 + 60 * k) ∧ (0 ≤ s.2.2 ∧ s.2.2 ≤ 12000 * k)
theorem sb0 : SB 0 s0 := ⟨by decide, by decide, by decide⟩
theorem mul_bd {a b : Int} (h1 : 0 ≤ a) (h2 : a ≤ 20) (h3 : 0 ≤ b) (h4 : b ≤ 600) : 0 ≤ a * b ∧ a * b ≤ 12000 := by
  refine ⟨Int.mul_nonneg h1 h3, ?_⟩
  have := Int.mul_le_mul h2 h4 h3 (by omega)
  omega
theorem Inv.w {μ : Mem} (h : Inv μ) {n : Nat} (hn : μ 1 0 = n) {w : Nat} (hw : w < n) : (μ 90 w = μ 24 w ∧ 1 ≤ μ 24 w ∧ μ 24 w ≤ 40) ∧ (μ 91 w = μ 25 w ∧ 0 ≤ μ 25 w ∧ μ 25 w ≤ 99) ∧ (μ 92 w = μ 26 w ∧ 0 ≤ μ 26 w ∧ μ 26 w ≤ 300) ∧ (μ 93 w = μ 27 w ∧ 0 ≤ μ 27 w ∧ μ 27 w ≤ 20) ∧ (μ 94 w = μ 28 w ∧ 0 ≤ μ 28 w ∧ μ 28 w ≤ 2) := by
  have := h.2.1 w (by omega)
  omega
theorem Inv.c {μ : Mem} (h : Inv μ) {f t : Nat} (hf : f < 3) (ht : t < 3) : μ 96 (3 * f + t) = μ (29 + f) t ∧ 0 ≤ μ (29 + f) t ∧ μ (29 + f) t ≤ 20 := by
  have := h.2.2.2.2.1 f t hf ht
  omega
theorem chf_bd {μ : Mem} (h : Inv μ) {n : Nat} (hn : μ 1 0 = n) {w : Nat} (hw : w < n) {t : Int} (h1 : -1 ≤ t) (h2 : t ≤ 2) : 0 ≤ chf μ t w ∧ chf μ t w ≤ 20 := by
  unfold chf
  split
  · omega
  · have q := h.w hn hw
    exact (h.c (f := t.toNat) (t := (μ 28 w).toNat) (by omega) (by omega)).2
theorem eb_bd {μ : Mem} (h : Inv μ) {n : Nat} (hn : μ 1 0 = n) {w : Nat} (hw : w < n) (e : Int) : e + 1 ≤ eb μ e w ∧ eb μ e w ≤ imax e 99 + 40 ∧ 1 ≤ eb μ e w := by
  unfold eb
  have q := h.w hn hw
  have d1 := imax_d e (μ 25 w)
  have d2 := imax_d e 99
  omega
theorem lte_bd {μ : Mem} (h : Inv μ) {n : Nat} (hn : μ 1 0 = n) {w : Nat} (hw : w < n) {e : Int} (h0 : 0 ≤ e) : 0 ≤ lte μ w e ∧ lte μ w e ≤ e := by
  unfold lte
  have q := h.w hn hw
  have d1 := imax_d 0 (e - μ 26 w)
  omega
theorem gth_bd {μ : Mem} (h : Inv μ) {n : Nat} (hn : μ 1 0 = n) {w : Nat} (hw : w < n) {aim : Nat} {m e : Int} (h0 : 0 ≤ e) (h6 : e ≤ 600) (hm : 0 ≤ m) : m ≤ gth μ aim m w e ∧ gth μ aim m w e ≤ m + 12000 := by
  have q := h.w hn hw
  have l := lte_bd h hn hw h0
  have p1 := mul_bd q.2.2.2.1.2.1 q.2.2.2.1.2.2 h0 h6
  have p2 := mul_bd q.2.2.2.1.2.1 q.2.2.2.1.2.2 l.1 (by omega)
  have d1 := imax_d m e
  have d2 := imax_d m (lte μ w e)
  unfold gth
  split
  · omega
  split
  · omega
  split
  · omega
  split
  · omega
  split <;> omega
theorem sb_ex {μ : Mem} (h : Inv μ) {n : Nat} (hn : μ 1 0 = n) {w : Nat} (hw : w < n) {aim : Nat} {s : St} {k : Nat} (hk : k < 8) (hs : SB k s) : SB (k + 1) (ex μ aim s w) := by
  have q := h.w hn hw
  have c := chf_bd h hn hw (t := s.1) hs.1.1 hs.1.2
  have b := eb_bd h hn hw (s.2.1 + chf μ s.1 w)
  have d := imax_d (s.2.1 + chf μ s.1 w) 99
  have e1 := hs.2.1
  have e2 := hs.2.2
  have g := gth_bd h hn hw (aim := aim) (m := s.2.2) (e := eb μ (s.2.1 + chf μ s.1 w) w) (by omega) (by omega) (by omega)
  refine ⟨?_, ?_, ?_⟩
  · show -1 ≤ μ 28 w ∧ μ 28 w ≤ 2
    omega
  · show 0 ≤ eb μ (s.2.1 + chf μ s.1 w) w ∧ eb μ (s.2.1 + chf μ s.1 w) w ≤ _
    omega
  · show 0 ≤ gth μ aim s.2.2 w (eb μ (s.2.1 + chf μ s.1 w) w) ∧ gth μ aim s.2.2 w (eb μ (s.2.1 + chf μ s.1 w) w) ≤ _
    omega
theorem sb_rn {μ : Mem} (h : Inv μ) {n : Nat} (hn : μ 1 0 = n) (h8 : n ≤ 8) {o : Nat → Nat} (ho : ∀ i, i < n → o i < n) {aim : Nat} {j : Nat} (hj : j ≤ n) : SB j (rn μ aim s0 o 0 j) := by
  induction j with
  | zero => exact sb0
  | succ j ih =>
    unfold rn
    exact sb_ex h hn (ho _ (by omega)) (by omega) (ih (by omega))
theorem s_late {μ : Mem} (h : Inv μ) {n : Nat} (hn : μ 1 0 = n) (h8 : n ≤ 8) {w : Nat} (hw : w < n) {e : Int} (h0 : 0 ≤ e) (h6 : e ≤ 1100) {Post : Pst} (hp : Post (lte μ w e) μ) : wp_X9_late μ (w : Int) e Post := by
  unfold wp_X9_late b_X9_late_e
  have q := h.w hn hw
  rw [tn, wrap_id (by omega) (by omega)]
  exact ⟨by omega, hp⟩
theorem s_endBehind {μ : Mem} (h : Inv μ) {n : Nat} (hn : μ 1 0 = n) (h8 : n ≤ 8) {w : Nat} (hw : w < n) {e : Int} (h0 : 0 ≤ e) (h6 : e ≤ 1100) {Post : Pst} (hp : Post (eb μ e w) μ) : wp_X9_endBehind μ e (w : Int) Post := by
  unfold wp_X9_endBehind b_X9_endBehind_e
  have q := h.w hn hw
  have d := imax_d e (μ 25 w)
  rw [tn, wrap_id (by omega) (by omega)]
  exact ⟨by omega, by omega, hp⟩
theorem s_changeFor {μ : Mem} (h : Inv μ) {n : Nat} (hn : μ 1 0 = n) (h8 : n ≤ 8) {w : Nat} (hw : w < n) {t : Int} (h1 : -1 ≤ t) (h2 : t ≤ 2) {Post : Pst} (hp : Post (chf μ t w) μ) : wp_X9_changeFor μ t (w : Int) Post := by
  unfold wp_X9_changeFor b_X9_changeFor_e
  have q := h.w hn hw
  rw [tn]
  unfold chf at hp
  refine ⟨fun h' => ⟨by omega, by omega, by omega, ?_⟩, fun h' => ?_⟩
  · rw [if_neg h'] at hp; exact hp
  · rw [if_pos h'] at hp; exact hp
theorem s_gathered {μ : Mem} (h : Inv μ) {n : Nat} (hn : μ 1 0 = n) (h8 : n ≤ 8) {w : Nat} (hw : w < n) {aim : Nat} (ha : aim < 5) {m e : Int} (h0 : 0 ≤ e) (h6 : e ≤ 600) (hm : 0 ≤ m) (hm' : m ≤ 200000) {Post : Pst} (hp : Post (gth μ aim m w e) μ) : wp_X9_gathered μ (aim : Int) m (w : Int) e Post := by
  unfold wp_X9_gathered b_X9_gathered_e
  have q := h.w hn hw
  have l := lte_bd h hn hw h0
  have p1 := mul_bd q.2.2.2.1.2.1 q.2.2.2.1.2.2 h0 h6
  have p2 := mul_bd q.2.2.2.1.2.1 q.2.2.2.1.2.2 l.1 (by omega)
  unfold gth at hp
  have : aim = 0 ∨ aim = 1 ∨ aim = 2 ∨ aim = 3 ∨ aim = 4 := by omega
  rcases this with rfl | rfl | rfl | rfl | rfl
  · refine ⟨fun h' => by omega, fun _ => hp, fun h' => by omega, fun h' => by omega, fun h' => by omega⟩
  · refine ⟨fun h' => by omega, fun h' => by omega, fun _ => ⟨by omega, ?_⟩, fun h' => by omega, fun h' => by omega⟩
    rw [tn, wrap_id (x := μ 27 w * e) (by omega) (by omega), wrap_id (by omega) (by omega)]
    exact hp
  · refine ⟨fun h' => by omega, fun h' => by omega, fun h' => by omega, fun _ => ⟨by omega, s_late h hn h8 hw h0 (by omega) ?_⟩, fun h' => by omega⟩
    rw [tn, wrap_id (x := μ 27 w * lte μ w e) (by omega) (by omega), wrap_id (by omega) (by omega)]
    exact hp
  · refine ⟨fun h' => by omega, fun h' => by omega, fun h' => by omega, fun h' => by omega, fun _ => s_late h hn h8 hw h0 (by omega) hp⟩
  · refine ⟨fun _ => s_late h hn h8 hw h0 (by omega) ?_, fun h' => by omega, fun h' => by omega, fun h' => by omega, fun h' => by omega⟩
    refine ⟨fun h' => ?_, fun h' => ⟨by omega, ?_⟩⟩
    · rw [if_neg (by decide), if_neg (by decide), if_neg (by decide), if_neg (by decide), if_neg (by omega)] at hp; exact hp
    · rw [if_neg (by decide), if_neg (by decide), if_neg (by decide), if_neg (by decide), if_pos (by omega)] at hp
      rw [tn, wrap_id (by omega) (by omega)]
      exact hp
theorem k_makes {μ : Mem} (h : Inv μ) {n : Nat} (hn : μ 1 0 = n) (h8 : n ≤ 8) {aim : Nat} (ha : aim < 5) {o : Nat → Nat} (ho : ∀ i, i < n → o i < n) (hq : ∀ i, i < n → μ 75 i = o i) {Post : Pst} (hp : Post (rn μ aim s0 o 0 n).2.2 μ) : wp_X9_makes μ (aim : Int) Post := by
  unfold wp_X9_makes b_X9_makes_e
  intro G hG
  refine upTo (P := fun i => G μ (aim : Int) (rn μ aim s0 o 0 i).2.2 (rn μ aim s0 o 0 i).2.1 (rn μ aim s0 o 0 i).1 (i : Int)) (n := n) ?_ ?_
  · exact hG _ _ _ _ _ _ ⟨fun _ => hp, fun h' => absurd h' (by omega)⟩
  · intro i hi ih
    have sb := sb_rn h hn h8 ho (aim := aim) (j := i) (by omega)
    obtain ⟨s, hs⟩ : ∃ s, s = rn μ aim s0 o 0 i := ⟨_, rfl⟩
    have e : rn μ aim s0 o 0 (i + 1) = ex μ aim s (o i) := by rw [hs]; show ex _ _ _ (o (0 + i)) = _; rw [Nat.zero_add]
    rw [e, cs] at ih
    rw [← hs] at sb ⊢
    have hw := ho i hi
    have q := h.w hn hw
    have c := chf_bd h hn hw (t := s.1) sb.1.1 sb.1.2
    have b := eb_bd h hn hw (s.2.1 + chf μ s.1 (o i))
    have d := imax_d (s.2.1 + chf μ s.1 (o i)) 99
    have e1 := sb.2.1
    have e2 := sb.2.2
    refine hG _ _ _ _ _ _ ⟨fun h' => absurd h' (by omega), fun _ => ⟨by omega, ?_⟩⟩
    intro x hx
    rw [tn, hq i hi] at hx
    rw [hx]
    refine s_changeFor h hn h8 hw sb.1.1 sb.1.2 ?_
    rw [wrap_id (by omega) (by omega)]
    refine s_endBehind h hn h8 hw (by omega) (by omega) ?_
    refine s_gathered h hn h8 hw ha (by omega) (by omega) (by omega) (by omega) ⟨by omega, ?_⟩
    rw [wrap_id (by omega) (by omega), tn]
    rintro _ rfl _ rfl
    exact ih
theorem rn_t {μ : Mem} {aim : Nat} {s : St} {o : Nat → Nat} {k j : Nat} : (rn μ aim s o k (j + 1)).1 = μ 28 (o (k + j)) := rfl
theorem rn_m0 {μ : Mem} (h : Inv μ) {n : Nat} (hn : μ 1 0 = n) (h8 : n ≤ 8) {o : Nat → Nat} (ho : ∀ i, i < n → o i < n) {j : Nat} (hj : j ≤ n) : (rn μ 0 s0 o 0 j).2.2 = (rn μ 0 s0 o 0 j).2.1 := by
  induction j with
  | zero => rfl
  | succ j ih =>
    have i1 := ih (by omega)
    have sb := sb_rn h hn h8 ho (aim := 0) (j := j) (by omega)
    have hw := ho (0 + j) (by omega)
    have c := chf_bd h hn hw (t := (rn μ 0 s0 o 0 j).1) sb.1.1 sb.1.2
    have b := eb_bd h hn hw ((rn μ 0 s0 o 0 j).2.1 + chf μ (rn μ 0 s0 o 0 j).1 (o (0 + j)))
    show gth μ 0 (rn μ 0 s0 o 0 j).2.2 (o (0 + j)) (eb μ ((rn μ 0 s0 o 0 j).2.1 + chf μ (rn μ 0 s0 o 0 j).1 (o (0 + j))) (o (0 + j))) = eb μ ((rn μ 0 s0 o 0 j).2.1 + chf μ (rn μ 0 s0 o 0 j).1 (o (0 + j))) (o (0 + j))
    unfold gth
    rw [if_pos rfl]
    have d := imax_d (rn μ 0 s0 o 0 j).2.2 (eb μ ((rn μ 0 s0 o 0 j).2.1 + chf μ (rn μ 0 s0 o 0 j).1 (o (0 + j))) (o (0 + j)))
    omega
