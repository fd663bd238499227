/-! THE BEST: runs from a state on, and what they make at least. -/
theorem gth_ge {μ : Mem} (h : Inv μ) {n : Nat} (hn : μ 1 0 = n) {w : Nat} (hw : w < n) {aim : Nat} {m e : Int} (h0 : 0 ≤ e) : m ≤ gth μ aim m w e := by
  have q := h.w hn hw
  have l := lte_bd h hn hw h0
  have p1 := Int.mul_nonneg q.2.2.2.1.2.1 h0
  have p2 := Int.mul_nonneg q.2.2.2.1.2.1 l.1
  have d1 := imax_d m e
  have d2 := imax_d m (lte μ w e)
  unfold gth
  split
  · omega
  split
  · omega
  split
  · omega
  split
  · omega
  split <;> omega
theorem gth_mono {μ : Mem} (h : Inv μ) {n : Nat} (hn : μ 1 0 = n) {w : Nat} (hw : w < n) {aim : Nat} {m m' e e' : Int} (hm : m ≤ m') (he : e ≤ e') : gth μ aim m w e ≤ gth μ aim m' w e' := by
  have q := h.w hn hw
  have l : lte μ w e ≤ lte μ w e' := by
    unfold lte
    have d1 := imax_d 0 (e - μ 26 w)
    have d2 := imax_d 0 (e' - μ 26 w)
    omega
  have p1 := Int.mul_le_mul_of_nonneg_left he q.2.2.2.1.2.1
  have p2 := Int.mul_le_mul_of_nonneg_left l q.2.2.2.1.2.1
  unfold gth
  split
  · have d1 := imax_d m e
    have d2 := imax_d m' e'
    omega
  split
  · omega
  split
  · omega
  split
  · have d1 := imax_d m (lte μ w e)
    have d2 := imax_d m' (lte μ w e')
    omega
  split
  · rw [if_pos (by omega)]; omega
  · split <;> omega
theorem gth_comm {μ : Mem} {aim : Nat} {m e e' : Int} {w w' : Nat} : gth μ aim (gth μ aim m w e) w' e' = gth μ aim (gth μ aim m w' e') w e := by
  unfold gth
  by_cases a0 : aim = 0
  · simp only [if_pos a0]
    have d1 := imax_d m e
    have d2 := imax_d (imax m e) e'
    have d3 := imax_d m e'
    have d4 := imax_d (imax m e') e
    omega
  simp only [if_neg a0]
  by_cases a1 : aim = 1
  · simp only [if_pos a1]
    omega
  simp only [if_neg a1]
  by_cases a2 : aim = 2
  · simp only [if_pos a2]
    omega
  simp only [if_neg a2]
  by_cases a3 : aim = 3
  · simp only [if_pos a3]
    have d1 := imax_d m (lte μ w e)
    have d2 := imax_d (imax m (lte μ w e)) (lte μ w' e')
    have d3 := imax_d m (lte μ w' e')
    have d4 := imax_d (imax m (lte μ w' e')) (lte μ w e)
    omega
  simp only [if_neg a3]
  by_cases b1 : 0 < lte μ w e
  · by_cases b2 : 0 < lte μ w' e'
    · simp only [if_pos b1, if_pos b2]; omega
    · simp only [if_pos b1, if_neg b2]
  · simp only [if_neg b1]
theorem eb_mono {μ : Mem} {w : Nat} {e e' : Int} (he : e ≤ e') : eb μ e w ≤ eb μ e' w := by
  unfold eb
  have d1 := imax_d e (μ 25 w)
  have d2 := imax_d e' (μ 25 w)
  omega
theorem ex_mono {μ : Mem} (h : Inv μ) {n : Nat} (hn : μ 1 0 = n) {w : Nat} (hw : w < n) {aim : Nat} {s s' : St} (h1 : s.1 = s'.1) (h2 : s.2.1 ≤ s'.2.1) (h3 : s.2.2 ≤ s'.2.2) : (ex μ aim s w).1 = (ex μ aim s' w).1 ∧ (ex μ aim s w).2.1 ≤ (ex μ aim s' w).2.1 ∧ (ex μ aim s w).2.2 ≤ (ex μ aim s' w).2.2 := by
  have e : eb μ (s.2.1 + chf μ s.1 w) w ≤ eb μ (s'.2.1 + chf μ s'.1 w) w := eb_mono (by rw [h1]; omega)
  exact ⟨rfl, e, gth_mono h hn hw h3 e⟩
theorem rn_mono {μ : Mem} (h : Inv μ) {n : Nat} (hn : μ 1 0 = n) {aim : Nat} {p : Nat → Nat} {s s' : St} (h1 : s.1 = s'.1) (h2 : s.2.1 ≤ s'.2.1) (h3 : s.2.2 ≤ s'.2.2) {k : Nat} (j : Nat) (hp : ∀ i, k ≤ i → i < k + j → p i < n) : (rn μ aim s p k j).1 = (rn μ aim s' p k j).1 ∧ (rn μ aim s p k j).2.1 ≤ (rn μ aim s' p k j).2.1 ∧ (rn μ aim s p k j).2.2 ≤ (rn μ aim s' p k j).2.2 := by
  induction j with
  | zero => exact ⟨h1, h2, h3⟩
  | succ j ih =>
    have i1 := ih (fun i a b => hp i a (by omega))
    unfold rn
    exact ex_mono h hn (hp (k + j) (by omega) (by omega)) i1.1 i1.2.1 i1.2.2
theorem rn_split {μ : Mem} {aim : Nat} {p : Nat → Nat} {s : St} {k a : Nat} (b : Nat) : rn μ aim s p k (a + b) = rn μ aim (rn μ aim s p k a) p (k + a) b := by
  induction b with
  | zero => rfl
  | succ b ih =>
    show ex μ aim (rn μ aim s p k (a + b)) (p (k + (a + b))) = ex μ aim (rn μ aim (rn μ aim s p k a) p (k + a) b) (p (k + a + b))
    rw [ih, Nat.add_assoc]
theorem rn_cgo {μ : Mem} {aim : Nat} {p p' : Nat → Nat} {s : St} {k : Nat} (j : Nat) (h : ∀ i, k ≤ i → i < k + j → p i = p' i) : rn μ aim s p k j = rn μ aim s p' k j := by
  induction j with
  | zero => rfl
  | succ j ih =>
    unfold rn
    rw [ih (fun i a b => h i a (by omega)), h (k + j) (by omega) (by omega)]
theorem sb_rk {μ : Mem} (h : Inv μ) {n : Nat} (hn : μ 1 0 = n) (h8 : n ≤ 8) {o : Nat → Nat} {aim : Nat} {j : Nat} (ho : ∀ i, i < j → o i < n) (hj : j ≤ n) : SB j (rn μ aim s0 o 0 j) := by
  induction j with
  | zero => exact sb0
  | succ j ih =>
    unfold rn
    exact sb_ex h hn (ho _ (by omega)) (by omega) (ih (fun i hi => ho i (by omega)) (by omega))
/-- a run only adds -/
theorem rn_ge {μ : Mem} (h : Inv μ) {n : Nat} (hn : μ 1 0 = n) {aim : Nat} {p : Nat → Nat} {s : St} {k : Nat} (h1 : -1 ≤ s.1 ∧ s.1 ≤ 2) (h2 : 0 ≤ s.2.1) (j : Nat) (hp : ∀ i, k ≤ i → i < k + j → p i < n) : (-1 ≤ (rn μ aim s p k j).1 ∧ (rn μ aim s p k j).1 ≤ 2) ∧ 0 ≤ (rn μ aim s p k j).2.1 ∧ s.2.2 ≤ (rn μ aim s p k j).2.2 := by
  induction j with
  | zero => exact ⟨h1, h2, Int.le_refl _⟩
  | succ j ih =>
    have i1 := ih (fun i a b => hp i a (by omega))
    have hw := hp (k + j) (by omega) (by omega)
    have q := h.w hn hw
    have c := chf_bd h hn hw i1.1.1 i1.1.2
    have b := eb_bd h hn hw ((rn μ aim s p k j).2.1 + chf μ (rn μ aim s p k j).1 (p (k + j)))
    have g := gth_ge h hn hw (aim := aim) (m := (rn μ aim s p k j).2.2) (e := eb μ ((rn μ aim s p k j).2.1 + chf μ (rn μ aim s p k j).1 (p (k + j))) (p (k + j))) (by omega)
    refine ⟨?_, ?_, ?_⟩
    · show -1 ≤ μ 28 (p (k + j)) ∧ μ 28 (p (k + j)) ≤ 2
      omega
    · show 0 ≤ eb μ ((rn μ aim s p k j).2.1 + chf μ (rn μ aim s p k j).1 (p (k + j))) (p (k + j))
      omega
    · show s.2.2 ≤ gth μ aim (rn μ aim s p k j).2.2 (p (k + j)) (eb μ ((rn μ aim s p k j).2.1 + chf μ (rn μ aim s p k j).1 (p (k + j))) (p (k + j)))
      omega
/-- as if each that is left came next -/
def nlo (μ : Mem) (aim S : Nat) (E v : Int) : Nat → Int
  | 0 => v
  | i + 1 => if S.testBit i then nlo μ aim S E v i else gth μ aim (nlo μ aim S E v i) i (eb μ E i)
theorem nlo_g {μ : Mem} {aim S : Nat} {E v e : Int} {w : Nat} (i : Nat) : nlo μ aim S E (gth μ aim v w e) i = gth μ aim (nlo μ aim S E v i) w e := by
  induction i with
  | zero => rfl
  | succ i ih =>
    unfold nlo
    split
    · exact ih
    · rw [ih]; exact gth_comm
theorem nlo_cg {μ : Mem} {aim S X : Nat} {E v : Int} {i : Nat} (h : ∀ u, u < i → S.testBit u = X.testBit u) : nlo μ aim S E v i = nlo μ aim X E v i := by
  induction i with
  | zero => rfl
  | succ i ih => unfold nlo; rw [ih (fun u hu => h u (by omega)), h i (by omega)]
theorem or_bit {S w u : Nat} : (S ||| 2 ^ w).testBit u = (S.testBit u || decide (w = u)) := by rw [Nat.testBit_or, Nat.testBit_two_pow]
theorem nlo_pull {μ : Mem} {aim S : Nat} {E v : Int} {w i : Nat} (hw : w < i) (hs : S.testBit w = false) : nlo μ aim S E v i = nlo μ aim (S ||| 2 ^ w) E (gth μ aim v w (eb μ E w)) i := by
  induction i with
  | zero => omega
  | succ i ih =>
    unfold nlo
    by_cases c : w = i
    · subst c
      rw [hs, or_bit, hs, if_neg (by decide), if_pos (by simp), nlo_cg (S := S ||| 2 ^ w) (X := S) (fun u hu => by rw [or_bit]; simp; intro hh; omega), nlo_g]
    · rw [or_bit, ← ih (by omega)]
      have : (S.testBit i || decide (w = i)) = S.testBit i := by simp [c]
      rw [this]
theorem nlo_all {μ : Mem} {aim S : Nat} {E v : Int} {i : Nat} (h : ∀ u, u < i → S.testBit u = true) : nlo μ aim S E v i = v := by
  induction i with
  | zero => rfl
  | succ i ih => unfold nlo; rw [h i (by omega), if_pos rfl]; exact ih (fun u hu => h u (by omega))
theorem bs_new {p : Nat → Nat} {n k : Nat} (hP : Pm p n) (hk : k < n) : (bs p k).testBit (p k) = false := by
  cases hc : (bs p k).testBit (p k) with
  | false => rfl
  | true =>
    obtain ⟨j, hj, e⟩ := bs_bit.mp hc
    have := hP.2 j k (by omega) hk e
    omega
theorem nlo_le {μ : Mem} (h : Inv μ) {n : Nat} (hn : μ 1 0 = n) {aim : Nat} {p : Nat → Nat} (hP : Pm p n) {E : Int} (hE : 0 ≤ E) (j : Nat) : ∀ (k : Nat) (s : St) (v : Int), k + j = n → (-1 ≤ s.1 ∧ s.1 ≤ 2) → E ≤ s.2.1 → v ≤ s.2.2 → nlo μ aim (bs p k) E v n ≤ (rn μ aim s p k j).2.2 := by
  induction j with
  | zero =>
    intro k s v hk h1 h2 h3
    rw [nlo_all (fun u hu => by
      obtain ⟨i, hi, e⟩ := hP.onto hu
      exact bs_bit.mpr ⟨i, by omega, e⟩)]
    exact h3
  | succ j ih =>
    intro k s v hk h1 h2 h3
    have hw := hP.1 k (by omega)
    have q := h.w hn hw
    rw [Nat.add_comm j 1, rn_split, nlo_pull hw (bs_new hP (by omega))]
    have e1 : rn μ aim s p k 1 = ex μ aim s (p k) := rfl
    have c := chf_bd h hn hw h1.1 h1.2
    have b := eb_bd h hn hw (s.2.1 + chf μ s.1 (p k))
    rw [e1]
    refine ih (k + 1) (ex μ aim s (p k)) _ (by omega) ?_ ?_ ?_
    · show -1 ≤ μ 28 (p k) ∧ μ 28 (p k) ≤ 2
      omega
    · show E ≤ eb μ (s.2.1 + chf μ s.1 (p k)) (p k)
      omega
    · show gth μ aim v (p k) (eb μ E (p k)) ≤ gth μ aim s.2.2 (p k) (eb μ (s.2.1 + chf μ s.1 (p k)) (p k))
      exact gth_mono h hn hw h3 (eb_mono (by omega))
theorem gth_cg {μ μ' : Mem} (k : Kp μ μ') : gth μ' = gth μ := by
  funext aim m w e
  unfold gth
  rw [lte_cg k, k 27 (isP_r (by omega))]
theorem eb_cg {μ μ' : Mem} (k : Kp μ μ') : eb μ' = eb μ := by
  funext e w
  unfold eb
  rw [k 25 (isP_r (by omega)), k 24 (isP_r (by omega))]
theorem k_notLess {μ M : Mem} (h : Inv μ) (k1 : Kp μ M) {n : Nat} (hn : μ 1 0 = n) (h8 : n ≤ 8) {aim : Nat} (ha : aim < 5) (hM : M 3 3 = aim) {S : Nat} (hS : S < 256) {E v : Int} (h0 : 0 ≤ E) (hE : ∀ w, w < n → S.testBit w = false → E ≤ 550) (hv : 0 ≤ v ∧ v ≤ 100000) {Post : Pst} (hp : Post (nlo μ aim S E v n) M) : wp_X2_notLess M (S : Int) E v Post := by
  unfold wp_X2_notLess b_X2_notLess_e
  intro G hG
  have I1 := h.kp k1
  have n1 : M 1 0 = n := by rw [k1 1 rfl]; exact hn
  refine upTo (P := fun i => (0 ≤ nlo μ aim S E v i ∧ nlo μ aim S E v i ≤ 100000 + 12000 * i) → G M (S : Int) E (nlo μ aim S E v i) (i : Int)) (n := n) ?_ ?_ (by show 0 ≤ v ∧ v ≤ _; omega)
  · intro _
    exact hG _ _ _ _ _ ⟨fun _ => hp, fun h' => absurd h' (by omega)⟩
  · intro i hi ih hb
    refine hG _ _ _ _ _ ⟨fun h' => absurd h' (by omega), fun _ => s_isIn (by omega) (by omega) ?_⟩
    have nx : ∀ y, y = nlo μ aim S E v (i + 1) → (0 ≤ y ∧ y ≤ 100000 + 12000 * ((i + 1 : Nat) : Int)) → b_X2_notLess_54 G Post M (S : Int) E y (i : Int) := by
      intro y hy hyb
      unfold b_X2_notLess_54
      rw [wrap_id (by omega) (by omega)]
      intro x hx
      rw [hx, ← cs, hy]
      exact ih (by rw [← hy]; exact hyb)
    have ev : nlo μ aim S E v (i + 1) = if S.testBit i then nlo μ aim S E v i else gth μ aim (nlo μ aim S E v i) i (eb μ E i) := rfl
    cases hb2 : S.testBit i with
    | true =>
      rw [hb2, if_pos rfl] at ev
      exact ⟨fun _ => nx _ ev.symm (by omega), fun h' => absurd h' (by decide)⟩
    | false =>
      rw [hb2, if_neg (by decide)] at ev
      have hE' := hE i hi hb2
      refine ⟨fun h' => absurd rfl h', fun _ => ?_⟩
      have b := eb_bd h hn hi E
      have d := imax_d E 99
      have g := gth_bd h hn hi (aim := aim) (m := nlo μ aim S E v i) (e := eb μ E i) (by omega) (by omega) hb.1
      refine s_endBehind I1 n1 h8 hi h0 (by omega) ?_
      rw [eb_cg k1, hM]
      refine s_gathered I1 n1 h8 hi ha (by omega) (by omega) hb.1 (by omega) ?_
      rw [gth_cg k1]
      exact nx _ ev.symm (by omega)
