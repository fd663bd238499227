/-! digest -/
def fld (h v : Int) : Int := wrapL (wrapL (31 * h) + v)
def foldTo (h : Int) (f : Nat → Int) : Nat → Int
  | 0 => h
  | n + 1 => fld (foldTo h f n) (f n)
theorem foldTo_cg {f g : Nat → Int} {h : Int} {n : Nat} (e : ∀ i, i < n → f i = g i) : foldTo h f n = foldTo h g n := by
  induction n with
  | zero => rfl
  | succ n ih => unfold foldTo; rw [ih (fun i hi => e i (by omega)), e n (by omega)]
theorem s_fold {μ : Mem} {h v : Int} {Post : Pst} (hp : Post (fld h v) μ) : wp_X10_fold μ h v Post := hp
theorem s_sums {μ : Mem} {h : Int} {c st n : Nat} {Post : Pst} (hc : 24 ≤ c ∧ c < 112) (hl : st + n ≤ len c) (hs : st + n ≤ 5000) (hp : Post (foldTo h (fun k => μ c (st + k)) n) μ) : wp_X11_sums μ h c (st : Int) (n : Int) Post := by
  unfold wp_X11_sums b_X11_sums_e
  intro G hG
  refine upTo (P := fun i => G μ c (st : Int) (n : Int) (foldTo h (fun k => μ c (st + k)) i) (i : Int)) (n := n) ?_ ?_
  · exact hG _ _ _ _ _ _ ⟨fun _ => hp, fun h' => absurd h' (by omega)⟩
  · intro i hi ih
    refine hG _ _ _ _ _ _ ⟨fun h' => absurd h' (by omega), fun _ => ?_⟩
    have e : ((st : Int) + (i : Int)).toNat = st + i := by omega
    simp (disch := omega) only [wrap_id, e]
    refine ⟨⟨by omega, by omega, by omega, by omega⟩, ?_⟩
    rintro _ rfl _ rfl
    rw [cs] at ih
    exact ih
def cnt (μ : Mem) (k : Nat) : Int := if k = 0 then μ 1 0 else if k = 1 then μ 2 0 else if k = 2 then μ 86 0 else if k = 3 then μ 86 1 else μ 10 0
theorem s_count {μ : Mem} {k : Nat} {Post : Pst} (hk : k < 5) (hp : Post (cnt μ k) μ) : wp_X10_count μ (k : Int) Post := by
  unfold wp_X10_count b_X10_count_e
  have : k = 0 ∨ k = 1 ∨ k = 2 ∨ k = 3 ∨ k = 4 := by omega
  rcases this with rfl | rfl | rfl | rfl | rfl
  all_goals
    refine ⟨fun h => by omega, fun h => ?_, fun h => ?_, fun h => ?_, fun h => ?_, fun h => ?_⟩
    all_goals first | exact hp | (exfalso; omega)
theorem m_count {μ : Mem} {k : Nat} {Post : Pst} (hI : Inv μ) (hk : k < 5) (hp : Post (cnt μ k) μ) : wp_X11_count μ (k : Int) Post := by
  obtain ⟨hN, -, -, -, -, hT, -, hS, hL⟩ := id hI
  have s0 := (hS 0 (by omega)).1
  have s1 := (hS 1 (by omega)).1
  unfold wp_X11_count b_X11_count_e b_X11_count_46
  have : k = 0 ∨ k = 1 ∨ k = 2 ∨ k = 3 ∨ k = 4 := by omega
  rcases this with rfl | rfl | rfl | rfl | rfl
  · refine ⟨fun h => by omega, fun h => ?_, fun h => by omega, fun h => by omega, fun h => by omega, fun h => by omega⟩
    rw [hN.2.2]; exact hp
  · refine ⟨fun h => by omega, fun h => by omega, fun h => ?_, fun h => by omega, fun h => by omega, fun h => by omega⟩
    rw [← hT.1]; exact hp
  · refine ⟨fun h => by omega, fun h => by omega, fun h => by omega, fun h => ⟨by decide, ?_⟩, fun h => by omega, fun h => by omega⟩
    show Post (μ 101 0) μ
    rw [← s0]; exact hp
  · refine ⟨fun h => by omega, fun h => by omega, fun h => by omega, fun h => by omega, fun h => ⟨by decide, ?_⟩, fun h => by omega⟩
    show Post (μ 101 1) μ
    rw [← s1]; exact hp
  · refine ⟨fun h => by omega, fun h => by omega, fun h => by omega, fun h => by omega, fun h => by omega, fun h => ?_⟩
    rw [← hL.1]; exact hp
def dgW (μ : Mem) (h : Int) (w : Nat) : Int := foldTo (fld (foldTo h (fun t => μ (24 + t) w) 5) (μ 74 w)) (T μ w) 4
def dgA (μ : Mem) (h : Int) : Nat → Int
  | 0 => h
  | n + 1 => dgW μ (dgA μ h n) n
theorem k_foldW {μ : Mem} {h : Int} {n : Nat} {Post : Pst} (hI : Inv μ) (hn : μ 1 0 = n) (h8 : n ≤ 8) (hp : Post (foldTo (dgA μ h n) (fun k => μ 96 k) 9) μ) : wp_X9_foldInto μ h Post := by
  unfold wp_X9_foldInto b_X9_foldInto_e
  intro G2 G13 G53 G87 G95 h2 h13 h53 h87 h95
  have hC := hI.2.2.2.2.1
  refine upTo (P := fun w => G2 μ (dgA μ h w) (w : Int)) (n := n) ?_ ?_
  · refine h2 _ _ _ ⟨fun _ => ?_, fun h' => absurd h' (by omega)⟩
    refine upTo (P := fun f => G87 μ (foldTo (dgA μ h n) (fun k => μ 96 k) (3 * f)) (f : Int)) (n := 3) ?_ ?_
    · exact h87 _ _ _ ⟨fun _ => hp, fun h' => absurd h' (by omega)⟩
    · intro f hf ihf
      refine h87 _ _ _ ⟨fun h' => absurd h' (by omega), fun _ => ?_⟩
      refine upTo (P := fun t => G95 μ (foldTo (dgA μ h n) (fun k => μ 96 k) (3 * f + t)) (f : Int) (t : Int)) (n := 3) ?_ ?_
      · refine h95 _ _ _ _ ⟨fun _ => ?_, fun h' => absurd h' (by omega)⟩
        rw [wrap_id (by omega) (by omega)]
        rintro _ rfl
        rw [cs] at ihf
        exact ihf
      · intro t ht iht
        refine h95 _ _ _ _ ⟨fun h' => absurd h' (by omega), fun _ => ⟨by omega, by omega, ?_⟩⟩
        simp (disch := omega) only [wrap_id, tn]
        refine s_fold ?_
        rintro _ rfl
        rw [(hC f t hf ht).1]
        rw [cs] at iht
        exact iht
  · intro w hw ihw
    refine h2 _ _ _ ⟨fun h' => absurd h' (by omega), fun _ => ?_⟩
    refine upTo (P := fun t => G13 μ (foldTo (dgA μ h w) (fun t => μ (24 + t) w) t) (w : Int) (t : Int)) (n := 5) ?_ ?_
    · refine h13 _ _ _ _ ⟨fun _ => ⟨by omega, ?_⟩, fun h' => absurd h' (by omega)⟩
      rw [tn]
      refine s_fold ?_
      refine upTo (P := fun t => G53 μ (foldTo (fld (foldTo (dgA μ h w) (fun t => μ (24 + t) w) 5) (μ 74 w)) (T μ w) t) (w : Int) (t : Int)) (n := 4) ?_ ?_
      · refine h53 _ _ _ _ ⟨fun _ => ?_, fun h' => absurd h' (by omega)⟩
        rw [wrap_id (by omega) (by omega)]
        rintro _ rfl
        rw [cs] at ihw
        exact ihw
      · intro t ht iht
        refine h53 _ _ _ _ ⟨fun h' => absurd h' (by omega), fun _ => ⟨by omega, by omega, ?_⟩⟩
        simp (disch := omega) only [wrap_id, tn]
        refine s_fold ?_
        rintro _ rfl
        rw [cs] at iht
        exact iht
    · intro t ht iht
      refine h13 _ _ _ _ ⟨fun h' => absurd h' (by omega), fun _ => ⟨by omega, by omega, ?_⟩⟩
      simp (disch := omega) only [wrap_id, tn]
      refine s_fold ?_
      rintro _ rfl
      rw [cs] at iht
      exact iht
theorem k_foldT {μ : Mem} {h : Int} {n : Nat} {Post : Pst} (hI : Inv μ) (hn : μ 2 0 = n) (hp : Post (foldTo h (fun k => μ 99 k) n) μ) : wp_X6_foldInto μ h Post := by
  unfold wp_X6_foldInto b_X6_foldInto_e
  intro G hG
  obtain ⟨-, h1, h2, h3, -⟩ := hI.2.2.2.2.2.1
  refine upTo (P := fun i => G μ (foldTo h (fun k => μ 99 k) i) (i : Int)) (n := n) ?_ ?_
  · exact hG _ _ _ ⟨fun _ => hp, fun h' => absurd h' (by omega)⟩
  · intro i hi ih
    refine hG _ _ _ ⟨fun h' => absurd h' (by omega), fun _ => ⟨by omega, ?_⟩⟩
    simp (disch := omega) only [wrap_id, tn]
    refine s_fold ?_
    rintro _ rfl
    rw [(h3 i (by omega)).1]
    rw [cs] at ih
    exact ih
theorem k_foldR {μ : Mem} {h : Int} {Post : Pst} (hI : Inv μ) (hp : Post (foldTo (fld h (μ 6 1)) (fun k => μ 98 (1 + k)) 3) μ) : wp_X4_foldInto μ h Post := by
  unfold wp_X4_foldInto b_X4_foldInto_e
  intro G hG
  obtain ⟨-, h1, h2, h3⟩ := hI.2.2.2.2.2.2.1
  refine s_fold ?_
  refine upTo (P := fun i => G μ (foldTo (fld h (μ 6 1)) (fun k => μ 98 (1 + k)) i) ((i + 1 : Nat) : Int)) (n := 3) ?_ ?_
  · exact hG _ _ _ ⟨fun _ => hp, fun h' => absurd h' (by omega)⟩
  · intro i hi ih
    refine hG _ _ _ ⟨fun h' => absurd h' (by omega), fun _ => ⟨by omega, ?_⟩⟩
    simp (disch := omega) only [wrap_id, tn]
    refine s_fold ?_
    rintro _ rfl
    have e : μ 98 (i + 1) = μ 98 (1 + i) := by rw [Nat.add_comm]
    rw [(h3 (i + 1) (by omega) (by omega)).1, e]
    rw [cs] at ih
    exact ih
theorem k_foldS {μ : Mem} {h : Int} {n0 n1 : Nat} {Post : Pst} (hI : Inv μ) (h0 : μ 86 0 = n0) (h1 : μ 86 1 = n1) (hp : Post (foldTo (foldTo h (fun k => μ 100 (0 + k)) (2 * n0)) (fun k => μ 100 (12 + k)) (2 * n1)) μ) : wp_X8_foldInto μ h Post := by
  unfold wp_X8_foldInto b_X8_foldInto_e
  intro G2 G10 h2 h10
  have hS := hI.2.2.2.2.2.2.2.1
  have inner : ∀ (which : Nat) (n : Nat) (h : Int), which < 2 → μ 86 which = n → G2 μ (foldTo h (fun k => μ 100 (12 * which + k)) (2 * n)) ((which : Int) + 1) → G10 μ h (which : Int) 0 := by
    intro which n h hw hn hg
    obtain ⟨-, s1, s2, s3⟩ := hS which hw
    refine upTo (P := fun i => G10 μ (foldTo h (fun k => μ 100 (12 * which + k)) (2 * i)) (which : Int) (i : Int)) (n := n) ?_ ?_
    · refine h10 _ _ _ _ ⟨by omega, fun _ => ?_, fun h' => absurd h' (by rw [tn]; omega)⟩
      rw [wrap_id (by omega) (by omega)]
      rintro _ rfl
      exact hg
    · intro i hi ih
      have t := s3 i (by omega)
      refine h10 _ _ _ _ ⟨by omega, fun h' => absurd h' (by rw [tn]; omega), fun _ => ⟨by omega, by omega, ?_⟩⟩
      simp (disch := omega) only [wrap_id, tn]
      refine s_fold ⟨by omega, by omega, s_fold ?_⟩
      rintro _ rfl
      rw [t.1.1, t.2.1]
      rw [cs] at ih
      exact ih
  refine h2 _ _ _ ⟨fun h' => absurd h' (by decide), fun _ => ?_⟩
  refine inner 0 n0 h (by decide) h0 ?_
  refine h2 _ _ _ ⟨fun h' => absurd h' (by decide), fun _ => ?_⟩
  refine inner 1 n1 _ (by decide) h1 ?_
  refine h2 _ _ _ ⟨fun _ => ?_, fun h' => absurd h' (by decide)⟩
  exact hp
theorem k_foldL {μ : Mem} {h : Int} {n : Nat} {Post : Pst} (hI : Inv μ) (hn : μ 10 0 = n) (hp : Post (fld (foldTo h (fun k => μ 102 k) n) (μ 10 1)) μ) : wp_X7_foldInto μ h Post := by
  unfold wp_X7_foldInto b_X7_foldInto_e
  intro G hG
  obtain ⟨-, h1, h2, -, -, -, h3⟩ := hI.2.2.2.2.2.2.2.2
  refine upTo (P := fun i => G μ (foldTo h (fun k => μ 102 k) i) (i : Int)) (n := n) ?_ ?_
  · exact hG _ _ _ ⟨fun _ => s_fold hp, fun h' => absurd h' (by omega)⟩
  · intro i hi ih
    refine hG _ _ _ ⟨fun h' => absurd h' (by omega), fun _ => ⟨by omega, ?_⟩⟩
    simp (disch := omega) only [wrap_id, tn]
    refine s_fold ?_
    rintro _ rfl
    rw [(h3 i (by omega)).1]
    rw [cs] at ih
    exact ih
def dig (μ : Mem) (n tn n0 n1 ln : Nat) : Int :=
  fld (foldTo (foldTo (foldTo (foldTo (fld (foldTo (foldTo (dgA μ (foldTo 401 (cnt μ) 5) n) (fun k => μ 96 k) 9) (fun k => μ 99 k) tn) (μ 6 1)) (fun k => μ 98 (1 + k)) 3) (fun k => μ 100 (0 + k)) (2 * n0)) (fun k => μ 100 (12 + k)) (2 * n1)) (fun k => μ 102 k) ln) (μ 10 1)
theorem k_digest {μ : Mem} {n t n0 n1 ln : Nat} {Post : Pst} (hI : Inv μ) (hn : μ 1 0 = n) (h8 : n ≤ 8) (ht : μ 2 0 = t) (h0 : μ 86 0 = n0) (h1 : μ 86 1 = n1) (hl : μ 10 0 = ln) (hp : Post (dig μ n t n0 n1 ln) μ) : wp_X10_digest μ Post := by
  unfold wp_X10_digest b_X10_digest_e
  intro G hG
  refine upTo (P := fun i => G μ (foldTo 401 (cnt μ) i) (i : Int)) (n := 5) ?_ ?_
  · refine hG _ _ _ ⟨fun _ => ?_, fun h' => absurd h' (by omega)⟩
    exact k_foldW hI hn h8 (k_foldT hI ht (k_foldR hI (k_foldS hI h0 h1 (k_foldL hI hl hp))))
  · intro i hi ih
    refine hG _ _ _ ⟨fun h' => absurd h' (by omega), fun _ => s_count hi (s_fold ?_)⟩
    rw [wrap_id (by omega) (by omega)]
    rintro _ rfl
    rw [cs] at ih
    exact ih
theorem m_digest {μ : Mem} {n t n0 n1 ln : Nat} {Post : Pst} (hI : Inv μ) (hn : μ 1 0 = n) (h8 : n ≤ 8) (ht : μ 2 0 = t) (h0 : μ 86 0 = n0) (h1 : μ 86 1 = n1) (hl : μ 10 0 = ln) (hp : Post (dig μ n t n0 n1 ln) μ) : wp_X11_digest μ Post := by
  obtain ⟨hN, hW, hB, hA, hC, hT, hR, hS, hL⟩ := id hI
  have s0 := hS 0 (by omega)
  have s1 := hS 1 (by omega)
  have t1 := hT.1
  have t2 := hT.2.1
  have t3 := hT.2.2.1
  have l1 := hL.1
  have l2 := hL.2.2.1
  unfold wp_X11_digest b_X11_digest_e
  intro G6 G32 h6 h32
  refine upTo (P := fun i => G6 μ (foldTo 401 (cnt μ) i) (i : Int)) (n := 5) ?_ ?_
  · refine h6 _ _ _ ⟨fun _ => ?_, fun h' => absurd h' (by omega)⟩
    refine upTo (P := fun w => G32 μ (dgA μ (foldTo 401 (cnt μ) 5) w) (w : Int)) (n := n) ?_ ?_
    · refine h32 _ _ _ ⟨fun _ => ?_, fun h' => absurd h' (by rw [hN.2.2]; omega)⟩
      refine s_sums (st := 0) (n := 9) (by decide) (by decide) (by decide) ?_
      rw [← t1, ht]
      refine s_sums (st := 0) (n := t) (by decide) (by show 0 + t ≤ 8; omega) (by omega) ?_
      refine s_sums (st := 1) (n := 3) (by decide) (by decide) (by decide) ?_
      rw [← s0.1, h0, wrap_id (by omega) (by omega), show (2 * (n0 : Int)) = ((2 * n0 : Nat) : Int) by omega]
      refine s_sums (st := 0) (n := 2 * n0) (by decide) (by show 0 + 2 * n0 ≤ 24; omega) (by omega) ?_
      rw [← s1.1, h1, wrap_id (by omega) (by omega), show (2 * (n1 : Int)) = ((2 * n1 : Nat) : Int) by omega]
      refine s_sums (st := 12) (n := 2 * n1) (by decide) (by show 12 + 2 * n1 ≤ 24; omega) (by omega) ?_
      rw [← l1, hl]
      refine s_sums (st := 0) (n := ln) (by decide) (by show 0 + ln ≤ 12; omega) (by omega) ?_
      rw [← hR.1, ← hL.2.2.2.1]
      simp only [Nat.zero_add]
      unfold dig at hp
      simp only [Nat.zero_add] at hp
      exact hp
    · intro w hw ihw
      have q := hW w (by omega)
      have qa : μ 95 w = μ 74 w := by
        obtain ⟨A, rk, a1, a2, -⟩ := hA
        rw [a1 w (by omega), a2 w (by omega)]
      refine h32 _ _ _ ⟨fun h' => absurd h' (by rw [hN.2.2]; omega), fun _ => ⟨by omega, by omega, by omega, ?_⟩⟩
      rintro _ rfl
      refine ⟨by omega, by omega, by omega, ?_⟩
      rintro _ rfl
      rw [wrap_id (by omega) (by omega), show (4 * (w : Int)) = ((4 * w : Nat) : Int) by omega, tn]
      refine s_sums (st := 4 * w) (n := 4) (by decide) (by show 4 * w + 4 ≤ 32; omega) (by omega) ?_
      rw [wrap_id (by omega) (by omega)]
      rintro _ rfl
      rw [cs] at ihw
      rw [← q.1.1, ← q.2.1.1, ← q.2.2.1.1, ← q.2.2.2.1.1, ← q.2.2.2.2.1, qa]
      rw [foldTo_cg (g := T μ w) (fun k hk => (hI.tm hn hw (b := k) (by omega)).1)]
      exact ihw
  · intro i hi ih
    refine h6 _ _ _ ⟨fun h' => absurd h' (by omega), fun _ => m_count hI hi ?_⟩
    rw [wrap_id (by omega) (by omega)]
    rintro _ rfl _ rfl
    rw [cs] at ih
    exact ih
theorem o_digest {μ : Mem} (hI : Inv μ) : wp_X10_digest μ (fun r μ1 => wp_X11_digest μ1 (Ok r)) := by
  obtain ⟨n, hn, h8, hm⟩ := hI.n
  obtain ⟨hN, -, -, -, -, hT, -, hS, hL⟩ := id hI
  obtain ⟨t, ht⟩ := natOf hT.2.1
  obtain ⟨n0, h0⟩ := natOf (hS 0 (by omega)).2.1
  obtain ⟨n1, h1⟩ := natOf (hS 1 (by omega)).2.1
  obtain ⟨ln, hl⟩ := natOf hL.2.1
  exact k_digest hI hn h8 ht h0 h1 hl (m_digest hI hn h8 ht h0 h1 hl (okI hI))
