/-! bestRow: both sides. -/
theorem VR_cg {μ M : Mem} (k : Kp μ M) {B n : Nat} (h8 : n ≤ 8) {p : Nat → Nat} {u : Int} (hp : Pm p n) : VR M B n p u ↔ VR μ B n p u := by
  have e : ∀ i, i < n → T M (p i) = T μ (p i) := fun i hi => T_cg k (by have := hp.1 i hi; omega)
  constructor
  · rintro ⟨bg, lv, r, hu⟩
    refine ⟨bg, lv, fun i hi j hj => ?_, hu⟩
    have t := r i hi j hj
    rw [WK_cg k] at t
    show RWb (T μ (p i)) _ _ _ _ ∧ RWl B (T μ (p i)) _ _ _ _ _
    rw [← e i hi]
    exact t
  · rintro ⟨bg, lv, r, hu⟩
    refine ⟨bg, lv, fun i hi j hj => ?_, hu⟩
    have t := r i hi j hj
    show RWb (T M (p i)) _ _ _ _ ∧ RWl B (T M (p i)) _ _ _ _ _
    rw [WK_cg k, e i hi]
    exact t
theorem k_seekR {μ : Mem} (h : Inv μ) {n B : Nat} (hn : μ 1 0 = n) (h8 : n ≤ 8) (hB : μ 6 1 = B) (hB2 : 2 ≤ B) (hB4 : B ≤ 4) {Post : Pst} (hp : ∀ M : Mem, Kp μ M → Cl n (fun _ => True) (VR μ B n) (8 ^ n) (M 7 3) (M 83) → Post 0 M) : wp_X1_seek μ Post := by
  unfold wp_X1_seek
  intro G2 G15 g2 g15
  unfold b_X1_seek_e
  refine upTo (P := fun w => ∀ M : Mem, (∀ c, ¬ (56 ≤ c ∧ c < 64) → M c = μ c) → (∀ w' b, w' < w → b < B → M (56 + w') b = beh μ B b w') → G2 M (w : Int)) (n := n) ?_ ?_ μ (fun _ _ => rfl) (fun w b hw => absurd hw (by omega))
  · intro M fr hb
    have kM : Kp μ M := fun c hc => fr c (by have := isP_c hc; omega)
    have IM := h.kp kM
    have nM : M 1 0 = n := by rw [kM 1 rfl]; exact hn
    have BM : M 6 1 = B := by rw [kM 6 rfl]; exact hB
    refine g2 _ _ ⟨fun _ => s_notSooner IM nM h8 BM hB4 ?_, fun h' => absurd h' (by omega)⟩
    intro M4 h4 M5 h5
    have o5 : ∀ c, c ≠ 7 → M5 c = M c := fun c hc => by rw [h5, wr_ne hc, h4, wr_ne hc]
    have k5 : Kp μ M5 := fun c hc => by
      rw [o5 c (by have := isP_c hc; omega)]
      exact kM c hc
    have e74 : M5 7 4 = (if n = 0 then 0 else maxTo (bnd M B n) B) := by rw [h5, wr_i (by decide), h4, wr_s]
    have e73 : M5 7 3 = 1000000000 := by rw [h5, wr_s]
    have hNS : ∀ p u, Pm p n → VR μ B n p u → (if n = 0 then 0 else maxTo (bnd M B n) B) ≤ u := fun p u hpp hv => ns_le IM nM h8 hB2 hB4 p u hpp ((VR_cg kM h8 hpp).mpr hv)
    have R := k_extendR h hn h8 hB hB2 hB4 hNS 10 0 M5 (fun _ => 0) (fun _ μ_7 => Post 0 μ_7) (by omega) (by omega) k5 e74 (fun w b hw hb' => by rw [o5 _ (by omega)]; exact hb w b hw hb') (fun i hi => by omega) (fun i j hi => by omega) (fun i hi => by omega) (fun i hi => by omega) ?_ (fun M' k' _ _ _ _ hC => hp M' k' ?_)
    · exact R
    · show Cl n _ _ (0 * 8 ^ (n - 0)) (M5 7 3) (M5 83)
      rw [Nat.zero_mul, e73]
      exact Cl.init
    · have e : (cd (fun _ => 0) 0 + 1) * 8 ^ (n - 0) = 8 ^ n := by
        show (0 + 1) * 8 ^ (n - 0) = 8 ^ n
        rw [Nat.sub_zero, Nat.zero_add, Nat.one_mul]
      rw [e] at hC
      exact hC
  · intro w hw ih M fr hb
    have nM : M 1 0 = n := by rw [fr 1 (by omega)]; exact hn
    refine g2 _ _ ⟨fun h' => absurd h' (by omega), fun _ => ?_⟩
    refine upTo (P := fun b => ∀ M : Mem, (∀ c, ¬ (56 ≤ c ∧ c < 64) → M c = μ c) → (∀ w' b, w' < w → b < B → M (56 + w') b = beh μ B b w') → (∀ b', b' < b → M (56 + w) b' = beh μ B b' w) → G15 M (w : Int) (b : Int)) (n := B) ?_ ?_ M fr hb (fun b hb' => absurd hb' (by omega))
    · intro M fr hb hb2
      have BM : M 6 1 = B := by rw [fr 6 (by omega)]; exact hB
      refine g15 _ _ _ ⟨fun _ => ?_, fun h' => absurd h' (by omega)⟩
      rw [wrap_id (by omega) (by omega)]
      rintro _ rfl
      rw [← cs]
      refine ih M fr (fun w' b h1 h2 => ?_)
      by_cases c : w' = w
      · rw [c]; exact hb2 b h2
      · exact hb w' b (by omega) h2
    · intro b hbB ihb M fr hb hb2
      have BM : M 6 1 = B := by rw [fr 6 (by omega)]; exact hB
      have kM : Kp μ M := fun c hc => fr c (by have := isP_c hc; omega)
      have eT : T M w = T μ w := T_cg kM (by omega)
      refine g15 _ _ _ ⟨fun h' => absurd h' (by omega), fun _ => ⟨by omega, ?_⟩⟩
      rw [wrap_id (by omega) (by omega), BM, ← cs]
      refine s_between (by omega) (by omega) hB4 (by rw [eT]; exact h.T hn hw) ?_
      refine ⟨by omega, ?_⟩
      rw [tn, tn, eT]
      rintro M2 h2 _ rfl
      refine ihb M2 (fun c hc => by rw [h2, wr_ne (by omega)]; exact fr c hc) (fun w' b' h1 h3 => by rw [h2, wr_ne (by omega)]; exact hb w' b' h1 h3) (fun b' h1 => ?_)
      rw [h2]
      by_cases c : b' = b
      · rw [c, wr_s]; rfl
      · rw [wr_i c]; exact hb2 b' (by omega)
def rowB (t f : Nat → Int) : Nat → Int
  | 0 => imax 0 (f 0)
  | j + 1 => imax (rowB t f j + t j) (f (j + 1))
theorem RW_some (B : Nat) (tt : Nat → Nat → Int) (W : Nat → Int) (K : Nat) : ∃ bg lv, RW B tt W bg lv K := by
  induction K with
  | zero => exact ⟨fun _ _ => 0, fun _ _ => 0, fun k hk => by omega⟩
  | succ K ih =>
    obtain ⟨bg, lv, r⟩ := ih
    obtain ⟨bg', hbg⟩ : ∃ bg' : Nat → Nat → Int, bg' = fun k => if k = K then rowB (tt K) (fre lv K) else bg k := ⟨_, rfl⟩
    obtain ⟨lv', hlv⟩ : ∃ lv' : Nat → Nat → Int, lv' = fun k => if k = K then (fun j => if j + 1 = B then bg' K j + tt K j else imax (bg' K j + tt K j) (rom W bg' K (j + 1))) else lv k := ⟨_, rfl⟩
    have b1 : bg' K = rowB (tt K) (fre lv K) := by rw [hbg]; exact if_pos rfl
    have l1 : ∀ j, lv' K j = if j + 1 = B then bg' K j + tt K j else imax (bg' K j + tt K j) (rom W bg' K (j + 1)) := fun j => by
      rw [hlv]
      show (if K = K then (fun j => if j + 1 = B then bg' K j + tt K j else imax (bg' K j + tt K j) (rom W bg' K (j + 1))) else lv K) j = _
      rw [if_pos rfl]
    have b2 : ∀ k, k < K → bg' k = bg k := fun k hk => by rw [hbg]; exact if_neg (by omega)
    have l2 : ∀ k, k < K → lv' k = lv k := fun k hk => by rw [hlv]; exact if_neg (by omega)
    refine ⟨bg', lv', fun k hk j hj => ?_⟩
    by_cases c : k = K
    · rw [c]
      refine ⟨?_, l1 j⟩
      have ef : fre lv' K j = fre lv K j := by
        unfold fre
        by_cases k0 : K = 0
        · rw [if_pos k0, if_pos k0]
        · rw [if_neg k0, if_neg k0, l2 _ (by omega)]
      unfold RWb prv
      rw [ef, b1]
      cases j with
      | zero => rfl
      | succ j => rw [if_neg (by omega), Nat.add_sub_cancel]; rfl
    · exact (r.cg b2 l2) k (by omega) j hj
theorem VR_some {μ : Mem} {B n : Nat} : ∃ u, VR μ B n (fun i => i) u := by
  obtain ⟨bg, lv, r⟩ := RW_some B (fun k => T μ k) (WK μ) n
  exact ⟨_, bg, lv, r, rfl⟩
theorem o_bestRow {μ : Mem} {p : Int} (hI : Inv μ) : wp_X10_bestRow μ p (fun r μ1 => wp_X11_bestRow μ1 p (Ok r)) := by
  obtain ⟨n, hn, h8, hm⟩ := hI.n
  obtain ⟨B, hB, hB', hB2, hB4⟩ := hI.B
  unfold wp_X10_bestRow b_X10_bestRow_e
  rw [isFrom_iff, hn, wrap_id (by omega) (by omega)]
  refine ⟨fun hp => ⟨fun _ => ?_, fun h' => absurd h' (by decide)⟩, fun hp => ⟨fun h' => absurd rfl h', fun _ => ?_⟩⟩
  · refine k_seekR hI hn h8 hB hB2 hB4 (fun M kM hC => ?_)
    have m1 : M 11 0 = n := by rw [kM 11 rfl]; exact hm
    have other : ∀ r, (∀ (μ' : Mem) (x m : Int), Kp M μ' → Mn x m → Cl n (fun _ => True) (VR μ B n) (8 ^ n) m (μ' 104) → (p ≠ -1 → r = μ' 104 p.toNat) ∧ (p = -1 → r = x)) → wp_X11_bestRow M p (Ok r) := by
      intro r hr
      unfold wp_X11_bestRow b_X11_bestRow_e
      rw [isPlace_iff m1 h8]
      refine ⟨fun _ => ⟨fun _ => ?_, fun h' => absurd h' (by decide)⟩, fun h' => absurd ⟨by omega, by omega⟩ h'⟩
      refine m_goOver (Lw := fun _ => True) (V := VR μ B n) m1 h8 (fun p q e hl => hl) (VR_fn hI hB2) (VR_bd hI hn h8 hB2 hB4) (fun G8 G64 μ1 o x2 k1 hP hq hno hyes => ?_) (fun μ' x m k' hx hC' => ?_)
      · have kk := kM.tr k1
        have I1 := hI.kp kk
        have n1 : μ1 1 0 = n := by rw [kk 1 rfl]; exact hn
        have mm : μ1 11 0 = n := by rw [kk 11 rfl]; exact hm
        have b9 : μ1 11 9 = B := by rw [kk 11 rfl]; exact hB'
        unfold b_X11_goOver_8
        refine ⟨fun h' => absurd h' (by decide), fun _ => ⟨fun _ => ?_, fun h' => absurd rfl h'⟩⟩
        unfold b_X11_goOver_24
        refine ⟨fun h' => absurd rfl h', fun _ => ?_⟩
        rw [b9]
        refine m_rowEnd I1 n1 h8 mm hB2 hB4 (W := WK μ1) I1.W.1 (fun j a1 a2 => ?_) hP.1 hq (fun μ2 fr2 r2 => ?_)
        · rw [if_pos rfl]
          exact (I1.W.2 j a1 a2).2.symm
        · refine hyes trivial μ2 _ ?_ (fun c hc => fr2 c (by have := isP_c hc; omega) (by have := isP_c hc; omega)) (fr2 103 (by decide) (by decide)) (fr2 104 (by decide) (by decide))
          exact (VR_cg kk h8 hP).mp ⟨bgR μ2, lvR μ2, r2, rfl⟩
      · have R := hr μ' x m k' hx hC'
        have I' := (hI.kp kM).kp k'
        exact ⟨fun c => ⟨by omega, R.1 c, I'⟩, fun c => ⟨R.2 c, I'⟩⟩
    have key : ∀ (μ' : Mem) (x m : Int), Kp M μ' → Mn x m → Cl n (fun _ => True) (VR μ B n) (8 ^ n) m (μ' 104) → M 7 3 = x ∧ ∀ i, i < n → M 83 i = μ' 104 i := by
      intro μ' x m k' hx hC'
      obtain ⟨u0, hu0⟩ := VR_some (μ := μ) (B := B) (n := n)
      have hu := (VR_bd hI hn h8 hB2 hB4 _ _ (Pm.id n) hu0).2
      have U := hC.uq h8 hC' (fun p hpp => ⟨cd_bd (hpp.d8 h8), cd_bd (hpp.d8 h8)⟩) (Pm.id n) trivial hu0 hu
      have l := hC.1 _ _ (Pm.id n) (cd_bd ((Pm.id n).d8 h8)) trivial hu0
      refine ⟨?_, U.2⟩
      rcases hx with ⟨_, e⟩ | ⟨_, e⟩ <;> omega
    refine ⟨fun c => ⟨by omega, other _ (fun μ' x m k' hx hC' => ⟨fun _ => (key μ' x m k' hx hC').2 _ (by omega), fun h' => absurd h' c⟩)⟩, fun c => other _ (fun μ' x m k' hx hC' => ⟨fun h' => absurd c h', fun _ => (key μ' x m k' hx hC').1⟩)⟩
  · show wp_X11_bestRow μ p (Ok (-10))
    unfold wp_X11_bestRow b_X11_bestRow_e
    rw [isPlace_iff hm h8]
    exact ⟨fun h' => absurd h' (by omega), fun _ => ⟨fun h' => absurd rfl h', fun _ => okI hI⟩⟩
