/-! bestRow: the class's search. -/
def elm (row : Nat → Int) (μ : Mem) (B S n : Nat) (e : Int) : Nat → Int
  | 0 => e
  | b + 1 => imax (elm row μ B S n e b) (row b + csm (fun w => T μ w b) S n + cmn (beh μ B b) S n)
theorem elm_le {row : Nat → Int} {μ : Mem} {B S n : Nat} {e u : Int} (h0 : e ≤ u) {k : Nat} (h : ∀ b, b < k → row b + csm (fun w => T μ w b) S n + cmn (beh μ B b) S n ≤ u) : elm row μ B S n e k ≤ u := by
  induction k with
  | zero => exact h0
  | succ k ih =>
    unfold elm
    have := ih (fun b hb => h b (by omega))
    have := h k (by omega)
    have d := imax_d (elm row μ B S n e k) (row k + csm (fun w => T μ w k) S n + cmn (beh μ B k) S n)
    omega
theorem beh_bd {μ : Mem} (h : Inv μ) {n : Nat} (hn : μ 1 0 = n) {B b w : Nat} (hB4 : B ≤ 4) (hb : b < B) (hw : w < n) : 0 ≤ beh μ B b w ∧ beh μ B b w ≤ 160 := by
  unfold beh
  have hT := h.T hn hw
  have a1 := sumT_bd hT (b := B) hB4
  have a2 := sumT_bd hT (b := b + 1) (by omega)
  have a3 := sumTo_mono (f := T μ w) (a := b + 1) (b := B) (by omega) (fun i hi => by have := hT i (by omega); omega)
  omega
theorem k_ends {μ M : Mem} (h : Inv μ) (k1 : Kp μ M) {n B : Nat} (hn : μ 1 0 = n) (h8 : n ≤ 8) (hB : μ 6 1 = B) (hB4 : B ≤ 4) {k S : Nat} (hk : k < 8) (hS : S < 256) (hbh : ∀ w b, w < n → b < B → M (56 + w) b = beh μ B b w) {e : Int} (hlv : ∀ j, j < B → 0 ≤ lvK M k j ∧ lvK M k j ≤ 2000) {Post : Pst} (h1 : S = 2 ^ n - 1 → Post e M) (h0 : S ≠ 2 ^ n - 1 → Post (elm (lvK M k) μ B S n e B) M) : wp_X1_endsAtLeast M (k : Int) (S : Int) e Post := by
  unfold wp_X1_endsAtLeast
  intro G19 G52 g19 g52
  unfold b_X1_endsAtLeast_e
  have n1 : M 1 0 = n := by rw [k1 1 rfl]; exact hn
  have B1 : M 6 1 = B := by rw [k1 6 rfl]; exact hB
  refine k_all n1 h8 ⟨fun hne => ?_, fun he => h1 (by omega)⟩
  have hP := h0 (fun e => hne (by rw [e]))
  refine upTo (P := fun b => G19 M (k : Int) (S : Int) (elm (lvK M k) μ B S n e b) (b : Int)) (n := B) ?_ ?_
  · exact g19 _ _ _ _ _ ⟨fun _ => hP, fun h' => absurd h' (by omega)⟩
  · intro b hb ih
    have l := hlv b hb
    have fb : ∀ w, w < n → 0 ≤ (fun w => T μ w b) w ∧ (fun w => T μ w b) w ≤ 40 := fun w hw => by
      have := h.T hn hw b (by omega)
      show 0 ≤ T μ w b ∧ T μ w b ≤ 40
      omega
    have gb : ∀ w, w < n → 0 ≤ beh μ B b w := fun w hw => (beh_bd h hn hB4 hb hw).1
    refine g19 _ _ _ _ _ ⟨fun h' => absurd h' (by omega), fun _ => ⟨by omega, by omega, ?_⟩⟩
    rw [tn, tn]
    intro x hx
    have hx' : x = lvK M k b := hx
    rw [hx']
    have e0 : lvK M k b = lvK M k b + csm (fun w => T μ w b) S 0 := by
      show lvK M k b = lvK M k b + 0
      omega
    rw [e0]
    show G52 M (k : Int) (S : Int) (elm (lvK M k) μ B S n e b) (b : Int) (lvK M k b + csm (fun w => T μ w b) S 0) (cmn (beh μ B b) S 0) ((0 : Nat) : Int)
    refine upTo (P := fun w => G52 M (k : Int) (S : Int) (elm (lvK M k) μ B S n e b) (b : Int) (lvK M k b + csm (fun w => T μ w b) S w) (cmn (beh μ B b) S w) (w : Int)) (n := n) ?_ ?_
    · have s1 := csm_bd (S := S) fb
      have s2 := cmn_bd (S := S) gb
      refine g52 _ _ _ _ _ _ _ _ ⟨fun _ => ?_, fun h' => absurd h' (by omega)⟩
      rw [wrap_id (by omega) (by omega), wrap_id (x := (b : Int) + 1) (by omega) (by omega)]
      intro x1 hx1 x2 hx2
      rw [hx1, hx2, ← cs]
      exact ih
    · intro w hw ihw
      have s1 := csm_bd (S := S) (i := w) (fun w' hw' => fb w' (by omega))
      have tw := h.T hn hw b (by omega)
      have nx : ∀ y z, y = lvK M k b + csm (fun w => T μ w b) S (w + 1) → z = cmn (beh μ B b) S (w + 1) → b_X1_endsAtLeast_108 G19 G52 Post M (k : Int) (S : Int) (elm (lvK M k) μ B S n e b) (b : Int) y z (w : Int) := by
        intro y z hy hz
        unfold b_X1_endsAtLeast_108
        rw [wrap_id (by omega) (by omega)]
        intro x hx
        rw [hx, ← cs, hy, hz]
        exact ihw
      refine g52 _ _ _ _ _ _ _ _ ⟨fun h' => absurd h' (by omega), fun _ => s_isIn (by omega) (by omega) ?_⟩
      have c1 : csm (fun w => T μ w b) S (w + 1) = csm (fun w => T μ w b) S w + (if S.testBit w then 0 else T μ w b) := rfl
      have c2 : cmn (beh μ B b) S (w + 1) = if S.testBit w then cmn (beh μ B b) S w else imin (cmn (beh μ B b) S w) (beh μ B b w) := rfl
      cases hb2 : S.testBit w with
      | true =>
        rw [hb2, if_pos rfl] at c1 c2
        exact ⟨fun _ => nx _ _ (by omega) (by omega), fun h' => absurd h' (by decide)⟩
      | false =>
        rw [hb2, if_neg (by decide)] at c1 c2
        refine ⟨fun h' => absurd rfl h', fun _ => ⟨by omega, by omega, ?_⟩⟩
        have eT : M (32 + w) b = T μ w b := by rw [k1 (32 + w) (isP_r (by omega))]; rfl
        rw [tn, tn, eT, hbh w b hw hb, wrap_id (by omega) (by omega)]
        intro x1 hx1
        refine ⟨by omega, by omega, ?_⟩
        intro x2 hx2
        rw [hx1, hx2]
        exact nx _ _ (by omega) (by omega)
theorem k_extendR {μ : Mem} (h : Inv μ) {n B : Nat} (hn : μ 1 0 = n) (h8 : n ≤ 8) (hB : μ 6 1 = B) (hB2 : 2 ≤ B) (hB4 : B ≤ 4) {NS : Int} (hNS : ∀ p u, Pm p n → VR μ B n p u → NS ≤ u) (d : Nat) : ∀ (k : Nat) (M : Mem) (q : Nat → Nat) (Post : Pst), k ≤ n → n < d + k → Kp μ M → M 7 4 = NS → (∀ w b, w < n → b < B → M (56 + w) b = beh μ B b w) → (∀ i, i < k → q i < n) → (∀ i j, i < k → j < k → q i = q j → i = j) → (∀ i, i < k → M 84 i = q i) → RW B (fun i => T μ (q i)) (WK μ) (bgK M) (lvK M) k → Cl n (fun _ => True) (VR μ B n) (cd q k * 8 ^ (n - k)) (M 7 3) (M 83) → (∀ M' : Mem, Kp μ M' → M' 7 4 = NS → (∀ w b, w < n → b < B → M' (56 + w) b = beh μ B b w) → (∀ i, i < k → M' 84 i = q i) → (∀ i, i < k → bgK M' i = bgK M i ∧ lvK M' i = lvK M i) → Cl n (fun _ => True) (VR μ B n) ((cd q k + 1) * 8 ^ (n - k)) (M' 7 3) (M' 83) → Post 0 M') → wp_X1_extend d M (k : Int) (bs q k : Int) (rEnd (lvK M) B k) Post := by
  induction d with
  | zero => intro k M q Post hk hd; omega
  | succ d IH =>
    intro k M q Post hk hd k1 hM4 hbh hq hi hT hR hC hp
    unfold wp_X1_extend
    intro G hG
    unfold b_X1_extend_e
    have n1 : M 1 0 = n := by rw [k1 1 rfl]; exact hn
    have hTq : ∀ i, i < k → ∀ j, j < B → 1 ≤ (fun i => T μ (q i)) i j ∧ (fun i => T μ (q i)) i j ≤ 40 := fun i hi' j hj => h.T hn (hq i hi') j (by omega)
    refine ⟨fun hlt => ?_, fun hge => ?_⟩
    · have hkn : k < n := by omega
      obtain ⟨E8, hE8⟩ : ∃ E8, E8 = 8 ^ (n - (k + 1)) := ⟨_, rfl⟩
      have hpow : 8 ^ (n - k) = 8 * E8 := by rw [hE8, show n - k = (n - (k + 1)) + 1 by omega, Nat.pow_succ, Nat.mul_comm]
      have cut : ∀ p X, Pm p n → (cd p n < X * E8 ↔ cd p (k + 1) < X) := fun p X hp' => by
        rw [hE8]; exact cd_cut (by omega) (hp'.d8 h8)
      obtain ⟨c, hc⟩ : ∃ c, c = cd q k := ⟨_, rfl⟩
      rw [← hc] at hC hp
      have ee : (c + 1) * 8 ^ (n - k) = (8 * c + 8) * E8 := by rw [hpow, ← Nat.mul_assoc]; congr 1; omega
      have hS2 : bs q k < 2 ^ n := bs_lt hq
      have hS : bs q k < 256 := Nat.lt_of_lt_of_le hS2 (pow8 h8)
      refine upTo (P := fun w => ∀ M1 : Mem, Kp μ M1 → M1 7 4 = NS → (∀ w b, w < n → b < B → M1 (56 + w) b = beh μ B b w) → (∀ i, i < k → M1 84 i = q i) → (∀ i, i < k → bgK M1 i = bgK M i ∧ lvK M1 i = lvK M i) → Cl n (fun _ => True) (VR μ B n) ((8 * c + w) * E8) (M1 7 3) (M1 83) → G M1 (k : Int) (bs q k : Int) (w : Int)) (n := n) ?_ ?_ M k1 hM4 hbh hT (fun i _ => ⟨rfl, rfl⟩) ?_
      · intro M1 kM hM14 hbh1 hT1 hro hC1
        have nM : M1 1 0 = n := by rw [kM 1 rfl]; exact hn
        refine hG _ _ _ _ ⟨fun _ => hp M1 kM hM14 hbh1 hT1 hro ?_, fun h' => absurd h' (by omega)⟩
        rw [ee]
        refine hC1.skip (Nat.mul_le_mul_right _ (by omega)) (fun p u hpp h1 h2 _ _ => ?_)
        have c1 := (cut p (8 * c + n) hpp)
        have c2 := (cut p (8 * c + 8) hpp).mp h2
        have c3 : ¬ cd p (k + 1) < 8 * c + n := fun hh => by have := c1.mpr hh; omega
        have pk := hpp.1 k hkn
        have e : cd p (k + 1) = 8 * cd p k + p k := rfl
        omega
      · intro w hw ih M1 kM hM14 hbh1 hT1 hro hC1
        have IM := h.kp kM
        have nM : M1 1 0 = n := by rw [kM 1 rfl]; exact hn
        have BM : M1 6 1 = B := by rw [kM 6 rfl]; exact hB
        have rng : ∀ p, Pm p n → (8 * c + w) * E8 ≤ cd p n → cd p n < (8 * c + (w + 1)) * E8 → ∀ i, i < k + 1 → p i = up1 q k w i := by
          intro p hpp h1 h2
          have c1 := (cut p (8 * c + w) hpp)
          have c2 := (cut p (8 * c + (w + 1)) hpp).mp h2
          have c3 : ¬ cd p (k + 1) < 8 * c + w := fun hh => by have := c1.mpr hh; omega
          refine cd_inj (fun i hi' => hpp.d8 h8 i (by omega)) (fun i hi' => ?_) ?_
          · by_cases e : i = k
            · rw [e, up1_s]; omega
            · rw [up1_o e]; have := hq i (by omega); omega
          · rw [cd_up1, ← hc]; omega
        have nx : ∀ M2 : Mem, Kp μ M2 → M2 7 4 = NS → (∀ w b, w < n → b < B → M2 (56 + w) b = beh μ B b w) → (∀ i, i < k → M2 84 i = q i) → (∀ i, i < k → bgK M2 i = bgK M i ∧ lvK M2 i = lvK M i) → Cl n (fun _ => True) (VR μ B n) ((8 * c + (w + 1)) * E8) (M2 7 3) (M2 83) → b_X1_extend_110 (wp_X1_extend d) G Post M2 (k : Int) (bs q k : Int) (w : Int) := by
          intro M2 a1 a2 a3 a4 a5 a6
          unfold b_X1_extend_110
          rw [wrap_id (by omega) (by omega)]
          intro x hx
          rw [hx, ← cs]
          exact ih M2 a1 a2 a3 a4 a5 a6
        refine hG _ _ _ _ ⟨fun h' => absurd h' (by omega), fun _ => ⟨fun hst => ?_, fun hgo => ?_⟩⟩
        · -- it can't be sooner
          refine hp M1 kM hM14 hbh1 hT1 hro ?_
          rw [ee]
          refine hC1.skip (Nat.mul_le_mul_right _ (by omega)) (fun p u hpp _ _ _ hv => ?_)
          have := hNS p u hpp hv
          omega
        · refine s_isIn (by omega) (by omega) ?_
          cases hb : (bs q k).testBit w with
          | true =>
            refine ⟨fun h' => absurd h' (by decide), fun _ => nx M1 kM hM14 hbh1 hT1 hro (hC1.skip (Nat.mul_le_mul_right _ (by omega)) (fun p u hpp h1 h2 _ _ => ?_))⟩
            have he := rng p hpp h1 h2
            have e1 : bs p k = bs q k := bs_cg (fun i h1 => by rw [he i (by omega), up1_o (by omega)])
            have e2 : p k = w := by rw [he k (by omega), up1_s]
            have := bs_new hpp hkn
            rw [e1, e2, hb] at this
            cases this
          | false =>
            refine ⟨fun _ => ?_, fun h' => absurd rfl h'⟩
            intro x hx
            have hSw : bs q k ||| 2 ^ w < 2 ^ n := Nat.or_lt_two_pow hS2 (Nat.pow_lt_pow_right (by decide) hw)
            have hSw8 := Nat.lt_of_lt_of_le hSw (pow8 h8)
            rw [ishl_n (by omega), ior_n (by omega) (pow_lt31 (by omega))] at hx
            rw [hx]
            have hR1 : RW B (fun i => T μ (q i)) (WK μ) (bgK M1) (lvK M1) k := hR.cg (fun i hi' => (hro i hi').1) (fun i hi' => (hro i hi').2)
            have bd := hR1.bd hB4 (fun j => (h.W.1 j).1) hTq
            refine s_send IM nM h8 BM hB2 hB4 (by omega) hw (fun k0 j hj => ?_) ?_
            · have b1 := bd (k - 1) (by omega) j hj
              have t1 : 1 ≤ T μ (q (k - 1)) j ∧ T μ (q (k - 1)) j ≤ 40 := hTq (k - 1) (by omega) j hj
              omega
            · intro M2 fr2 r2
              have k2 : Kp μ M2 := fun x hx' => by
                have := isP_c hx'
                rw [fr2 x (by omega) (by omega)]
                exact kM x hx'
              have n2 : M2 1 0 = n := by rw [k2 1 rfl]; exact hn
              rw [WK_cg kM, T_cg kM (by omega)] at r2
              have ro2 : ∀ i, i < k → bgK M2 i = bgK M1 i ∧ lvK M2 i = lvK M1 i := fun i hi' => ⟨by funext y; unfold bgK; rw [fr2 _ (by omega) (by omega)], by funext y; unfold lvK; rw [fr2 _ (by omega) (by omega)]⟩
              have hq' : ∀ i, i < k + 1 → up1 q k w i < n := by
                intro i hi'
                by_cases e : i = k
                · rw [e, up1_s]; exact hw
                · rw [up1_o e]; exact hq i (by omega)
              have hi' : ∀ i j, i < k + 1 → j < k + 1 → up1 q k w i = up1 q k w j → i = j := by
                have nw : ∀ i, i < k → q i ≠ w := fun i h1 e => by
                  have : (bs q k).testBit w = true := bs_bit.mpr ⟨i, h1, e⟩
                  rw [hb] at this
                  cases this
                intro i j h1 h2 e
                by_cases c1 : i = k
                · by_cases c2 : j = k
                  · omega
                  · rw [c1, up1_s, up1_o c2] at e; exact absurd e.symm (nw j (by omega))
                · by_cases c2 : j = k
                  · rw [c2, up1_s, up1_o c1] at e; exact absurd e (nw i (by omega))
                  · rw [up1_o c1, up1_o c2] at e; exact hi i j (by omega) (by omega) e
              have hR2 : RW B (fun i => T μ (up1 q k w i)) (WK μ) (bgK M2) (lvK M2) (k + 1) := by
                intro i hik j hj
                by_cases ci : i = k
                · rw [ci]
                  show RWb (T μ (up1 q k w k)) _ _ _ _ ∧ RWl B (T μ (up1 q k w k)) _ _ _ _ _
                  rw [up1_s]
                  exact r2 j hj
                · have hw' := hR1.cg (K := k) (bg' := bgK M2) (lv' := lvK M2) (fun i hi' => (ro2 i hi').1) (fun i hi' => (ro2 i hi').2)
                  have := hw' i (by omega) j hj
                  show RWb (T μ (up1 q k w i)) _ _ _ _ ∧ RWl B (T μ (up1 q k w i)) _ _ _ _ _
                  rw [up1_o ci]
                  exact this
              have bd2 := hR2.bd hB4 (fun j => (h.W.1 j).1) (fun i hik j hj => h.T hn (hq' i hik) j (by omega))
              have hbh2 : ∀ w b, w < n → b < B → M2 (56 + w) b = beh μ B b w := fun w' b' h1 h2 => by rw [fr2 _ (by omega) (by omega)]; exact hbh1 w' b' h1 h2
              have o7 : M2 7 = M1 7 := fr2 7 (by omega) (by omega)
              have o83 : M2 83 = M1 83 := fr2 83 (by omega) (by omega)
              have o84 : M2 84 = M1 84 := fr2 84 (by omega) (by omega)
              have rend : rEnd (lvK M2) B (k + 1) = lvK M2 k (B - 1) := by
                unfold rEnd
                rw [if_neg (by omega), Nat.add_sub_cancel]
              -- what the others of this beginning make
              have same : ∀ p u, Pm p n → (∀ i, i < k + 1 → p i = up1 q k w i) → VR μ B n p u → ∃ bg lv, RW B (fun i => T μ (p i)) (WK μ) bg lv n ∧ u = rEnd lv B n ∧ ∀ j, j < B → lv k j = lvK M2 k j := by
                rintro p u hpp he ⟨bg, lv, r, hu⟩
                refine ⟨bg, lv, r, hu, fun j hj => ?_⟩
                have rk : RW B (fun i => T μ (p i)) (WK μ) bg lv (k + 1) := fun i hik j hj => r i (by omega) j hj
                exact (RW.uq (fun j => (h.W.1 j).1) rk hR2 (fun i hik j hj => by
                  show T μ (p i) j = T μ (up1 q k w i) j
                  rw [he i hik]) k (by omega) j hj).2
              have after : ∀ r, (∀ p u, Pm p n → (∀ i, i < k + 1 → p i = up1 q k w i) → VR μ B n p u → r ≤ u) → (((M2 7 3) ≤ r) → b_X1_extend_110 (wp_X1_extend d) G Post M2 (k : Int) (bs q k : Int) (w : Int)) ∧ ((¬ ((M2 7 3) ≤ r)) → (0 ≤ (k : Int) ∧ (k : Int) < 8) ∧ ∀ μ_14 : Mem, μ_14 = wr M2 84 ((k : Int)).toNat (w : Int) → wp_X1_extend d μ_14 (wrap ((k : Int) + 1)) ((bs q k ||| 2 ^ w : Nat) : Int) (lvK M2 k (B - 1)) (fun _ μ_16 => b_X1_extend_110 (wp_X1_extend d) G Post μ_16 (k : Int) (bs q k : Int) (w : Int))) := by
                intro r hr
                refine ⟨fun hle => nx M2 k2 (by rw [o7]; exact hM14) hbh2 (fun i h1 => by rw [o84]; exact hT1 i h1) (fun i h1 => ⟨(ro2 i h1).1.trans (hro i h1).1, (ro2 i h1).2.trans (hro i h1).2⟩) ?_, fun hgt => ⟨by omega, ?_⟩⟩
                · rw [o83, o7]
                  rw [o7] at hle
                  refine hC1.skip (Nat.mul_le_mul_right _ (by omega)) (fun p u hpp h1 h2 _ hv => ?_)
                  have := hr p u hpp (rng p hpp h1 h2) hv
                  omega
                · intro M3 h3
                  rw [tn] at h3
                  rw [wrap_id (by omega) (by omega), ← cs]
                  have o3 : ∀ x, x ≠ 84 → M3 x = M2 x := fun x a1 => by rw [h3, wr_ne a1]
                  have k3 : Kp μ M3 := fun x hx' => by
                    have := isP_c hx'
                    rw [o3 x (by omega)]
                    exact k2 x hx'
                  have ro3 : ∀ i, i < k + 1 → bgK M3 i = bgK M2 i ∧ lvK M3 i = lvK M2 i := fun i h1 => ⟨by funext y; unfold bgK; rw [o3 _ (by omega)], by funext y; unfold lvK; rw [o3 _ (by omega)]⟩
                  have R := IH (k + 1) M3 (up1 q k w) (fun _ μ_16 => b_X1_extend_110 (wp_X1_extend d) G Post μ_16 (k : Int) (bs q k : Int) (w : Int)) (by omega) (by omega) k3 (by rw [o3 7 (by decide), o7]; exact hM14) (fun w' b' h1 h2 => by rw [o3 _ (by omega)]; exact hbh2 w' b' h1 h2) hq' hi' (fun i h1 => ?_) (hR2.cg (fun i h1 => (ro3 i h1).1) (fun i h1 => (ro3 i h1).2)) ?_ (fun M4 k4 hM44 hbh4 hT4 hro4 hC4 => ?_)
                  · have e1 : rEnd (lvK M3) B (k + 1) = lvK M2 k (B - 1) := by
                      rw [← rend]
                      unfold rEnd
                      rw [if_neg (by omega), if_neg (by omega), Nat.add_sub_cancel, (ro3 k (by omega)).2]
                    rw [bs_up1, e1] at R
                    exact R
                  · rw [h3]
                    by_cases e : i = k
                    · rw [e, wr_s, up1_s]
                    · rw [wr_i e, up1_o e, o84]
                      exact hT1 i (by omega)
                  · rw [o3 7 (by decide), o3 83 (by decide), o7, o83, cd_up1, ← hc, ← hE8]
                    exact hC1
                  · rw [cd_up1, ← hc, ← hE8] at hC4
                    refine nx M4 k4 hM44 hbh4 (fun i h1 => by rw [hT4 i (by omega), up1_o (by omega)]) (fun i h1 => ?_) (by rw [← Nat.add_assoc]; exact hC4)
                    have a1 := hro4 i (by omega)
                    have a2 := ro3 i (by omega)
                    have a3 := ro2 i h1
                    have a4 := hro i h1
                    exact ⟨a1.1.trans (a2.1.trans (a3.1.trans a4.1)), a1.2.trans (a2.2.trans (a3.2.trans a4.2))⟩
              refine k_ends h k2 hn h8 hB hB4 (by omega) hSw8 hbh2 (fun j hj => ?_) (fun hall => after _ (fun p u hpp he hv => ?_)) (fun hne => after _ (fun p u hpp he hv => ?_))
              · have b1 := bd2 k (by omega) j hj
                have t1 : 1 ≤ T μ (up1 q k w k) j ∧ T μ (up1 q k w k) j ≤ 40 := by rw [up1_s]; exact h.T hn hw j (by omega)
                omega
              · obtain ⟨bg, lv, r, hu, hs⟩ := same p u hpp he hv
                rw [← hs (B - 1) (by omega), hu]
                exact el_end h hn hB2 hB4 hpp r hkn
              · obtain ⟨bg, lv, r, hu, hs⟩ := same p u hpp he hv
                have hS' : bs q k ||| 2 ^ w = bs p (k + 1) := by rw [bs_cg he, bs_up1]
                have hk1 : k + 1 ≠ n := fun e => by
                  apply hne
                  rw [hS', e]
                  apply Nat.eq_of_testBit_eq
                  intro v
                  rw [all_bit]
                  by_cases cv : v < n
                  · rw [decide_eq_true cv]
                    obtain ⟨i, h1, h2⟩ := hpp.onto cv
                    exact bs_bit.mpr ⟨i, h1, h2⟩
                  · rw [decide_eq_false cv]
                    cases hcc : (bs p n).testBit v with
                    | false => rfl
                    | true =>
                      obtain ⟨i, h1, h2⟩ := bs_bit.mp hcc
                      have := hpp.1 i h1
                      omega
                refine elm_le ?_ (fun b hb' => ?_)
                · rw [← hs (B - 1) (by omega), hu]
                  exact el_end h hn hB2 hB4 hpp r hkn
                · rw [← hs b hb', hu, hS']
                  exact el_le h hn hB4 hpp r (by omega) hb'
      · rw [hpow, ← Nat.mul_assoc] at hC
        rw [Nat.add_zero, Nat.mul_comm 8 c]
        exact hC
    · have hkn : k = n := by omega
      subst hkn
      have hP : Pm q k := ⟨hq, hi⟩
      rw [Nat.sub_self, Nat.pow_zero, Nat.mul_one] at hC
      rw [Nat.sub_self, Nat.pow_zero, Nat.mul_one] at hp
      have hv : VR μ B k q (rEnd (lvK M) B k) := ⟨bgK M, lvK M, hR, rfl⟩
      unfold wp_X1_keepIfSooner b_X1_keepIfSooner_e
      refine ⟨fun hle => ?_, fun hgt => ?_⟩
      · exact hp M k1 hM4 hbh hT (fun i _ => ⟨rfl, rfl⟩) (hC.keep h8 (VR_fn h hB2) hP rfl hv hle)
      · intro M2 h2
        have e1 : M2 1 0 = k := by rw [h2, wr_o (by decide)]; exact n1
        rw [e1, tn]
        refine ⟨⟨by decide, by omega, by omega, by omega⟩, ?_⟩
        intro M3 h3
        have o3 : ∀ x, x ≠ 83 → x ≠ 7 → M3 x = M x := fun x a1 a2 => by
          rw [h3]
          unfold cpm
          rw [if_neg a1, h2, wr_ne a2]
        have o74 : M3 7 4 = M 7 4 := by
          rw [h3]
          unfold cpm
          rw [if_neg (by decide), h2, wr_i (by decide)]
        have o73 : M3 7 3 = rEnd (lvK M) B k := by
          rw [h3]
          unfold cpm
          rw [if_neg (by decide), h2, wr_s]
        have o83 : ∀ i, i < k → M3 83 i = q i := fun i hi' => by
          rw [h3]
          show (if (83 : Nat) = 83 then (fun j => if (0 : Int).toNat ≤ j ∧ j < (0 : Int).toNat + k then M2 84 ((0 : Int).toNat + (j - (0 : Int).toNat)) else M2 83 j) else M2 83) i = q i
          rw [if_pos rfl]
          show (if (0 : Nat) ≤ i ∧ i < 0 + k then M2 84 (0 + (i - 0)) else M2 83 i) = q i
          rw [if_pos (by omega), Nat.zero_add, Nat.sub_zero, h2, wr_o (by decide)]
          exact hT i hi'
        refine hp M3 (fun x hx => ?_) (by rw [o74]; exact hM4) (fun w b h1 h2 => by rw [o3 _ (by omega) (by omega)]; exact hbh w b h1 h2) (fun i hi' => by rw [o3 84 (by decide) (by decide)]; exact hT i hi') (fun i hi' => ⟨by funext y; unfold bgK; rw [o3 _ (by omega) (by omega)], by funext y; unfold lvK; rw [o3 _ (by omega) (by omega)]⟩) ?_
        · have := isP_c hx
          rw [o3 x (by omega) (by omega)]
          exact k1 x hx
        · rw [o73]
          exact hC.found h8 (VR_fn h hB2) hP rfl trivial hv (by omega) o83
