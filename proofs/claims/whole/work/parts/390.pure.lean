/-! The law's loop: call by call, the same answer, and the invariant behind it. -/
theorem pure_holds : Pure := by
  intro L xs hL hx G g
  have key : ∀ (d i : Nat) (μ : Mem), L < i + 4 * d + 4 → i ≤ 2100 → Inv μ → G μ (i : Int) := by
    intro d
    induction d with
    | zero =>
      intro i μ hd hi hI
      refine g _ _ ⟨fun _ => rfl, fun h' => absurd ?_ h'⟩
      rw [wrap_id (by omega) (by omega)]
      omega
    | succ d ih =>
      intro i μ hd hi hI
      have wl : wrap ((L : Int) - 4) = (L : Int) - 4 := wrap_id (by omega) (by omega)
      refine g _ _ ⟨fun _ => rfl, fun hn => ?_⟩
      rw [wl] at hn
      have b0 : 0 ≤ (i : Int) ∧ (i : Int) < L := by omega
      have b1 : 0 ≤ wrap ((i : Int) + 1) ∧ wrap ((i : Int) + 1) < L := by rw [wrap_id (by omega) (by omega)]; omega
      have b2 : 0 ≤ wrap ((i : Int) + 2) ∧ wrap ((i : Int) + 2) < L := by rw [wrap_id (by omega) (by omega)]; omega
      have b3 : 0 ≤ wrap ((i : Int) + 3) ∧ wrap ((i : Int) + 3) < L := by rw [wrap_id (by omega) (by omega)]; omega
      have nx : ∀ μ2 : Mem, Inv μ2 → b_L_law_888 L xs G (fun r _ => r = 1) μ2 (i : Int) := by
        intro μ2 h2
        unfold b_L_law_888
        rw [wrap_id (by omega) (by omega)]
        rintro _ rfl
        exact ih (i + 4) μ2 (by omega) (by omega) h2
      have fin : ∀ r r' μ2, Ok r r' μ2 → (r = r' → b_L_law_888 L xs G (fun r _ => r = 1) μ2 (i : Int)) ∧ (¬ r = r' → (fun (r : Int) (_ : Mem) => r = 1) 0 μ2) := fun r r' μ2 h => ⟨fun _ => nx μ2 h.2, fun hn => absurd h.1 hn⟩
      have ah : ∀ p : Int, (p = 0 ∧ xs (wrap ((i : Int) + 3)).toNat = 0) ∨ (p = 1 ∧ ¬ xs (wrap ((i : Int) + 3)).toNat = 0) → b_L_law_254 L xs G (fun r _ => r = 1) μ (i : Int) (xs (wrap ((i : Int) + 1)).toNat) (xs (wrap ((i : Int) + 2)).toNat) p := by
        intro p hp
        unfold b_L_law_254 b_L_law_281
        refine ⟨_, o_ahead hI (hp.imp And.left And.left), fun r μ1 h => ⟨b1, b2, b3, fun c => ?_, fun c => ?_⟩⟩
        · rcases hp with ⟨rfl, _⟩ | ⟨_, h2⟩
          · exact ⟨_, h, fin r⟩
          · exact absurd c h2
        · rcases hp with ⟨_, h2⟩ | ⟨rfl, _⟩
          · exact absurd h2 c
          · exact ⟨_, h, fin r⟩
      exact ⟨b0,
        fun _ => nx μ hI,
        fun _ => ⟨b1, _, o_work hI, fun r μ1 h => ⟨b1, _, h, fin r⟩⟩,
        fun _ => ⟨b1, b2, b3, _, o_put hI, fun r μ1 h => ⟨b1, b2, b3, _, h, fin r⟩⟩,
        fun _ => ⟨b1, b2, b3, fun c => ah 0 (Or.inl ⟨rfl, c⟩), fun c => ah 1 (Or.inr ⟨rfl, c⟩)⟩,
        fun _ => ⟨b1, b2, b3, _, o_change hI, fun r μ1 h => ⟨b1, b2, b3, _, h, fin r⟩⟩,
        fun _ => ⟨b1, b2, _, o_best hI, fun r μ1 h => ⟨b1, b2, _, h, fin r⟩⟩,
        fun _ => ⟨b1, _, o_lastFirst hI, fun r μ1 h => ⟨b1, _, h, fin r⟩⟩,
        fun _ => ⟨_, o_onTime hI, fun r μ1 h => ⟨_, h, fin r⟩⟩,
        fun _ => ⟨b1, _, o_broken hI, fun r μ1 h => ⟨b1, _, h, fin r⟩⟩,
        fun _ => ⟨b1, _, o_minute hI, fun r μ1 h => ⟨b1, _, h, fin r⟩⟩,
        fun _ => ⟨b1, _, o_next hI, fun r μ1 h => ⟨b1, _, h, fin r⟩⟩,
        fun _ => ⟨_, o_anew hI, fun r μ1 h => ⟨_, h, fin r⟩⟩,
        fun _ => ⟨b1, _, o_judge hI, fun r μ1 h => ⟨b1, _, h, fin r⟩⟩,
        fun _ => ⟨b1, _, o_benches hI, fun r μ1 h => ⟨b1, _, h, fin r⟩⟩,
        fun _ => ⟨b1, b2, b3, _, o_needs hI, fun r μ1 h => ⟨b1, b2, b3, _, h, fin r⟩⟩,
        fun _ => ⟨b1, b2, _, o_way hI, fun r μ1 h => ⟨b1, b2, _, h, fin r⟩⟩,
        fun _ => ⟨b1, _, o_byRule hI, fun r μ1 h => ⟨b1, _, h, fin r⟩⟩,
        fun _ => ⟨b1, _, o_bestRow hI, fun r μ1 h => ⟨b1, _, h, fin r⟩⟩,
        fun _ => ⟨_, o_bound hI, fun r μ1 h => ⟨_, h, fin r⟩⟩,
        fun _ => ⟨_, o_any hI, fun r μ1 h => ⟨_, h, fin r⟩⟩,
        fun _ => ⟨b1, b2, b3, _, o_step hI, fun r μ1 h => ⟨b1, b2, b3, _, h, fin r⟩⟩,
        fun _ => ⟨_, o_clear hI, fun r μ1 h => ⟨_, h, fin r⟩⟩,
        fun _ => ⟨_, o_walk hI, fun r μ1 h => ⟨_, h, fin r⟩⟩,
        fun _ => ⟨b1, _, o_leaf hI, fun r μ1 h => ⟨b1, _, h, fin r⟩⟩,
        fun _ => ⟨_, o_fell hI, fun r μ1 h => ⟨_, h, fin r⟩⟩,
        fun _ => ⟨b1, _, o_likes hI, fun r μ1 h => ⟨b1, _, h, fin r⟩⟩,
        fun _ => ⟨b1, _, o_levels hI, fun r μ1 h => ⟨b1, _, h, fin r⟩⟩,
        fun _ => ⟨b1, _, o_least hI, fun r μ1 h => ⟨b1, _, h, fin r⟩⟩,
        fun _ => ⟨b1, _, o_count hI, fun r μ1 h => ⟨b1, _, h, fin r⟩⟩,
        fun _ => ⟨_, o_digest hI, fun r μ1 h => ⟨_, h, fun r' μ2 h => ⟨fun _ => nx μ2 h.2, fun hn => absurd (lcp_z.mpr h.1) hn⟩⟩⟩⟩
  exact key L 0 mu12 (by omega) (by omega) inv0
