/-! Names for values and memories; rows at a known place. -/
section RowsF
variable {g : Wc} {X : Cx} {cc : ByteArray} {own : String} {nL h : Nat} {μ : Mem} {lv : List (Nat × AV)} {pc : Nat} {st : List AV} {a b : Int} {Post : Pst}
theorem V.nmI (kk : ∀ x : Int, x = a → V g X nL μ lv pc (Iv x :: st)) : V g X nL μ lv pc (Iv a :: st) := kk a rfl
theorem V.nmL (kk : ∀ x : Int, x = a → V g X nL μ lv pc (Lv x :: st)) : V g X nL μ lv pc (Lv a :: st) := kk a rfl
theorem V.nmM (kk : ∀ x : Mem, x = μ → V g X nL x lv pc st) : V g X nL μ lv pc st := kk μ rfl
theorem r_iincN {i : Nat} {n : Int} (k : Nat) {lf : Int → List (Nat × AV)} (F : Fx g X cc own nL h) (hd : decode cc pc = .ok (.iinc i n, 3)) (hk : lv[k]? = some (i, Iv a)) (hn : i < nL) (hl : (i, Iv (wrap (a + n))) :: lv.filter (fun q => !(q.1 == i) && !(q.1 + 1 == i && isL q.2)) = lf (wrap (a + n))) (kk : ∀ x : Int, x = wrap (a + n) → V g X nL μ (lf x) (pc + 3) st) : V g X nL μ lv pc st :=
  r_iinc k F hd hk hn hl (kk _ rfl)
theorem r_ialdk {c n k : Nat} (F : Fx g X cc own nL h) (hc1 : 24 ≤ c) (hc2 : c < 112) (hn : len c = n) (hk : a.toNat = k) (hi : 0 ≤ a ∧ a < n) (hd : decode cc pc = .ok (.iaload, 1)) (kk : V g X nL μ lv (pc + 1) (Iv (μ c k) :: st)) : V g X nL μ lv pc (Iv a :: Rv c :: st) := by
  subst hk
  exact r_iald F hc1 hc2 hn hi hd kk
theorem r_iastk {c n k : Nat} {x : Int} (F : Fx g X cc own nL h) (hc1 : 24 ≤ c) (hc2 : c < 112) (hn : len c = n) (hk : a.toNat = k) (hi : 0 ≤ a ∧ a < n) (hd : decode cc pc = .ok (.iastore, 1)) (kk : V g X nL (wr μ c k x) lv (pc + 1) st) : V g X nL μ lv pc (Iv x :: Iv a :: Rv c :: st) := by
  subst hk
  exact r_iast F hc1 hc2 hn hi hd kk
theorem r_aaldk {c n d e : Nat} (F : Fx g X cc own nL h) (hc1 : 12 ≤ c) (hc2 : c < 112) (ho : outT[c - 12]? = some (n, d)) (he : d + a.toNat = e) (hi : 0 ≤ a ∧ a < n) (hd : decode cc pc = .ok (.aaload, 1)) (kk : V g X nL μ lv (pc + 1) (Rv e :: st)) : V g X nL μ lv pc (Iv a :: Rv c :: st) := by
  subst he
  exact r_aald F hc1 hc2 ho hi hd kk
theorem r_blen (F : Fx g X cc own nL h) (hd : decode cc pc = .ok (.arraylength, 1)) (kk : V g X nL μ lv (pc + 1) (Iv 4096 :: st)) : V g X nL μ lv pc (Rv 23 :: st) := by
  intro h1 h2 h3 H locs ls h4 h5 h6
  have h2' := (List.forall_mem_cons.mp h2).2
  exact va_alen (D := g.2.1) (ws := wsl g μ) F.1 F.2.1 F.2.2.2.2.1.2.1 h4.P 23 1 (by rw [wsl_at (by omega), ce_byte]) rfl (v := Int32.ofInt 4096) rfl hd (kk h1 (List.forall_mem_cons.mpr ⟨⟨by omega, by omega⟩, h2'⟩) h3 H locs ls h4 h5 h6)
end RowsF
