/-! Rows of the heap. -/
def wsl (g : Wc) (μ : Mem) : va_W := (List.range 112).map (fun c => (g.1 c, ce g μ c))
theorem wsl_at {g : Wc} {μ : Mem} {c : Nat} (hc : c < 112) : (wsl g μ)[c]? = some (g.1 c, ce g μ c) := by
  unfold wsl
  rw [List.getElem?_map, List.getElem?_range hc]
  rfl
theorem wsl_lt {g : Wc} {μ : Mem} {k : Nat} {q : Nat × va_E} (h : (wsl g μ)[k]? = some q) : k < 112 ∧ q = (g.1 k, ce g μ k) := by
  have hk : k < 112 := by
    have := (List.getElem?_eq_some_iff.mp h).1
    simpa [wsl] using this
  refine ⟨hk, ?_⟩
  rw [wsl_at hk] at h
  exact (Option.some.inj h).symm
theorem HW.P {g : Wc} {μ : Mem} {H : Heap} (h : HW g μ H) : va_P g.2.1 vwCl (wsl g μ) H := by
  intro k q hq
  obtain ⟨hk, rfl⟩ := wsl_lt hq
  exact h.1 k hk
theorem HW.D {g : Wc} {μ : Mem} {H : Heap} (h : HW g μ H) : va_D (Aq g) (wsl g μ) := by
  refine ⟨fun i j p q hp hq e => ?_, fun k q hq => ?_⟩
  · obtain ⟨hi, rfl⟩ := wsl_lt hp
    obtain ⟨hj, rfl⟩ := wsl_lt hq
    exact h.2 i j hi hj e
  · obtain ⟨hk, rfl⟩ := wsl_lt hq
    exact ⟨k, hk, rfl⟩
theorem HW.of {g : Wc} {μ μ' : Mem} {H H1 : Heap} (h : HW g μ H) (hP : va_P g.2.1 vwCl (wsl g μ') H1) : HW g μ' H1 :=
  ⟨fun c hc => hP c _ (wsl_at hc), h.2⟩
theorem ce_congr {g : Wc} {μ μ' : Mem} {c : Nat} (h : μ c = μ' c) : ce g μ c = ce g μ' c := by
  unfold ce
  rw [h]
theorem wsl_set {g : Wc} {μ μ' : Mem} {c : Nat} {e : va_E} (hc : c < 112) (ho : ∀ d, d ≠ c → μ' d = μ d) (he : ce g μ' c = e) : (wsl g μ).set c (g.1 c, e) = wsl g μ' := by
  apply List.ext_getElem?
  intro k
  rw [List.getElem?_set]
  by_cases hk : c = k
  · subst hk
    rw [if_pos rfl, wsl_at hc, he, if_pos (by simp [wsl]; exact hc)]
  · rw [if_neg hk]
    by_cases h2 : k < 112
    · rw [wsl_at h2, wsl_at h2, ce_congr (ho k (fun q => hk q.symm))]
    · rw [List.getElem?_eq_none (by simp [wsl]; omega), List.getElem?_eq_none (by simp [wsl]; omega)]
theorem wr_ne {μ : Mem} {c i d : Nat} {v : Int} (h : d ≠ c) : wr μ c i v d = μ d := by unfold wr; rw [if_neg h]
theorem wr_eq {μ : Mem} {c i : Nat} {v : Int} : wr μ c i v c = fun j => if j = i then v else μ c j := by unfold wr; rw [if_pos rfl]
theorem wr_rng {μ : Mem} {c i : Nat} {v : Int} (h : RngM μ) (hv : inR v) : RngM (wr μ c i v) := by
  intro a j
  unfold wr
  by_cases h1 : a = c
  · rw [if_pos h1]
    by_cases h2 : j = i
    · simp only [h2, if_true]; exact hv
    · simp only [h2, if_false]; exact h c j
  · rw [if_neg h1]; exact h a j
theorem ce_obj {g : Wc} {μ : Mem} {c : Nat} {o : Nat × List (Option Nat)} (h : objT[c]? = some o) : ce g μ c = .inr (o.1, flds g.1 (μ c) 0 o.2) := by
  unfold ce; rw [h]
theorem objT_none {c : Nat} (h : 12 ≤ c) : objT[c]? = none := List.getElem?_eq_none (by simp [objT]; exact h)
theorem outT_none {c : Nat} (h : 23 ≤ c) : outT[c - 12]? = none := List.getElem?_eq_none (by simp [outT]; omega)
theorem ce_int {g : Wc} {μ : Mem} {c : Nat} (h : 24 ≤ c) : ce g μ c = .inl (g.2.2.1, len c, .inl (fun i => Int32.ofInt (μ c i))) := by
  unfold ce
  rw [objT_none (by omega), outT_none (by omega)]
  show Sum.inl (if c = 23 then g.2.2.2.1 else g.2.2.1, len c, _) = _
  rw [if_neg (by omega)]
theorem ce_byte {g : Wc} {μ : Mem} : ce g μ 23 = .inl (g.2.2.2.1, 4096, .inl (fun i => Int32.ofInt (μ 23 i))) := rfl
theorem ce_out {g : Wc} {μ : Mem} {c n b : Nat} (h : 12 ≤ c) (ho : outT[c - 12]? = some (n, b)) : ce g μ c = .inl (g.2.2.2.2, n, .inr (.inr (.inr (.inr (fun i => if i < n then some (g.1 (b + i)) else none))))) := by
  unfold ce
  rw [objT_none h, ho]
theorem flds_I {q : Nat → Nat} {f : Nat → Int} : ∀ {o : List (Option Nat)} {j k : Nat}, o[k]? = some none → (flds q f j o)[k]? = some (Value.int (Int32.ofInt (f (j + k))))
  | [], _, _, h => by simp at h
  | none :: r, j, 0, _ => rfl
  | some c :: r, j, 0, h => by simp at h
  | none :: r, j, k + 1, h => by
    have := flds_I (q := q) (f := f) (o := r) (j := j + 1) (k := k) (by simpa using h)
    simpa [flds, Nat.add_assoc, Nat.add_comm 1 k] using this
  | some c :: r, j, k + 1, h => by
    have := flds_I (q := q) (f := f) (o := r) (j := j + 1) (k := k) (by simpa using h)
    simpa [flds, Nat.add_assoc, Nat.add_comm 1 k] using this
theorem flds_R {q : Nat → Nat} {f : Nat → Int} {d : Nat} : ∀ {o : List (Option Nat)} {j k : Nat}, o[k]? = some (some d) → (flds q f j o)[k]? = some (Value.ref (q d))
  | [], _, _, h => by simp at h
  | none :: r, j, 0, h => by simp at h
  | some c :: r, j, 0, h => by
    simp at h
    subst h
    rfl
  | none :: r, j, k + 1, h => by
    have := flds_R (q := q) (f := f) (d := d) (o := r) (j := j + 1) (k := k) (by simpa using h)
    simpa [flds] using this
  | some c :: r, j, k + 1, h => by
    have := flds_R (q := q) (f := f) (d := d) (o := r) (j := j + 1) (k := k) (by simpa using h)
    simpa [flds] using this
theorem flds_len {q : Nat → Nat} {f : Nat → Int} : ∀ {o : List (Option Nat)} {j : Nat}, (flds q f j o).length = o.length
  | [], _ => rfl
  | none :: r, j => by simp [flds, flds_len (o := r)]
  | some c :: r, j => by simp [flds, flds_len (o := r)]
theorem flds_set {q : Nat → Nat} {f f' : Nat → Int} : ∀ {o : List (Option Nat)} {j k : Nat}, o[k]? = some none → (∀ i, i ≠ j + k → f' i = f i) → (flds q f j o).set k (Value.int (Int32.ofInt (f' (j + k)))) = flds q f' j o
  | [], _, _, h, _ => by simp at h
  | none :: r, j, 0, _, hf => by
    show Value.int (Int32.ofInt (f' (j + 0))) :: flds q f (j + 1) r = Value.int (Int32.ofInt (f' j)) :: flds q f' (j + 1) r
    rw [Nat.add_zero]
    congr 1
    exact flds_cg (fun i hi => (hf i (by omega)).symm)
  | some c :: r, j, 0, h, _ => by simp at h
  | none :: r, j, k + 1, h, hf => by
    have := flds_set (q := q) (f := f) (f' := f') (o := r) (j := j + 1) (k := k) (by simpa using h) (fun i hi => hf i (by omega))
    show Value.int (Int32.ofInt (f j)) :: (flds q f (j + 1) r).set k _ = Value.int (Int32.ofInt (f' j)) :: flds q f' (j + 1) r
    rw [show j + (k + 1) = j + 1 + k by omega, this, hf j (by omega)]
  | some c :: r, j, k + 1, h, hf => by
    have := flds_set (q := q) (f := f) (f' := f') (o := r) (j := j + 1) (k := k) (by simpa using h) (fun i hi => hf i (by omega))
    show Value.ref (q c) :: (flds q f (j + 1) r).set k _ = Value.ref (q c) :: flds q f' (j + 1) r
    rw [show j + (k + 1) = j + 1 + k by omega, this]
where
  flds_cg {q : Nat → Nat} {f f' : Nat → Int} : ∀ {o : List (Option Nat)} {j : Nat}, (∀ i, j ≤ i → f i = f' i) → flds q f j o = flds q f' j o
  | [], _, _ => rfl
  | none :: r, j, hf => by
    show Value.int (Int32.ofInt (f j)) :: flds q f (j + 1) r = Value.int (Int32.ofInt (f' j)) :: flds q f' (j + 1) r
    rw [hf j (Nat.le_refl j), flds_cg (o := r) (fun i hi => hf i (by omega))]
  | some c :: r, j, hf => by
    show Value.ref (q c) :: flds q f (j + 1) r = Value.ref (q c) :: flds q f' (j + 1) r
    rw [flds_cg (o := r) (fun i hi => hf i (by omega))]
def catS (st : List AV) : Nat := (st.map (fun a => if isL a then 2 else 1)).sum
theorem catS_eq (q : Nat → Nat) (st : List AV) : ((st.map (cv q)).map fun v => v.category).sum = catS st := by
  unfold catS
  rw [List.map_map]
  congr 2
  funext a
  rcases a with a | a | a <;> rfl
section RowsC
variable {g : Wc} {X : Cx} {cc : ByteArray} {own : String} {nL h : Nat} {μ : Mem} {lv : List (Nat × AV)} {pc : Nat} {st : List AV} {a b : Int}
theorem Fx.ts (F : Fx g X cc own nL h) : ∀ w ∈ tb, w.before X.2.1.2.2.1 X.2.1.1 = true := fun w hw => F.2.2.2.2.1.1 w hw _
theorem r_getI {c ci k N idx : Nat} {C : String} {T : u_T} {o : List (Option Nat)} (F : Fx g X cc own nL h) (hin : ∀ w ∈ u_ws C T N, w ∈ tb) (hcl : vwCl[ci]? = some (C, T, N)) (hc : c < 112) (ho : objT[c]? = some (ci, o)) (hk : k < N) (hok : o[k]? = some none)
    (hlk : Cond.fieldLink own idx (T k).1 (T k).2.1 (T k).2.2.1 ∈ tb) (hd : decode cc pc = .ok (.getfield idx, 3)) (kk : V g X nL μ lv (pc + 3) (Iv (μ c k) :: st)) : V g X nL μ lv pc (Rv c :: st) := by
  intro h1 h2 h3 H locs ls h4 h5 h6
  have h2' := (List.forall_mem_cons.mp h2).2
  have hkk := kk h1 (List.forall_mem_cons.mpr ⟨h3 c k, h2'⟩) h3 H locs ls h4 h5 h6
  refine va_get (D := g.2.1) (ws := wsl g μ) (v := Value.int (Int32.ofInt (μ c k))) F.1 F.2.1 F.ts hin F.2.2.2.1 F.2.2.2.2.1.2.1 h4.P c (by rw [wsl_at hc, ce_obj ho]) hcl k hk (F.ts _ hlk) (fun _ z => z) (by rw [flds_I hok, Nat.zero_add]) hd hkk
theorem r_getR {c ci k N idx d : Nat} {C : String} {T : u_T} {o : List (Option Nat)} (F : Fx g X cc own nL h) (hin : ∀ w ∈ u_ws C T N, w ∈ tb) (hcl : vwCl[ci]? = some (C, T, N)) (hc : c < 112) (ho : objT[c]? = some (ci, o)) (hk : k < N) (hok : o[k]? = some (some d))
    (hlk : Cond.fieldLink own idx (T k).1 (T k).2.1 (T k).2.2.1 ∈ tb) (hd : decode cc pc = .ok (.getfield idx, 3)) (kk : V g X nL μ lv (pc + 3) (Rv d :: st)) : V g X nL μ lv pc (Rv c :: st) := by
  intro h1 h2 h3 H locs ls h4 h5 h6
  have h2' := (List.forall_mem_cons.mp h2).2
  have hkk := kk h1 (List.forall_mem_cons.mpr ⟨trivial, h2'⟩) h3 H locs ls h4 h5 h6
  refine va_get (D := g.2.1) (ws := wsl g μ) (v := Value.ref (g.1 d)) F.1 F.2.1 F.ts hin F.2.2.2.1 F.2.2.2.2.1.2.1 h4.P c (by rw [wsl_at hc, ce_obj ho]) hcl k hk (F.ts _ hlk) (fun _ z => z) (flds_R hok) hd hkk
theorem r_putI {c ci k N idx : Nat} {C : String} {T : u_T} {o : List (Option Nat)} (F : Fx g X cc own nL h) (hin : ∀ w ∈ u_ws C T N, w ∈ tb) (ty0 : Nat → FieldType) (hty : ∀ k, k < N → parseFieldDescriptor (T k).2.2.1 = some (ty0 k)) (hnm : ∀ a, a < N → ∀ b, b < N → a ≠ b → (T a).2.1 ≠ (T b).2.1)
    (hcl : vwCl[ci]? = some (C, T, N)) (hc : c < 112) (ho : objT[c]? = some (ci, o)) (hk : k < N) (hok : o[k]? = some none) (hlk : Cond.fieldLink own idx (T k).1 (T k).2.1 (T k).2.2.1 ∈ tb) (hfin : (T k).2.2.2 = false) (hI : ty0 k = .int) (hd : decode cc pc = .ok (.putfield idx, 3)) (kk : V g X nL (wr μ c k a) lv (pc + 3) st) : V g X nL μ lv pc (Iv a :: Rv c :: st) := by
  intro h1 h2 h3 H locs ls h4 h5 h6
  have ha : inR a := (List.forall_mem_cons.mp h2).1
  have h2' := (List.forall_mem_cons.mp (List.forall_mem_cons.mp h2).2).2
  have hl : k < o.length := (List.getElem?_eq_some_iff.mp hok).1
  refine va_put (D := g.2.1) (ws := wsl g μ) (ty := .int) (v := Value.int (Int32.ofInt a)) F.1 F.2.1 F.ts hin ty0 hty hnm F.2.2.2.1 F.2.2.2.2.1.2.1 h4.P h4.D h5 c (by rw [wsl_at hc, ce_obj ho]) hcl k hk (F.ts _ hlk) (fun _ z => z) hfin (by rw [hty k hk, hI]) rfl rfl (by rw [flds_len]; exact hl) hd (fun H1 locs1 hP hD hS => ?_)
  have e : (wsl g μ).set c (g.1 c, .inr (ci, (flds g.1 (μ c) 0 o).set k (Value.int (Int32.ofInt a)))) = wsl g (wr μ c k a) := by
    refine wsl_set hc (fun d hdc => wr_ne hdc) ?_
    rw [ce_obj ho]
    have hs := flds_set (q := g.1) (f := μ c) (f' := wr μ c k a c) (o := o) (j := 0) (k := k) hok (fun i hi => by rw [wr_eq]; simp only; rw [if_neg (by omega)])
    rw [← hs, wr_eq]
    simp
  rw [e] at hP
  exact kk h1 h2' (wr_rng h3 ha) H1 locs1 ls (h4.of hP) hS h6
theorem r_iald {c n : Nat} (F : Fx g X cc own nL h) (hc1 : 24 ≤ c) (hc2 : c < 112) (hn : len c = n) (hi : 0 ≤ a ∧ a < n) (hd : decode cc pc = .ok (.iaload, 1)) (kk : V g X nL μ lv (pc + 1) (Iv (μ c a.toNat) :: st)) : V g X nL μ lv pc (Iv a :: Rv c :: st) := by
  intro h1 h2 h3 H locs ls h4 h5 h6
  have ha : inR a := (List.forall_mem_cons.mp h2).1
  have h2' := (List.forall_mem_cons.mp (List.forall_mem_cons.mp h2).2).2
  have hkk := kk h1 (List.forall_mem_cons.mpr ⟨h3 c _, h2'⟩) h3 H locs ls h4 h5 h6
  refine va_iald (D := g.2.1) (ws := wsl g μ) F.1 F.2.1 F.2.2.2.2.1.2.1 h4.P c 0 (by rw [wsl_at hc2, ce_int hc1]) rfl (i32_in hi.1 (by rw [hn]; exact hi.2) ha) hd ?_
  rw [i32_clamp hi.1 ha]
  exact hkk
theorem r_iast {c n : Nat} {x : Int} (F : Fx g X cc own nL h) (hc1 : 24 ≤ c) (hc2 : c < 112) (hn : len c = n) (hi : 0 ≤ a ∧ a < n) (hd : decode cc pc = .ok (.iastore, 1)) (kk : V g X nL (wr μ c a.toNat x) lv (pc + 1) st) : V g X nL μ lv pc (Iv x :: Iv a :: Rv c :: st) := by
  intro h1 h2 h3 H locs ls h4 h5 h6
  have hx : inR x := (List.forall_mem_cons.mp h2).1
  have ha : inR a := (List.forall_mem_cons.mp (List.forall_mem_cons.mp h2).2).1
  have h2' := (List.forall_mem_cons.mp (List.forall_mem_cons.mp (List.forall_mem_cons.mp h2).2).2).2
  refine va_iast (D := g.2.1) (ws := wsl g μ) F.1 F.2.1 F.2.2.2.2.1.2.1 h4.P h4.D h5 c 0 (by rw [wsl_at hc2, ce_int hc1]) rfl (i32_in hi.1 (by rw [hn]; exact hi.2) ha) hd (fun H1 locs1 hP hD hS => ?_)
  have e : (wsl g μ).set c (g.1 c, .inl (g.2.2.1, len c, .inl (upd (fun i => Int32.ofInt (μ c i)) (Int32.ofInt a).toNatClampNeg (Int32.ofInt x)))) = wsl g (wr μ c a.toNat x) := by
    refine wsl_set hc2 (fun d hdc => wr_ne hdc) ?_
    rw [ce_int hc1, wr_eq, i32_clamp hi.1 ha]
    congr 4
    funext j
    unfold upd
    by_cases hj : j = a.toNat
    · simp only [hj, if_true]
    · simp only [hj, if_false]
  rw [e] at hP
  exact kk h1 h2' (wr_rng h3 hx) H1 locs1 ls (h4.of hP) hS h6
theorem r_bald (F : Fx g X cc own nL h) (hi : 0 ≤ a ∧ a < 4096) (hd : decode cc pc = .ok (.baload, 1)) (kk : V g X nL μ lv (pc + 1) (Iv (μ 23 a.toNat) :: st)) : V g X nL μ lv pc (Iv a :: Rv 23 :: st) := by
  intro h1 h2 h3 H locs ls h4 h5 h6
  have ha : inR a := (List.forall_mem_cons.mp h2).1
  have h2' := (List.forall_mem_cons.mp (List.forall_mem_cons.mp h2).2).2
  have hkk := kk h1 (List.forall_mem_cons.mpr ⟨h3 23 _, h2'⟩) h3 H locs ls h4 h5 h6
  refine va_bald (D := g.2.1) (ws := wsl g μ) F.1 F.2.1 F.2.2.2.2.1.2.1 h4.P 23 1 (by rw [wsl_at (by omega), ce_byte]) rfl (i32_in (n := 4096) hi.1 hi.2 ha) hd ?_
  rw [i32_clamp hi.1 ha]
  exact hkk
theorem i8_id {x : Int} (h1 : -128 ≤ x) (h2 : x ≤ 127) : (Int32.ofInt x).toInt8.toInt32 = Int32.ofInt x := by
  apply Int32.toInt_inj.mp
  have hr : inR x := by unfold inR; omega
  rw [Int8.toInt_toInt32, Int32.toInt_toInt8, ofI_toInt hr]
  exact Int.bmod_eq_of_le (by simp; omega) (by simp; omega)
theorem r_bast {x : Int} (F : Fx g X cc own nL h) (hi : 0 ≤ a ∧ a < 4096) (hx2 : -128 ≤ x ∧ x ≤ 127) (hd : decode cc pc = .ok (.bastore, 1)) (kk : V g X nL (wr μ 23 a.toNat x) lv (pc + 1) st) : V g X nL μ lv pc (Iv x :: Iv a :: Rv 23 :: st) := by
  intro h1 h2 h3 H locs ls h4 h5 h6
  have hx : inR x := (List.forall_mem_cons.mp h2).1
  have ha : inR a := (List.forall_mem_cons.mp (List.forall_mem_cons.mp h2).2).1
  have h2' := (List.forall_mem_cons.mp (List.forall_mem_cons.mp (List.forall_mem_cons.mp h2).2).2).2
  refine va_bast (D := g.2.1) (ws := wsl g μ) F.1 F.2.1 F.2.2.2.2.1.2.1 h4.P h4.D h5 23 1 (by rw [wsl_at (by omega), ce_byte]) rfl (i32_in (n := 4096) hi.1 hi.2 ha) hd (fun H1 locs1 hP hD hS => ?_)
  have e : (wsl g μ).set 23 (g.1 23, .inl (g.2.2.2.1, 4096, .inl (upd (fun i => Int32.ofInt (μ 23 i)) (Int32.ofInt a).toNatClampNeg (vp_nar .byte (Int32.ofInt x))))) = wsl g (wr μ 23 a.toNat x) := by
    refine wsl_set (by omega) (fun d hdc => wr_ne hdc) ?_
    rw [ce_byte, wr_eq, i32_clamp hi.1 ha, vp_nar_byte, i8_id hx2.1 hx2.2]
    congr 4
    funext j
    unfold upd
    by_cases hj : j = a.toNat
    · simp only [hj, if_true]
    · simp only [hj, if_false]
  rw [e] at hP
  exact kk h1 h2' (wr_rng h3 hx) H1 locs1 ls (h4.of hP) hS h6
theorem r_aald {c n d : Nat} (F : Fx g X cc own nL h) (hc1 : 12 ≤ c) (hc2 : c < 112) (ho : outT[c - 12]? = some (n, d)) (hi : 0 ≤ a ∧ a < n) (hd : decode cc pc = .ok (.aaload, 1)) (kk : V g X nL μ lv (pc + 1) (Rv (d + a.toNat) :: st)) : V g X nL μ lv pc (Iv a :: Rv c :: st) := by
  intro h1 h2 h3 H locs ls h4 h5 h6
  have ha : inR a := (List.forall_mem_cons.mp h2).1
  have h2' := (List.forall_mem_cons.mp (List.forall_mem_cons.mp h2).2).2
  have hkk := kk h1 (List.forall_mem_cons.mpr ⟨trivial, h2'⟩) h3 H locs ls h4 h5 h6
  have hcell := h4.P c _ (wsl_at hc2)
  rw [ce_out hc1 ho] at hcell
  have hlt : (Int32.ofInt a).toNatClampNeg < n := by rw [i32_clamp hi.1 ha]; omega
  refine W.aald (v := Value.ref (g.1 (d + a.toNat))) (ty := .array .int) F.1 F.2.1 hcell ((F.2.2.2.2.1.2.1.2 2 _ rfl).1 n _) rfl (fun q => by cases q) ?_ ?_ rfl rfl hd hkk
  · show ¬ (_ ∨ (arrV _ _ _).slots.size ≤ _)
    rw [arrV_size]
    exact i32_in hi.1 hi.2 ha
  · show (arrV _ _ _).slots[_]? = _
    rw [arrV_read _ _ hlt, i32_clamp hi.1 ha]
    dsimp only
    rw [if_pos (by omega)]
    rfl
end RowsC
