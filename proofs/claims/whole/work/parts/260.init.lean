/-! The world as it is being made: its cells come in a known order. By program and by hand. -/
def offT : List Nat := [0, 1, 22, 24, 29, 31, 33, 53, 65, 67, 84, 89, 2, 9, 13, 35, 44, 56, 69, 72, 75, 78, 81, 88, 3, 4, 5, 6, 7, 10, 11, 12, 14, 15, 16, 17, 18, 19, 20, 21, 36, 37, 38, 39, 40, 41, 42, 43, 45, 46, 47, 48, 49, 50, 51, 52, 57, 58, 59, 60, 61, 62, 63, 64, 70, 71, 73, 74, 76, 77, 79, 80, 82, 83, 8, 23, 25, 26, 27, 28, 30, 32, 34, 54, 55, 66, 68, 85, 86, 87, 90, 91, 92, 93, 94, 95, 96, 97, 98, 99, 100, 101, 102, 103, 104, 105, 106, 107, 108, 109, 110, 111]
def off (c : Nat) : Nat := offT.getD c 0
theorem off_inj : ∀ c, c < 112 → ∀ d, d < 112 → off c = off d → c = d := by decide +kernel
theorem off_sur : ∀ j, j < 112 → ∃ c, c < 112 ∧ off c = j := by decide +kernel
theorem off_lt : ∀ c, c < 112 → off c < 112 := by decide +kernel
def flds2 (q : Nat → Nat) (nu : Nat → Bool) (f : Nat → Int) : Nat → List (Option Nat) → List Value
  | _, [] => []
  | k, none :: r => Value.int (Int32.ofInt (f k)) :: flds2 q nu f (k + 1) r
  | k, some c :: r => (if nu k then Value.ref (q c) else Value.null) :: flds2 q nu f (k + 1) r
abbrev Msk : Type := Nat → Nat → Bool
def ce2 (g : Wc) (ν : Msk) (μ : Mem) (c : Nat) : va_E := match objT[c]? with
  | some o => .inr (o.1, flds2 g.1 (ν c) (μ c) 0 o.2)
  | none => ce g μ c
def HP (g : Wc) (B : Nat) (ν : Msk) (μ : Mem) (κ : Nat) (H : Heap) : Prop := H.size = B + κ ∧ ∀ c, c < 112 → off c < κ → va_at g.2.1 vwCl (g.1 c, ce2 g ν μ c) H
def Gq (g : Wc) (B : Nat) : Prop := ∀ c, c < 112 → g.1 c = B + off c
def AB (B : Nat) : Nat → Prop := fun a => B ≤ a
def VI (g : Wc) (B : Nat) (ν : Msk) (κ : Nat) (X : Cx) (nL : Nat) (μ : Mem) (lv : List (Nat × AV)) (pc : Nat) (st : List AV) : Prop :=
  (∀ q ∈ lv, okA q.2) → (∀ a ∈ st, okA a) → RngM μ → ∀ (H : Heap) (locs : List Loc) (ls : Array Slot), HP g B ν μ κ H → va_S (AB B) X.2.1.1.heap H locs → lv_has ls nL (cvl g lv) → WX X H locs (F0 X.2.1.2.1 pc ls (st.map (cv g.1)))
def nx (X : Cx) (i j : Nat) : Cx := (X.1, X.2.1, X.2.2.1, (X.2.2.2.1 + i, X.2.2.2.2 + j))
theorem Fx.nx {g : Wc} {X : Cx} {cc : ByteArray} {own : String} {nL h i j : Nat} (F : Fx g X cc own nL h) (hc : X.2.2.2.1 + i ≤ X.1.2.2.2.cells ∧ X.2.2.2.2 + j ≤ X.1.2.2.2.slots) : Fx g (nx X i j) cc own nL h :=
  ⟨F.1, F.2.1, F.2.2.1, F.2.2.2.1, F.2.2.2.2.1, ⟨F.2.2.2.2.2.1.1, F.2.2.2.2.2.1.2.1, hc.1, hc.2⟩, F.2.2.2.2.2.2⟩
theorem nx_k {X : Cx} {a b i j a' b' : Nat} (hk : X.2.2.2 = (a, b)) (ha : a + i = a') (hb : b + j = b') : (nx X i j).2.2.2 = (a', b') := by
  subst ha; subst hb
  show (X.2.2.2.1 + i, X.2.2.2.2 + j) = _
  rw [hk]
def AOv (U : State) : Prop := (Cond.arrayOver (.array .int)).before #[] U = true
theorem AOv.mv {s U : State} (hvm : s.vm.Alike U.vm) (h : AOv s) : AOv U := by
  have h1 : (Cond.arrayOver (.array .int)).before #[] (s.setVm U.vm) = true := by rw [Cond.arrayOver_setVmC hvm]; exact h
  exact h1
theorem notA {g : Wc} {B κ q : Nat} (hg : Gq g B) (hκ : κ ≤ 112) (hq : q < B + κ) (hA : ¬ Aq g q) : ¬ AB B q := fun hB => by
  have hB' : B ≤ q := hB
  obtain ⟨c, hc, ho⟩ := off_sur (q - B) (by omega)
  exact hA ⟨c, hc, by rw [hg c hc, ho]; omega⟩
theorem Sd.mi {g : Wc} {B κ : Nat} {s U : State} {H : Heap} {locs : List Loc} (hg : Gq g B) (hκ : κ ≤ 112) (hsz : s.heap.size ≤ B + κ) (hW : s.WarmedH U.vm) (hS : va_S (AB B) s.heap H locs) (hU : U.heap = H) (h : Sd g s) : Sd g U :=
  ⟨fun w hw => word_mv hw hW (h.1 w hw), va_K.moved hW.alike h.2.1, by rw [hU]; exact Zs.mv hW.alike (fun q h1 h2 => hS.2.1 q h1 (notA hg hκ (by omega) h2)) h.2.2⟩
theorem flds2_get {q : Nat → Nat} {nu : Nat → Bool} {f : Nat → Int} {d : Nat} : ∀ {o : List (Option Nat)} {j k : Nat}, o[k]? = some (some d) → nu (j + k) = true → (flds2 q nu f j o)[k]? = some (Value.ref (q d))
  | [], _, _, h, _ => by simp at h
  | none :: r, j, 0, h, _ => by simp at h
  | some c :: r, j, 0, h, hn => by
    simp at h
    subst h
    have hn' : nu j = true := hn
    simp [flds2, hn']
  | none :: r, j, k + 1, h, hn => by
    have := flds2_get (q := q) (nu := nu) (f := f) (d := d) (o := r) (j := j + 1) (k := k) (by simpa using h) (by rw [show j + 1 + k = j + (k + 1) by omega]; exact hn)
    simpa [flds2] using this
  | some c :: r, j, k + 1, h, hn => by
    have := flds2_get (q := q) (nu := nu) (f := f) (d := d) (o := r) (j := j + 1) (k := k) (by simpa using h) (by rw [show j + 1 + k = j + (k + 1) by omega]; exact hn)
    simpa [flds2] using this
theorem flds2_len {q : Nat → Nat} {nu : Nat → Bool} {f : Nat → Int} : ∀ {o : List (Option Nat)} {j : Nat}, (flds2 q nu f j o).length = o.length
  | [], _ => rfl
  | none :: r, j => by simp [flds2, flds2_len (o := r)]
  | some c :: r, j => by simp [flds2, flds2_len (o := r)]
theorem flds2_cg {q : Nat → Nat} {nu nu' : Nat → Bool} {f f' : Nat → Int} : ∀ {o : List (Option Nat)} {j : Nat}, (∀ i, j ≤ i → f i = f' i) → (∀ i, j ≤ i → nu i = nu' i) → flds2 q nu f j o = flds2 q nu' f' j o
  | [], _, _, _ => rfl
  | none :: r, j, hf, hn => by
    show Value.int (Int32.ofInt (f j)) :: flds2 q nu f (j + 1) r = Value.int (Int32.ofInt (f' j)) :: flds2 q nu' f' (j + 1) r
    rw [hf j (Nat.le_refl j), flds2_cg (o := r) (fun i hi => hf i (by omega)) (fun i hi => hn i (by omega))]
  | some c :: r, j, hf, hn => by
    show (if nu j then Value.ref (q c) else Value.null) :: flds2 q nu f (j + 1) r = (if nu' j then Value.ref (q c) else Value.null) :: flds2 q nu' f' (j + 1) r
    rw [hn j (Nat.le_refl j), flds2_cg (o := r) (fun i hi => hf i (by omega)) (fun i hi => hn i (by omega))]
theorem flds2_set {q : Nat → Nat} {nu nu' : Nat → Bool} {f f' : Nat → Int} {v : Value} : ∀ {o : List (Option Nat)} {j k : Nat}, k < o.length → (flds2 q nu' f' j o)[k]? = some v → (∀ i, i ≠ j + k → f' i = f i) → (∀ i, i ≠ j + k → nu' i = nu i) → (flds2 q nu f j o).set k v = flds2 q nu' f' j o
  | [], _, _, h, _, _, _ => by simp at h
  | none :: r, j, 0, _, hv, hf, hn => by
    show v :: flds2 q nu f (j + 1) r = Value.int (Int32.ofInt (f' j)) :: flds2 q nu' f' (j + 1) r
    have hv' : some (Value.int (Int32.ofInt (f' j))) = some v := hv
    rw [Option.some.inj hv', flds2_cg (o := r) (fun i hi => (hf i (by omega)).symm) (fun i hi => (hn i (by omega)).symm)]
  | some c :: r, j, 0, _, hv, hf, hn => by
    show v :: flds2 q nu f (j + 1) r = (if nu' j then Value.ref (q c) else Value.null) :: flds2 q nu' f' (j + 1) r
    have hv' : some (if nu' j then Value.ref (q c) else Value.null) = some v := hv
    rw [Option.some.inj hv', flds2_cg (o := r) (fun i hi => (hf i (by omega)).symm) (fun i hi => (hn i (by omega)).symm)]
  | none :: r, j, k + 1, h, hv, hf, hn => by
    have := flds2_set (q := q) (nu := nu) (nu' := nu') (f := f) (f' := f') (v := v) (o := r) (j := j + 1) (k := k) (by simpa using h) (by simpa [flds2] using hv) (fun i hi => hf i (by omega)) (fun i hi => hn i (by omega))
    show Value.int (Int32.ofInt (f j)) :: (flds2 q nu f (j + 1) r).set k v = Value.int (Int32.ofInt (f' j)) :: flds2 q nu' f' (j + 1) r
    rw [this, hf j (by omega)]
  | some c :: r, j, k + 1, h, hv, hf, hn => by
    have := flds2_set (q := q) (nu := nu) (nu' := nu') (f := f) (f' := f') (v := v) (o := r) (j := j + 1) (k := k) (by simpa using h) (by simpa [flds2] using hv) (fun i hi => hf i (by omega)) (fun i hi => hn i (by omega))
    show (if nu j then Value.ref (q c) else Value.null) :: (flds2 q nu f (j + 1) r).set k v = (if nu' j then Value.ref (q c) else Value.null) :: flds2 q nu' f' (j + 1) r
    rw [this, hn j (by omega)]
def wm (ν : Msk) (c k : Nat) : Msk := fun a => if a = c then (fun j => if j = k then true else ν c j) else ν a
theorem wm_ne {ν : Msk} {c k d : Nat} (h : d ≠ c) : wm ν c k d = ν d := by unfold wm; rw [if_neg h]
theorem wm_eq {ν : Msk} {c k : Nat} : wm ν c k c = fun j => if j = k then true else ν c j := by unfold wm; rw [if_pos rfl]
theorem ce2_obj {g : Wc} {ν : Msk} {μ : Mem} {c : Nat} {o : Nat × List (Option Nat)} (h : objT[c]? = some o) : ce2 g ν μ c = .inr (o.1, flds2 g.1 (ν c) (μ c) 0 o.2) := by
  unfold ce2; rw [h]
theorem ce2_arr {g : Wc} {ν : Msk} {μ : Mem} {c : Nat} (h : 12 ≤ c) : ce2 g ν μ c = ce g μ c := by
  unfold ce2; rw [objT_none h]
theorem ce2_congr {g : Wc} {ν ν' : Msk} {μ μ' : Mem} {c : Nat} (h : μ c = μ' c) (hn : ν c = ν' c) : ce2 g ν μ c = ce2 g ν' μ' c := by
  unfold ce2
  rw [h, hn, ce_congr h]
theorem HP.old {g : Wc} {B κ c : Nat} {ν : Msk} {μ : Mem} {H H1 : Heap} (hg : Gq g B) (h : HP g B ν μ κ H) (ho : ∀ q, q < B + κ → H1[q]? = H[q]?) (hc : c < 112) (hk : off c < κ) : va_at g.2.1 vwCl (g.1 c, ce2 g ν μ c) H1 :=
  (h.2 c hc hk).kept (ho _ (by rw [hg c hc]; omega))
section RowsI
variable {g : Wc} {B : Nat} {ν : Msk} {κ : Nat} {X : Cx} {cc : ByteArray} {own : String} {nL h : Nat} {μ : Mem} {lv lv' : List (Nat × AV)} {pc : Nat} {st : List AV} {a b : Int}
theorem VI.sub (ks : List Nat) (hl : ks.filterMap (fun k => lv[k]?) = lv') (kk : VI g B ν κ X nL μ lv' pc st) : VI g B ν κ X nL μ lv pc st := by
  intro h1 h2 h3 H locs ls h4 h5 h6
  refine kk (fun q hq => h1 q ?_) h2 h3 H locs ls h4 h5 (lv_sub h6 ks ?_)
  · rw [← hl] at hq
    obtain ⟨k, -, hk⟩ := List.mem_filterMap.mp hq
    exact List.mem_of_getElem? hk
  · rw [← hl]
    unfold lv_pick cvl
    rw [List.map_filterMap]
    congr 1
    funext k
    rw [List.getElem?_map]
theorem i_iconst {n : Int} (F : Fx g X cc own nL h) (hd : decode cc pc = .ok (.iconst n, 1)) (hr : inR n) (kk : VI g B ν κ X nL μ lv (pc + 1) (Iv n :: st)) : VI g B ν κ X nL μ lv pc st := by
  intro h1 h2 h3 H locs ls h4 h5 h6
  exact lv_iconst F.1 F.2.1 hd rfl (kk h1 (List.forall_mem_cons.mpr ⟨hr, h2⟩) h3 H locs ls h4 h5 h6)
theorem i_bipush {n : Int} (F : Fx g X cc own nL h) (hd : decode cc pc = .ok (.bipush n, 2)) (hr : inR n) (hv : (Int8.ofInt n).toInt32 = Int32.ofInt n) (kk : VI g B ν κ X nL μ lv (pc + 2) (Iv n :: st)) : VI g B ν κ X nL μ lv pc st := by
  intro h1 h2 h3 H locs ls h4 h5 h6
  exact lv_bipush F.1 F.2.1 hd hv (kk h1 (List.forall_mem_cons.mpr ⟨hr, h2⟩) h3 H locs ls h4 h5 h6)
theorem i_sipush {n : Int} (F : Fx g X cc own nL h) (hd : decode cc pc = .ok (.sipush n, 3)) (hr : inR n) (hv : (Int16.ofInt n).toInt32 = Int32.ofInt n) (kk : VI g B ν κ X nL μ lv (pc + 3) (Iv n :: st)) : VI g B ν κ X nL μ lv pc st := by
  intro h1 h2 h3 H locs ls h4 h5 h6
  exact lv_sipush F.1 F.2.1 hd hv (kk h1 (List.forall_mem_cons.mpr ⟨hr, h2⟩) h3 H locs ls h4 h5 h6)
theorem i_aload_n {j : Fin 4} {i c : Nat} (k : Nat) (F : Fx g X cc own nL h) (hd : decode cc pc = .ok (.aload_n j, 1)) (hi : (j : Nat) = i) (hk : lv[k]? = some (i, Rv c)) (kk : VI g B ν κ X nL μ lv (pc + 1) (Rv c :: st)) : VI g B ν κ X nL μ lv pc st := by
  intro h1 h2 h3 H locs ls h4 h5 h6
  exact lv_aload_n F.1 F.2.1 hd hi (lv_at h6 k (cvl_at hk)) (kk h1 (List.forall_mem_cons.mpr ⟨trivial, h2⟩) h3 H locs ls h4 h5 h6)
theorem i_iload_n {j : Fin 4} {i : Nat} {a : Int} (k : Nat) (F : Fx g X cc own nL h) (hd : decode cc pc = .ok (.iload_n j, 1)) (hi : (j : Nat) = i) (hk : lv[k]? = some (i, Iv a)) (kk : VI g B ν κ X nL μ lv (pc + 1) (Iv a :: st)) : VI g B ν κ X nL μ lv pc st := by
  intro h1 h2 h3 H locs ls h4 h5 h6
  exact lv_iload_n F.1 F.2.1 hd hi (lv_at h6 k (cvl_at hk)) (kk h1 (List.forall_mem_cons.mpr ⟨lv_ok hk h1, h2⟩) h3 H locs ls h4 h5 h6)
theorem i_istore_n {j : Fin 4} {i : Nat} {a : Int} (F : Fx g X cc own nL h) (hd : decode cc pc = .ok (.istore_n j, 1)) (hi : (j : Nat) = i) (hn : i < nL) (hl : (i, Iv a) :: lv.filter (fun q => !(q.1 == i) && !(q.1 + 1 == i && isL q.2)) = lv') (kk : VI g B ν κ X nL μ lv' (pc + 1) st) : VI g B ν κ X nL μ lv pc (Iv a :: st) := by
  intro h1 h2 h3 H locs ls h4 h5 h6
  have h2' := List.forall_mem_cons.mp h2
  exact lv_istore_n F.1 F.2.1 hd hi h6 hn (cvl_st1 hl) (fun ls' hl' => kk (ok_st1 hl h1 h2'.1) h2'.2 h3 H locs ls' h4 h5 hl')
theorem i_astore_n {j : Fin 4} {i c : Nat} (F : Fx g X cc own nL h) (hd : decode cc pc = .ok (.astore_n j, 1)) (hi : (j : Nat) = i) (hn : i < nL) (hl : (i, Rv c) :: lv.filter (fun q => !(q.1 == i) && !(q.1 + 1 == i && isL q.2)) = lv') (kk : VI g B ν κ X nL μ lv' (pc + 1) st) : VI g B ν κ X nL μ lv pc (Rv c :: st) := by
  intro h1 h2 h3 H locs ls h4 h5 h6
  have h2' := List.forall_mem_cons.mp h2
  exact lv_astore_n F.1 F.2.1 hd hi h6 hn (cvl_st1 hl) (fun ls' hl' => kk (ok_st1 hl h1 trivial) h2'.2 h3 H locs ls' h4 h5 hl')
theorem i_iinc {i : Nat} {n a : Int} (k : Nat) (F : Fx g X cc own nL h) (hd : decode cc pc = .ok (.iinc i n, 3)) (hk : lv[k]? = some (i, Iv a)) (hn : i < nL) (hl : (i, Iv (wrap (a + n))) :: lv.filter (fun q => !(q.1 == i) && !(q.1 + 1 == i && isL q.2)) = lv') (kk : VI g B ν κ X nL μ lv' (pc + 3) st) : VI g B ν κ X nL μ lv pc st := by
  intro h1 h2 h3 H locs ls h4 h5 h6
  exact lv_iinc F.1 F.2.1 hd h6 (cvl_at hk) (by rw [ofI_wrap, Int32.ofInt_add]) hn (cvl_st1 hl) (fun ls' hl' => kk (ok_st1 hl h1 (wrap_rng _)) h2 h3 H locs ls' h4 h5 hl')
theorem i_dup {x : AV} (F : Fx g X cc own nL h) (hd : decode cc pc = .ok (.dup, 1)) (hx : isL x = false) (kk : VI g B ν κ X nL μ lv (pc + 1) (x :: x :: st)) : VI g B ν κ X nL μ lv pc (x :: st) := by
  intro h1 h2 h3 H locs ls h4 h5 h6
  have h2' := List.forall_mem_cons.mp h2
  exact lv_dup F.1 F.2.1 hd (by rcases x with x | x | x <;> first | rfl | cases hx) (kk h1 (List.forall_mem_cons.mpr ⟨h2'.1, h2⟩) h3 H locs ls h4 h5 h6)
theorem i_goto {off : Int} {tgt : Nat} (F : Fx g X cc own nL h) (hd : decode cc pc = .ok (.goto off, 3)) (ht : (pc : Int) + off = (tgt : Int)) (kk : VI g B ν κ X nL μ lv tgt st) : VI g B ν κ X nL μ lv pc st := by
  intro h1 h2 h3 H locs ls h4 h5 h6
  exact lv_goto F.1 F.2.1 hd ht (kk h1 h2 h3 H locs ls h4 h5 h6)
theorem i_icmp_ge {off : Int} {tgt : Nat} (F : Fx g X cc own nL h) (hd : decode cc pc = .ok (.if_icmp .ge off, 3)) (ht : (pc : Int) + off = (tgt : Int)) (k1 : b ≤ a → VI g B ν κ X nL μ lv tgt st) (k2 : ¬ (b ≤ a) → VI g B ν κ X nL μ lv (pc + 3) st) : VI g B ν κ X nL μ lv pc (Iv b :: Iv a :: st) := by
  intro h1 h2 h3 H locs ls h4 h5 h6
  have hb : inR b := (List.forall_mem_cons.mp h2).1
  have ha : inR a := (List.forall_mem_cons.mp (List.forall_mem_cons.mp h2).2).1
  have h2' := (List.forall_mem_cons.mp (List.forall_mem_cons.mp h2).2).2
  exact lv_icmp_ge F.1 F.2.1 hd ht (fun q => k1 ((i32_le hb ha).mp q) h1 h2' h3 H locs ls h4 h5 h6) (fun q => k2 (fun z => q ((i32_le hb ha).mpr z)) h1 h2' h3 H locs ls h4 h5 h6)
theorem i_iincN {i : Nat} {n : Int} (k : Nat) {lf : Int → List (Nat × AV)} (F : Fx g X cc own nL h) (hd : decode cc pc = .ok (.iinc i n, 3)) (hk : lv[k]? = some (i, Iv a)) (hn : i < nL) (hl : (i, Iv (wrap (a + n))) :: lv.filter (fun q => !(q.1 == i) && !(q.1 + 1 == i && isL q.2)) = lf (wrap (a + n))) (kk : ∀ x : Int, x = wrap (a + n) → VI g B ν κ X nL μ (lf x) (pc + 3) st) : VI g B ν κ X nL μ lv pc st :=
  i_iinc k F hd hk hn hl (kk _ rfl)
theorem VI.nmI (kk : ∀ x : Int, x = a → VI g B ν κ X nL μ lv pc (Iv x :: st)) : VI g B ν κ X nL μ lv pc (Iv a :: st) := kk a rfl
theorem VI.nmM (kk : ∀ x : Mem, x = μ → VI g B ν κ X nL x lv pc st) : VI g B ν κ X nL μ lv pc st := kk μ rfl
theorem i_objInit {c idx : Nat} (F : Fx g X cc own nL h) (hh : 1 ≤ h) (hlk : Cond.methodLink own idx objectInit ∈ tb) (hi : Cond.instanceMethod objectInit ∈ tb) (hc : Cond.code objectInit ⟨#[0xb1]⟩ 1 none ∈ tb) (hst : catS st ≤ 8) (hd : decode cc pc = .ok (.invokespecial idx, 3)) (kk : VI g B ν κ X nL μ lv (pc + 3) st) : VI g B ν κ X nL μ lv pc (Rv c :: st) := by
  intro h1 h2 h3 H locs ls h4 h5 h6
  have hF := F.2.2.2.2.2.1
  refine W.objInit F.1 F.2.1 F.2.2.2.1 (F.ts _ hlk) (F.ts _ hi) (F.ts _ hc) rfl (by rw [F.2.2.1]; exact h6.1) rfl hd (by omega) ?_ (kk h1 (List.forall_mem_cons.mp h2).2 h3 H locs ls h4 h5 h6)
  have := roomOk (g := g) (pc := pc) hst (m := X.2.1.2.1) (ls := ls) (st0 := (Rv c :: st).map (cv g.1))
  omega
theorem i_newI {c n : Nat} (F : Fx g X cc own nL h) (hg : Gq g B) (hc1 : 24 ≤ c) (hc2 : c < 112) (ho : off c = κ) (hn : len c = n) (hn2 : n < 100000) (ha : a = (n : Int)) (hμ : ∀ i, μ c i = 0) (harr : Cond.arrayClass .int ∈ tb) (hcap : X.2.2.2.1 + 1 ≤ X.1.2.2.2.cells ∧ X.2.2.2.2 + n ≤ X.1.2.2.2.slots) (hd : decode cc pc = .ok (.newarray .int, 2)) (kk : VI g B ν (κ + 1) (nx X 1 n) nL μ lv (pc + 2) (Rv c :: st)) : VI g B ν κ X nL μ lv pc (Iv a :: st) := by
  subst ha
  intro h1 h2 h3 H locs ls h4 h5 h6
  have har : inR (n : Int) := (List.forall_mem_cons.mp h2).1
  have h2' := (List.forall_mem_cons.mp h2).2
  refine va_newaK (N := n) (atype := .int) F.1 F.2.1 (F.ts _ harr) rfl hd rfl (fun q => ?_) (by rw [i32_clamp (by omega) har]; omega) (by show n * 4 ≤ _; omega) hcap.1 hcap.2 h4.1 (fun H' cA e1 z1 o1 hAr hNm => ?_)
  · have := (i32_lt har inR0).mp q
    omega
  · have eA : cA = g.2.2.1 := Option.some.inj (hNm.symm.trans (F.2.2.2.2.1.2.1.2 0 _ rfl).2)
    subst eA
    have eq : g.1 c = B + κ := by rw [hg c hc2, ho]
    refine (show W X.1.1 X.1.2.1 X.1.2.2.1 X.1.2.2.2 X.2.1.1 X.2.1.2.1 X.2.1.2.2.1 X.2.1.2.2.2 X.2.2.1.1 X.2.2.1.2.1 H' locs (X.2.2.2.1 + 1) (X.2.2.2.2 + n) X.2.2.1.2.2 (F0 X.2.1.2.1 (pc + 2) ls (Value.ref (B + κ) :: st.map (cv g.1))) from ?_)
    rw [← eq]
    have hS' : va_S (AB B) X.2.1.1.heap H' locs := ⟨by have := h5.1; rw [h4.1] at this; omega, fun q q1 q2 => (o1 q (by have := h5.1; rw [h4.1] at this; omega)).trans (h5.2.1 q q1 q2), h5.2.2⟩
    refine kk h1 (List.forall_mem_cons.mpr ⟨trivial, h2'⟩) h3 H' locs ls ⟨by rw [z1]; omega, fun d hd1 hd2 => ?_⟩ hS' h6
    by_cases hdk : off d < κ
    · exact h4.old hg o1 hd1 hdk
    · have : d = c := off_inj d hd1 c hc2 (by omega)
      subst this
      rw [ce2_arr (by omega), ce_int hc1]
      show H'[g.1 d]? = some (vp_cell _ _)
      rw [eq, e1, hn, vp_cell_i]
      congr 2
      funext i
      rw [hμ i]
      rfl
theorem i_newB (F : Fx g X cc own nL h) (hg : Gq g B) (ho : off 23 = κ) (hμ : ∀ i, μ 23 i = 0) (harr : Cond.arrayClass .byte ∈ tb) (hcap : X.2.2.2.1 + 1 ≤ X.1.2.2.2.cells ∧ X.2.2.2.2 + 4096 ≤ X.1.2.2.2.slots) (hd : decode cc pc = .ok (.newarray .byte, 2)) (kk : VI g B ν (κ + 1) (nx X 1 4096) nL μ lv (pc + 2) (Rv 23 :: st)) : VI g B ν κ X nL μ lv pc (Iv 4096 :: st) := by
  intro h1 h2 h3 H locs ls h4 h5 h6
  have h2' := (List.forall_mem_cons.mp h2).2
  refine va_newaK (N := 4096) (atype := .byte) F.1 F.2.1 (F.ts _ harr) rfl hd rfl (by decide) (by decide) (by decide) hcap.1 hcap.2 h4.1 (fun H' cA e1 z1 o1 hAr hNm => ?_)
  have eA : cA = g.2.2.2.1 := Option.some.inj (hNm.symm.trans (F.2.2.2.2.1.2.1.2 1 _ rfl).2)
  subst eA
  have eq : g.1 23 = B + κ := by rw [hg 23 (by omega), ho]
  refine (show W X.1.1 X.1.2.1 X.1.2.2.1 X.1.2.2.2 X.2.1.1 X.2.1.2.1 X.2.1.2.2.1 X.2.1.2.2.2 X.2.2.1.1 X.2.2.1.2.1 H' locs (X.2.2.2.1 + 1) (X.2.2.2.2 + 4096) X.2.2.1.2.2 (F0 X.2.1.2.1 (pc + 2) ls (Value.ref (B + κ) :: st.map (cv g.1))) from ?_)
  rw [← eq]
  have hS' : va_S (AB B) X.2.1.1.heap H' locs := ⟨by have := h5.1; rw [h4.1] at this; omega, fun q q1 q2 => (o1 q (by have := h5.1; rw [h4.1] at this; omega)).trans (h5.2.1 q q1 q2), h5.2.2⟩
  refine kk h1 (List.forall_mem_cons.mpr ⟨trivial, h2'⟩) h3 H' locs ls ⟨by rw [z1]; omega, fun d hd1 hd2 => ?_⟩ hS' h6
  by_cases hdk : off d < κ
  · exact h4.old hg o1 hd1 hdk
  · have : d = 23 := off_inj d hd1 23 (by omega) (by omega)
    subst this
    rw [ce2_arr (by omega), ce_byte]
    show H'[g.1 23]? = some (vp_cell _ _)
    rw [eq, e1, vp_cell_i]
    congr 2
    funext i
    rw [hμ i]
    rfl
theorem i_mna {c n k d idx : Nat} (F : Fx g X cc own nL h) (hAO : AOv X.2.1.1) (hg : Gq g B) (hc1 : 12 ≤ c) (hc2 : c < 23) (hout : outT[c - 12]? = some (n, d)) (hd1 : 24 ≤ d) (hd2 : d + n ≤ 112) (ho : off c = κ) (hor : ∀ j, j < n → off (d + j) = κ + 1 + j ∧ len (d + j) = k) (hn2 : n < 1000) (hk2 : k < 1000) (ha : a = (n : Int)) (hb : b = (k : Int)) (hμ : ∀ j, j < n → ∀ i, μ (d + j) i = 0) (hlk : Cond.classLink own idx "[[I" ∈ tb) (harr : Cond.arrayClass .int ∈ tb)
    (hcap : X.2.2.2.1 + (1 + n) ≤ X.1.2.2.2.cells ∧ X.2.2.2.2 + (n + n * k) ≤ X.1.2.2.2.slots) (hd : decode cc pc = .ok (.multianewarray idx 2, 4)) (kk : VI g B ν (κ + (1 + n)) (nx X (1 + n) (n + n * k)) nL μ lv (pc + 4) (Rv c :: st)) : VI g B ν κ X nL μ lv pc (Iv b :: Iv a :: st) := by
  subst ha; subst hb
  intro h1 h2 h3 H locs ls h4 h5 h6
  have hbr : inR (k : Int) := (List.forall_mem_cons.mp h2).1
  have har : inR (n : Int) := (List.forall_mem_cons.mp (List.forall_mem_cons.mp h2).2).1
  have h2' := (List.forall_mem_cons.mp (List.forall_mem_cons.mp h2).2).2
  have nn : ∀ {x : Int}, inR x → 0 ≤ x → ¬ Int32.ofInt x < 0 := fun {x} hx h0 q => by
    have := (i32_lt hx inR0).mp q
    omega
  refine w_mna (N' := n) (K' := k) F.1 F.2.1 F.2.2.2.1 (F.ts _ hlk) hAO (F.ts _ harr) (nn har (by omega)) (nn hbr (by omega)) (by rw [i32_clamp (by omega) har]; omega) (by rw [i32_clamp (by omega) hbr]; omega) (by omega) (by omega) hcap.1 hcap.2 hd (fun cA cI H' fA fC z1 o1 f2 fr => ?_)
  have eA : cA = g.2.2.2.2 := Option.some.inj (fA.symm.trans (F.2.2.2.2.1.2.1.2 2 _ rfl).2)
  have eI : cI = g.2.2.1 := Option.some.inj (fC.symm.trans (F.2.2.2.2.1.2.1.2 0 _ rfl).2)
  subst eA; subst eI
  rw [h4.1] at z1 o1 f2 fr
  have eq : g.1 c = B + κ := by rw [hg c (by omega), ho]
  have eqr : ∀ j, j < n → g.1 (d + j) = B + κ + 1 + j := fun j hj => by rw [hg (d + j) (by omega), (hor j hj).1]; omega
  refine (show W X.1.1 X.1.2.1 X.1.2.2.1 X.1.2.2.2 X.2.1.1 X.2.1.2.1 X.2.1.2.2.1 X.2.1.2.2.2 X.2.2.1.1 X.2.2.1.2.1 H' locs (X.2.2.2.1 + 1 + n) (X.2.2.2.2 + n + n * k) X.2.2.1.2.2 (F0 X.2.1.2.1 (pc + 4) ls (Value.ref H.size :: st.map (cv g.1))) from ?_)
  rw [h4.1, ← eq, Nat.add_assoc X.2.2.2.1, Nat.add_assoc X.2.2.2.2]
  have hS' : va_S (AB B) X.2.1.1.heap H' locs := ⟨by have := h5.1; rw [h4.1] at this; omega, fun q q1 q2 => (o1 q (by have := h5.1; rw [h4.1] at this; omega)).trans (h5.2.1 q q1 q2), h5.2.2⟩
  refine kk h1 (List.forall_mem_cons.mpr ⟨trivial, h2'⟩) h3 H' locs ls ⟨by rw [z1]; omega, fun x hx1 hx2 => ?_⟩ hS' h6
  by_cases hdk : off x < κ
  · exact h4.old hg o1 hx1 hdk
  · by_cases hx : off x = κ
    · have : x = c := off_inj x hx1 c (by omega) (by omega)
      subst this
      rw [ce2_arr hc1, ce_out hc1 hout]
      show H'[g.1 x]? = some (vp_cell _ _)
      rw [eq, f2]
      congr 7
      funext i
      by_cases hi : i < n
      · rw [if_pos hi, if_pos hi, eqr i hi]
      · rw [if_neg hi, if_neg hi]
    · have hj : off x - (κ + 1) < n := by omega
      have : x = d + (off x - (κ + 1)) := off_inj x hx1 _ (by omega) (by rw [(hor _ hj).1]; omega)
      generalize off x - (κ + 1) = j at this hj
      subst this
      rw [ce2_arr (by omega), ce_int (by omega)]
      show H'[g.1 (d + j)]? = some (vp_cell _ _)
      rw [eqr j hj, fr j hj, (hor j hj).2]
      congr 4
      funext i
      rw [hμ j hj i]
      rfl
theorem i_new {c ci N idx : Nat} {C : String} {T : u_T} {o : List (Option Nat)} (F : Fx g X cc own nL h) (hg : Gq g B) (hin : ∀ w ∈ u_ws C T N, w ∈ tb) (ty : Nat → FieldType) (hty : ∀ k, k < N → parseFieldDescriptor (T k).2.2.1 = some (ty k)) (hcl : vwCl[ci]? = some (C, T, N)) (hc : c < 112) (hoT : objT[c]? = some (ci, o)) (ho : off c = κ) (hfs : ∀ j, j < N → defaultValue (ty j) = vp_V (flds2 g.1 (ν c) (μ c) 0 o) j)
    (hlk : Cond.classLink own idx C ∈ tb) (hinst : Cond.instantiable C N ∈ tb) (hini : Cond.initialized C ∈ tb) (hcap : X.2.2.2.1 + 1 ≤ X.1.2.2.2.cells ∧ X.2.2.2.2 + N ≤ X.1.2.2.2.slots) (hd : decode cc pc = .ok (.new idx, 3)) (kk : VI g B ν (κ + 1) (nx X 1 N) nL μ lv (pc + 3) (Rv c :: st)) : VI g B ν κ X nL μ lv pc st := by
  intro h1 h2 h3 H locs ls h4 h5 h6
  have hKn := F.2.2.2.2.1.2.1.1 ci _ hcl
  refine W.newcK F.1 F.2.1 F.2.2.2.1 (F.ts _ hlk) (F.ts _ hinst) (F.ts _ hini) rfl hd hcap.1 hcap.2 hKn.2.1 rfl (fun H' kC hkC e1 z1 o1 => ?_)
  rw [h4.1] at e1 z1 o1
  have eq : g.1 c = B + κ := by rw [hg c hc, ho]
  refine (show W X.1.1 X.1.2.1 X.1.2.2.1 X.1.2.2.2 X.2.1.1 X.2.1.2.1 X.2.1.2.2.1 X.2.1.2.2.2 X.2.2.1.1 X.2.2.1.2.1 H' locs (X.2.2.2.1 + 1) (X.2.2.2.2 + N) X.2.2.1.2.2 (F0 X.2.1.2.1 (pc + 3) ls (Value.ref H.size :: st.map (cv g.1))) from ?_)
  rw [h4.1, ← eq]
  have hS' : va_S (AB B) X.2.1.1.heap H' locs := ⟨by have := h5.1; rw [h4.1] at this; omega, fun q q1 q2 => (o1 q (by have := h5.1; rw [h4.1] at this; omega)).trans (h5.2.1 q q1 q2), h5.2.2⟩
  refine kk h1 (List.forall_mem_cons.mpr ⟨trivial, h2⟩) h3 H' locs ls ⟨by rw [z1]; omega, fun d hd1 hd2 => ?_⟩ hS' h6
  by_cases hdk : off d < κ
  · exact h4.old hg o1 hd1 hdk
  · have : d = c := off_inj d hd1 c hc (by omega)
    subst this
    rw [ce2_obj hoT]
    refine ⟨_, hcl, ?_⟩
    show t_OB (g.1 d) _ _ _ H' _
    rw [eq]
    exact (u_born ty F.ts hin hKn hkC e1 hty).to hfs
theorem i_putR {c ci k N idx d : Nat} {C : String} {T : u_T} {o : List (Option Nat)} (F : Fx g X cc own nL h) (hg : Gq g B) (hin : ∀ w ∈ u_ws C T N, w ∈ tb) (ty0 : Nat → FieldType) (hty : ∀ k, k < N → parseFieldDescriptor (T k).2.2.1 = some (ty0 k)) (hnm : ∀ a, a < N → ∀ b, b < N → a ≠ b → (T a).2.1 ≠ (T b).2.1)
    (hcl : vwCl[ci]? = some (C, T, N)) (hc : c < 112) (hck : off c < κ) (hoT : objT[c]? = some (ci, o)) (hk : k < N) (hok : o[k]? = some (some d)) (hlk : Cond.fieldLink own idx (T k).1 (T k).2.1 (T k).2.2.1 ∈ tb) (hfin : (T k).2.2.2 = true) (hini : X.2.2.1.1.name = "<init>") (hdecl : (T k).1 = own) (hnar : narrow (ty0 k) (Value.ref (g.1 d)) = Value.ref (g.1 d)) (hfit : fits (ty0 k) (Value.ref (g.1 d)) = true) (hd : decode cc pc = .ok (.putfield idx, 3)) (kk : VI g B (wm ν c k) κ X nL μ lv (pc + 3) st) : VI g B ν κ X nL μ lv pc (Rv d :: Rv c :: st) := by
  intro h1 h2 h3 H locs ls h4 h5 h6
  have h2' := (List.forall_mem_cons.mp (List.forall_mem_cons.mp h2).2).2
  have hl : k < o.length := (List.getElem?_eq_some_iff.mp hok).1
  have hK := F.2.2.2.2.1.2.1
  have hap := va_apart (own := own) F.ts hin ty0 hty hnm hK hcl
  have hat := h4.2 c hc hck
  rw [ce2_obj hoT] at hat
  obtain ⟨r, g1, cell, q1, q2, q3, q4⟩ := hat
  have hr : r = (C, T, N) := Option.some.inj (g1.symm.trans hcl)
  subst hr
  obtain ⟨hS, hfc, kC, hkC, hkind⟩ := hK.1 ci _ hcl
  obtain ⟨cf, kf, fi, f, hi, hsl⟩ := hS k hk
  have hlay := F.ts _ (hin _ (u_in_lay hk))
  unfold u_lay at hlay
  rw [if_pos hfin] at hlay
  have hst := (u_facts hfc hkC (u_lays F.ts hin hk) hi).1
  have hcf : X.2.1.2.1.cls = cf := by
    obtain ⟨_, _, c', _, _, _, -, -, hf', -, -, -, hown2, -⟩ := Cond.laysFinal_spec hlay
    have e1 : c' = cf := by have := hi.symm.trans hf'; simp at this; exact this.1.symm
    rw [hdecl] at hown2
    rw [← e1]; exact Option.some.inj (F.2.2.2.1.symm.trans hown2)
  have h6' := u_fits (v := Value.ref (g.1 d)) hfc hkC hkind (Or.inr hlay) hi (hty k hk) hnar hfit
  refine W.putFinK F.1 F.2.1 F.2.2.2.1 (F.ts _ hlk) hi hst hcf hini (by rw [q2]; exact h6') q1 q3 (by rw [hsl]; exact k2_hasslot (q4 k hk)) rfl rfl hd fun H' e1 e2 e3 => ?_
  rw [hsl] at e1
  refine kk h1 h2' h3 H' _ ls ⟨by rw [e2]; exact h4.1, fun x hx1 hx2 => ?_⟩ ⟨by rw [e2]; exact h5.1, fun q z1 z2 => ?_, fun q hq => ?_⟩ h6
  · by_cases hxc : x = c
    · subst hxc
      rw [ce2_obj hoT]
      refine ⟨_, hcl, ?_⟩
      have es := flds2_set (q := g.1) (nu := ν x) (nu' := wm ν x k x) (f := μ x) (f' := μ x) (v := Value.ref (g.1 d)) (o := o) (j := 0) (k := k) hl (flds2_get hok (by rw [wm_eq]; simp)) (fun _ _ => rfl) (fun i hi => by rw [wm_eq]; simp only; rw [if_neg (by omega)])
      show t_OB _ _ _ _ H' (vp_V (flds2 g.1 (wm ν x k x) (μ x) 0 o))
      rw [← es]
      exact t_OB.to (V := updV (vp_V (flds2 g.1 (ν x) (μ x) 0 o)) k (Value.ref (g.1 d))) ⟨_, e1, q2, q3, t_set q4 hap hk _⟩ (fun j _ => vp_updV_set (by rw [flds2_len]; exact hl) _ j)
    · rw [ce2_congr (μ' := μ) (ν' := ν) rfl (wm_ne hxc)]
      exact (h4.2 x hx1 hx2).kept (e3 _ (fun e => hxc (off_inj x hx1 c hc (by have a1 := hg x hx1; have a2 := hg c hc; have e' : g.1 x = g.1 c := e; omega))))
  · by_cases hqc : q = g.1 c
    · exact absurd (show AB B q by rw [hqc, hg c hc]; exact Nat.le_add_right _ _) z2
    · rw [e3 q hqc]; exact h5.2.1 q z1 z2
  · rcases List.mem_append.mp hq with hq | hq
    · exact h5.2.2 q hq
    · rw [List.mem_singleton.mp hq]
      show B ≤ g.1 c
      rw [hg c hc]; exact Nat.le_add_right _ _
theorem i_putI {c ci k N idx : Nat} {C : String} {T : u_T} {o : List (Option Nat)} (F : Fx g X cc own nL h) (hg : Gq g B) (hin : ∀ w ∈ u_ws C T N, w ∈ tb) (ty0 : Nat → FieldType) (hty : ∀ k, k < N → parseFieldDescriptor (T k).2.2.1 = some (ty0 k)) (hnm : ∀ a, a < N → ∀ b, b < N → a ≠ b → (T a).2.1 ≠ (T b).2.1)
    (hcl : vwCl[ci]? = some (C, T, N)) (hc : c < 112) (hck : off c < κ) (hoT : objT[c]? = some (ci, o)) (hk : k < N) (hok : o[k]? = some none) (hlk : Cond.fieldLink own idx (T k).1 (T k).2.1 (T k).2.2.1 ∈ tb) (hfin : (T k).2.2.2 = false) (hI : ty0 k = .int) (hd : decode cc pc = .ok (.putfield idx, 3)) (kk : VI g B ν κ X nL (wr μ c k a) lv (pc + 3) st) : VI g B ν κ X nL μ lv pc (Iv a :: Rv c :: st) := by
  intro h1 h2 h3 H locs ls h4 h5 h6
  have har : inR a := (List.forall_mem_cons.mp h2).1
  have h2' := (List.forall_mem_cons.mp (List.forall_mem_cons.mp h2).2).2
  have hl : k < o.length := (List.getElem?_eq_some_iff.mp hok).1
  have hK := F.2.2.2.2.1.2.1
  have hap := va_apart (own := own) F.ts hin ty0 hty hnm hK hcl
  have hat := h4.2 c hc hck
  rw [ce2_obj hoT] at hat
  obtain ⟨r, g1, cell, q1, q2, q3, q4⟩ := hat
  have hr : r = (C, T, N) := Option.some.inj (g1.symm.trans hcl)
  subst hr
  obtain ⟨hS, hfc, kC, hkC, hkind⟩ := hK.1 ci _ hcl
  obtain ⟨cf, kf, fi, f, hi, hsl⟩ := hS k hk
  have hlay := F.ts _ (hin _ (u_in_lay hk))
  unfold u_lay at hlay
  rw [if_neg (by rw [hfin]; decide)] at hlay
  have hst := (u_facts hfc hkC (u_lays F.ts hin hk) hi).1
  have h6' := u_store (v := Value.int (Int32.ofInt a)) hfc hkC hkind hlay hi ((hty k hk).trans (congrArg some hI)) rfl rfl
  refine W.putK F.1 F.2.1 (f := f) ⟨F.2.2.2.1, F.ts _ hlk, ⟨_, _, _, hi⟩, hst⟩ (by rw [q2]; exact h6') q1 q3 (by rw [hsl]; exact k2_hasslot (q4 k hk)) rfl rfl hd fun H' e1 e2 e3 => ?_
  rw [hsl] at e1
  refine kk h1 h2' (wr_rng h3 har) H' _ ls ⟨by rw [e2]; exact h4.1, fun x hx1 hx2 => ?_⟩ ⟨by rw [e2]; exact h5.1, fun q z1 z2 => ?_, fun q hq => ?_⟩ h6
  · by_cases hxc : x = c
    · subst hxc
      rw [ce2_obj hoT]
      refine ⟨_, hcl, ?_⟩
      have hv : (flds2 g.1 (ν x) (wr μ x k a x) 0 o)[k]? = some (Value.int (Int32.ofInt a)) := by
        have : ∀ (o : List (Option Nat)) (j k : Nat), o[k]? = some none → (flds2 g.1 (ν x) (wr μ x (0 + k + j) a x) j o)[k]? = some (Value.int (Int32.ofInt a)) := by
          intro o
          induction o with
          | nil => intro j k h; simp at h
          | cons y r ih =>
            intro j k h
            cases k with
            | zero =>
              simp at h
              subst h
              simp [flds2, wr_eq]
            | succ k =>
              have h9 := ih (j + 1) k (by simpa using h)
              rw [show 0 + (k + 1) + j = 0 + k + (j + 1) by omega]
              cases y with
              | none => simpa [flds2] using h9
              | some z => simpa [flds2] using h9
        have := this o 0 k hok
        simpa using this
      have es := flds2_set (q := g.1) (nu := ν x) (nu' := ν x) (f := μ x) (f' := wr μ x k a x) (v := Value.int (Int32.ofInt a)) (o := o) (j := 0) (k := k) hl hv (fun i hi => by rw [wr_eq]; simp only; rw [if_neg (by omega)]) (fun _ _ => rfl)
      show t_OB _ _ _ _ H' (vp_V (flds2 g.1 (ν x) (wr μ x k a x) 0 o))
      rw [← es]
      exact t_OB.to (V := updV (vp_V (flds2 g.1 (ν x) (μ x) 0 o)) k (Value.int (Int32.ofInt a))) ⟨_, e1, q2, q3, t_set q4 hap hk _⟩ (fun j _ => vp_updV_set (by rw [flds2_len]; exact hl) _ j)
    · rw [ce2_congr (μ' := μ) (ν' := ν) (wr_ne hxc) rfl]
      exact (h4.2 x hx1 hx2).kept (e3 _ (fun e => hxc (off_inj x hx1 c hc (by have a1 := hg x hx1; have a2 := hg c hc; have e' : g.1 x = g.1 c := e; omega))))
  · by_cases hqc : q = g.1 c
    · exact absurd (show AB B q by rw [hqc, hg c hc]; exact Nat.le_add_right _ _) z2
    · rw [e3 q hqc]; exact h5.2.1 q z1 z2
  · rcases List.mem_append.mp hq with hq | hq
    · exact h5.2.2 q hq
    · rw [List.mem_singleton.mp hq]
      show B ≤ g.1 c
      rw [hg c hc]; exact Nat.le_add_right _ _
theorem i_getR {c ci k N idx d : Nat} {C : String} {T : u_T} {o : List (Option Nat)} (F : Fx g X cc own nL h) (hin : ∀ w ∈ u_ws C T N, w ∈ tb) (hcl : vwCl[ci]? = some (C, T, N)) (hc : c < 112) (hck : off c < κ) (hoT : objT[c]? = some (ci, o)) (hk : k < N) (hok : o[k]? = some (some d)) (hν : ν c k = true)
    (hlk : Cond.fieldLink own idx (T k).1 (T k).2.1 (T k).2.2.1 ∈ tb) (hd : decode cc pc = .ok (.getfield idx, 3)) (kk : VI g B ν κ X nL μ lv (pc + 3) (Rv d :: st)) : VI g B ν κ X nL μ lv pc (Rv c :: st) := by
  intro h1 h2 h3 H locs ls h4 h5 h6
  have h2' := (List.forall_mem_cons.mp h2).2
  have hkk := kk h1 (List.forall_mem_cons.mpr ⟨trivial, h2'⟩) h3 H locs ls h4 h5 h6
  have hat := h4.2 c hc hck
  rw [ce2_obj hoT] at hat
  refine va_get (D := g.2.1) (ws := [(g.1 c, .inr (ci, flds2 g.1 (ν c) (μ c) 0 o))]) (v := Value.ref (g.1 d)) F.1 F.2.1 F.ts hin F.2.2.2.1 F.2.2.2.2.1.2.1 (fun i q hq => ?_) 0 rfl hcl k hk (F.ts _ hlk) (fun _ z => z) (flds2_get hok (by rw [Nat.zero_add]; exact hν)) hd hkk
  have hz : i < 1 := (List.getElem?_eq_some_iff.mp hq).1
  rw [show i = 0 by omega] at hq
  cases hq
  exact hat
theorem i_iast {c n : Nat} {x : Int} {k : Nat} (F : Fx g X cc own nL h) (hg : Gq g B) (hc1 : 24 ≤ c) (hc2 : c < 112) (hck : off c < κ) (hn : len c = n) (hak : a = (k : Int)) (hkn : k < n) (hd : decode cc pc = .ok (.iastore, 1)) (kk : VI g B ν κ X nL (wr μ c k x) lv (pc + 1) st) : VI g B ν κ X nL μ lv pc (Iv x :: Iv a :: Rv c :: st) := by
  subst hak
  intro h1 h2 h3 H locs ls h4 h5 h6
  have hx : inR x := (List.forall_mem_cons.mp h2).1
  have ha : inR (k : Int) := (List.forall_mem_cons.mp (List.forall_mem_cons.mp h2).2).1
  have h2' := (List.forall_mem_cons.mp (List.forall_mem_cons.mp (List.forall_mem_cons.mp h2).2).2).2
  have hat := h4.2 c hc2 hck
  rw [ce2_arr (by omega), ce_int hc1] at hat
  have hin9 : vp_in (Int32.ofInt (k : Int)) (len c) := i32_in (by omega) (by rw [hn]; omega) ha
  have ecl : (Int32.ofInt (k : Int)).toNatClampNeg = k := by rw [i32_clamp (by omega) ha]; omega
  refine W.iast F.1 F.2.1 hat ((F.2.2.2.2.1.2.1.2 0 _ rfl).1 (len c) (fun j => .int (Int32.ofInt (μ c j)))) (fun q => by cases q) (by show ¬ (_ ∨ (arrV _ _ _).slots.size ≤ _); rw [arrV_size]; exact hin9) rfl rfl hd (fun H' e1 e2 e3 => ?_)
  refine kk h1 h2' (wr_rng h3 hx) H' _ ls ⟨by rw [e2]; exact h4.1, fun y hy1 hy2 => ?_⟩ ⟨by rw [e2]; exact h5.1, fun q z1 z2 => ?_, fun q hq => ?_⟩ h6
  · by_cases hyc : y = c
    · subst hyc
      rw [ce2_arr (by omega), ce_int hc1]
      show H'[g.1 y]? = some (vp_cell _ _)
      rw [e1, vp_cell_i, vp_cell_i, arrV_store, wr_eq, ecl]
      congr 2
      funext j
      unfold updV
      by_cases hj : j = k
      · simp only [hj, if_true]
      · simp only [hj, if_false]
    · rw [ce2_congr (μ' := μ) (ν' := ν) (wr_ne hyc) rfl]
      exact (h4.2 y hy1 hy2).kept (e3 _ (fun e => hyc (off_inj y hy1 c hc2 (by have a1 := hg y hy1; have a2 := hg c hc2; have e' : g.1 y = g.1 c := e; omega))))
  · by_cases hqc : q = g.1 c
    · exact absurd (show AB B q by rw [hqc, hg c hc2]; exact Nat.le_add_right _ _) z2
    · rw [e3 q hqc]; exact h5.2.1 q z1 z2
  · rcases List.mem_append.mp hq with hq | hq
    · exact h5.2.2 q hq
    · rw [List.mem_singleton.mp hq]
      show B ≤ g.1 c
      rw [hg c hc2]; exact Nat.le_add_right _ _
def QN (g : Wc) (B : Nat) (ν : Msk) (μ : Mem) (κ : Nat) : Array Value → State → Outcome → State → Prop := va_Qv (S := Unit) (fun _ => True) (fun _ t => Sd g t ∧ AOv t ∧ HP g B ν μ κ t.heap) (AB B)
def RN (B : Nat) (X : Cx) (Qc : Array Value → State → Outcome → State → Prop) (mc ms : Nat) : Prop := X.2.2.1.2.2 = MQ X.2.1.2.2.2 Qc X.2.1.2.2.1 X.2.1.1 mc ms (AB B)
/-- a constructor's contract -/
def MI (g : Wc) (B : Nat) (l : Launch) (y : MethodName) (cc : ByteArray) (nL h mc ms : Nat) (avs : List AV) (ν : Msk) (μ : Mem) (κ : Nat) (ν' : Msk) (μ' : Mem) (κ' : Nat) : Prop :=
  Met l y [.code y cc nL none] { frames := h, cells := mc, slots := ms, locals := 41 * h } (fun a U => a = (avs.map (cv g.1)).toArray ∧ Sd g U ∧ AOv U ∧ HP g B ν μ κ U.heap) (QN g B ν' μ' κ') mc ms (AB B)
theorem i_vret {mc ms : Nat} (F : Fx g X cc own nL h) (hg : Gq g B) (hκ : κ ≤ 112) (hAO : AOv X.2.1.1) (hR : RN B X (QN g B ν μ κ) mc ms) (hk : X.2.2.2 = (mc, ms)) (hr : X.2.2.1.1.sig.returnType = none) (hd : decode cc pc = .ok (.return_, 1)) : VI g B ν κ X nL μ lv pc [] := by
  intro h1 h2 h3 H locs ls h4 h5 h6
  obtain ⟨⟨p, l, e, R⟩, ⟨s, m, args, below⟩, ⟨meth, c, Q⟩, ⟨kc, ks⟩⟩ := X
  have hQ : Q = MQ below (QN g B ν μ κ) args s mc ms (AB B) := hR
  have hk' : (kc, ks) = (mc, ms) := hk
  cases hk'
  subst hQ
  exact W.vret F.1 F.2.1 hr (fun t ht hW => ⟨⟨(), rfl, trivial, Sd.mi hg hκ (by have := h5.1; rw [h4.1] at this; exact this) hW h5 ht F.2.2.2.2.1, AOv.mv hW.alike hAO, by rw [ht]; exact h4⟩, h5.F ht⟩) h5.2.2 hd F.2.2.2.2.2.2
theorem blindI (g : Wc) (B : Nat) (avs : List AV) (ν : Msk) (μ : Mem) (κ : Nat) : FrameBlind (fun a U => a = (avs.map (cv g.1)).toArray ∧ Sd g U ∧ AOv U ∧ HP g B ν μ κ U.heap) := fun a U fr mk q =>
  ⟨q.1, ⟨fun w hw => word_mv (s := U) (U := U.calling fr mk a) hw (State.WarmedH.refl U) (q.2.1.1 w hw), va_K.moved (u := U) (U := U.calling fr mk a) (Vm.Alike.refl U.vm) q.2.1.2.1, Zs.mv (s := U) (U := U.calling fr mk a) (Vm.Alike.refl U.vm) (fun _ _ _ => rfl) q.2.1.2.2⟩, AOv.mv (s := U) (U := U.calling fr mk a) (Vm.Alike.refl U.vm) q.2.2.1, q.2.2.2⟩
theorem i_call {c idx n h' maxL mc ms κ' : Nat} {ν' : Msk} {μ' : Mem} {y : MethodName} {bytes : ByteArray} {avs sr : List AV} (F : Fx g X cc own nL h) (hg : Gq g B) (hAO : AOv X.2.1.1) (hκ : κ ≤ 112) (hM : MI g B X.1.2.1 y bytes maxL h' mc ms (Rv c :: avs) ν μ κ ν' μ' κ') (hh : h' < h) (hC : Cal y bytes maxL none n) (hy : y.name = "<init>") (hi : Cond.instanceMethod y ∈ tb) (hlk : Cond.methodLink own idx y ∈ tb) (hn : avs.length = n) (hsr : sr = avs.reverse ++ Rv c :: st) (hst : catS st ≤ 8) (hcap : X.2.2.2.1 + mc ≤ X.1.2.2.2.cells ∧ X.2.2.2.2 + ms ≤ X.1.2.2.2.slots) (hRμ : RngM μ')
    (hd : decode cc pc = .ok (.invokespecial idx, 3)) (kk : VI g B ν' κ' (nx X mc ms) nL μ' lv (pc + 3) st) : VI g B ν κ X nL μ lv pc sr := by
  subst hsr
  intro h1 h2 h3 H locs ls h4 h5 h6
  have h2' : ∀ a ∈ st, okA a := fun a ha => h2 a (List.mem_append_right _ (List.mem_cons_of_mem _ ha))
  have hF := F.2.2.2.2.2.1
  have hm := hC.2.2.2
  have hsz : X.2.1.1.heap.size ≤ B + κ := by have := h5.1; rw [h4.1] at this; exact this
  refine va_callv (va_runI (As := avs.map (cv g.1)) (rest := st.map (cv g.1)) (b := g.1 c) ⟨F.1, F.2.1, F.2.2.1, F.2.2.2.1, F.ts⟩ hM ⟨callB_of n F.ts (good1 hC) rfl rfl rfl (F.ts _ hC.2.1) (F.ts _ hlk) hC.2.2.1 ⟨by show h' + 1 ≤ _; omega, by show 8 + (maxL + 11) + 41 * h' ≤ _; omega⟩, hy, F.ts _ hi⟩ ⟨blindI g B (Rv c :: avs) ν μ κ, fun U hU hW => ⟨rfl, Sd.mi hg hκ hsz hW h5 hU F.2.2.2.2.1, AOv.mv hW.alike hAO, by rw [hU]; exact h4⟩⟩ rfl (by rw [List.length_map]; exact hn) h6.1 (by show List.map _ _ = _; rw [List.map_append, List.map_reverse]; rfl) (roomOk hst) hd hcap) h5 (fun _ _ z => z) (fun _ z => z) (fun u t H1 locs1 ht hvm hp hB _ _ hS => ?_)
  exact kk h1 h2' hRμ H1 locs1 ls (by rw [← ht]; exact hB.2.2) hS h6
theorem i_callN {c idx n h' maxL mc ms κ' : Nat} {ν' : Msk} {μ' : Mem} {y : MethodName} {host : String} {bytes : ByteArray} {avs sr : List AV} (F : Fx g X cc own nL h) (hg : Gq g B) (hAO : AOv X.2.1.1) (hκ : κ ≤ 112) (hM : MI g B X.1.2.1 y bytes maxL h' mc ms (Rv c :: avs) ν μ κ ν' μ' κ') (hh : h' < h) (hC : Cal y bytes maxL none n) (hy : y.name = "<init>") (hi : Cond.instanceMethod y ∈ tb) (hlk : Cond.methodLinkNest own idx y host ∈ tb) (hn : avs.length = n) (hsr : sr = avs.reverse ++ Rv c :: st) (hst : catS st ≤ 8) (hcap : X.2.2.2.1 + mc ≤ X.1.2.2.2.cells ∧ X.2.2.2.2 + ms ≤ X.1.2.2.2.slots) (hRμ : RngM μ')
    (hd : decode cc pc = .ok (.invokespecial idx, 3)) (kk : VI g B ν' κ' (nx X mc ms) nL μ' lv (pc + 3) st) : VI g B ν κ X nL μ lv pc sr := by
  subst hsr
  intro h1 h2 h3 H locs ls h4 h5 h6
  have h2' : ∀ a ∈ st, okA a := fun a ha => h2 a (List.mem_append_right _ (List.mem_cons_of_mem _ ha))
  have hF := F.2.2.2.2.2.1
  have hm := hC.2.2.2
  have hsz : X.2.1.1.heap.size ≤ B + κ := by have := h5.1; rw [h4.1] at this; exact this
  refine va_callv (va_runIN (As := avs.map (cv g.1)) (rest := st.map (cv g.1)) (b := g.1 c) ⟨F.1, F.2.1, F.2.2.1, F.2.2.2.1, F.ts⟩ hM ⟨va_cnB n F.ts (good1 hC) rfl rfl rfl (F.2.2.2.2.1.1 _ hlk #[]) (F.ts _ hC.2.1) hC.2.2.1 ⟨by show h' + 1 ≤ _; omega, by show 8 + (maxL + 11) + 41 * h' ≤ _; omega⟩, hy, F.ts _ hi⟩ ⟨blindI g B (Rv c :: avs) ν μ κ, fun U hU hW => ⟨rfl, Sd.mi hg hκ hsz hW h5 hU F.2.2.2.2.1, AOv.mv hW.alike hAO, by rw [hU]; exact h4⟩⟩ rfl (by rw [List.length_map]; exact hn) h6.1 (by show List.map _ _ = _; rw [List.map_append, List.map_reverse]; rfl) (roomOk hst) hd hcap) h5 (fun _ _ z => z) (fun _ z => z) (fun u t H1 locs1 ht hvm hp hB _ _ hS => ?_)
  exact kk h1 h2' hRμ H1 locs1 ls (by rw [← ht]; exact hB.2.2) hS h6
theorem i_enter {l : Launch} {y : MethodName} {mc ms κ' : Nat} {ν' : Msk} {μ' : Mem} {avs : List AV} (hy : plainName y.cls = true) (hyn : y.name = "<init>") (hown : y.cls = own) (hn : (lg_sl (avs.map (cv g.1))).length ≤ nL) (hok : ∀ a ∈ avs, okA a) (hRμ : RngM μ)
    (hb : ∀ X : Cx, X.1.2.1 = l → Fx g X cc own nL h → AOv X.2.1.1 → X.2.2.1.1.sig.returnType = none → X.2.2.1.1.name = "<init>" → RN B X (QN g B ν' μ' κ') mc ms → X.2.2.2 = (0, 0) → X.1.2.2.2.cells = mc ∧ X.1.2.2.2.slots = ms → VI g B ν κ X nL μ (lva 0 avs) 0 []) : MI g B l y cc nL h mc ms avs ν μ κ ν' μ' κ' := by
  refine Met.ofW (cc := cc) (maxL := nL) (ret := none) hy rfl ?_
  intro p e s m args below meth c s₁ B9 hml hv
  obtain ⟨rfl, hSd, hAO, hHP⟩ := hv
  have hk := hb ((p, l, e, { frames := h, cells := mc, slots := ms, locals := 41 * h }), (s, m, (avs.map (cv g.1)).toArray, below), (meth, c, MQ below (QN g B ν' μ' κ') (avs.map (cv g.1)).toArray s mc ms (AB B)), (0, 0)) rfl ⟨B9.exec, B9.bytes, hml, by rw [← hown]; exact findClass_of_methodNamed B9.named, hSd, ⟨Nat.le_refl h, Nat.le_refl _, Nat.zero_le _, Nat.zero_le _⟩, B9.notSynchronized⟩ hAO B9.returns (by rw [← hyn]; exact (name_of_methodNamed B9.named B9.method).1) rfl rfl ⟨rfl, rfl⟩
  have hl := lv_entry (avs.map (cv g.1)) (n := nL) hn
  rw [lg_entry_eq]
  rw [lva_eq] at hl
  exact hk (lva_ok 0 avs hok) (fun a ha => by cases ha) hRμ s.heap [] _ hHP va_S.rf hl
end RowsI
