/-! The world: its cells by number, and the judgement V. -/
abbrev Wc : Type := (Nat → Nat) × va_G × (ClassId × ClassId × ClassId)
def objT : List (Nat × List (Option Nat)) := [
  (10, [some 1, some 2, some 3, some 4, some 5, some 6, some 7, some 8, some 9, some 10]),
  (9, [none, some 12, some 74, some 13, some 14]),
  (6, [none, none, some 75]),
  (2, [some 1, some 76, none, none, some 77, some 78, some 79]),
  (0, [some 1, some 80, none]),
  (3, [some 1, none, none, some 81]),
  (4, [some 1, none, some 82, some 15, some 16]),
  (1, [some 1, some 6, some 83, none, none, some 84, some 17]),
  (5, [some 1, some 85]),
  (8, [some 86, some 18, some 19, some 20, some 21, some 22]),
  (7, [none, none, some 87, some 88, some 89, some 23]),
  (11, [none, some 90, some 91, some 92, some 93, some 94, some 95, some 96, some 97, none, some 98, some 99, none, some 100, some 101, none, some 102, none, some 103, some 104, some 105, some 106, some 107, some 108, some 109, some 110, some 111])]
def outT : List (Nat × Nat) := [(5, 24), (3, 29), (8, 32), (8, 40), (8, 48), (8, 56), (2, 64), (2, 66), (2, 68), (2, 70), (2, 72)]
def lenT : List Nat := [4096, 8, 8, 8, 8, 8, 3, 3, 3, 4, 4, 4, 4, 4, 4, 4, 4, 4, 4, 4, 4, 4, 4, 4, 4, 4, 4, 4, 4, 4, 4, 4, 4, 4, 4, 4, 4, 4, 4, 4, 4, 6, 6, 6, 6, 120, 120, 121, 121, 121, 121, 8, 8, 8, 8, 768, 768, 8, 8, 4, 8, 8, 8, 2, 12, 12, 12, 8, 8, 8, 8, 8, 8, 9, 32, 4, 8, 24, 2, 12, 8, 8, 1000, 8, 32, 32, 14641, 12, 4096]
def len (c : Nat) : Nat := lenT.getD (c - 23) 0
def flds (q : Nat → Nat) (f : Nat → Int) : Nat → List (Option Nat) → List Value
  | _, [] => []
  | k, none :: r => Value.int (Int32.ofInt (f k)) :: flds q f (k + 1) r
  | k, some c :: r => Value.ref (q c) :: flds q f (k + 1) r
def ce (g : Wc) (μ : Mem) (c : Nat) : va_E := match objT[c]? with
  | some o => .inr (o.1, flds g.1 (μ c) 0 o.2)
  | none => match outT[c - 12]? with
    | some o => .inl (g.2.2.2.2, o.1, .inr (.inr (.inr (.inr (fun i => if i < o.1 then some (g.1 (o.2 + i)) else none)))))
    | none => .inl (if c = 23 then g.2.2.2.1 else g.2.2.1, len c, .inl (fun i => Int32.ofInt (μ c i)))
def HW (g : Wc) (μ : Mem) (H : Heap) : Prop := (∀ c, c < 112 → va_at g.2.1 vwCl (g.1 c, ce g μ c) H) ∧ ∀ c d, c < 112 → d < 112 → g.1 c = g.1 d → c = d
def Aq (g : Wc) : Nat → Prop := fun a => ∃ c, c < 112 ∧ a = g.1 c
def tyl (g : Wc) : List (ClassId × FieldType) := [(g.2.2.1, .int), (g.2.2.2.1, .byte), (g.2.2.2.2, .array .int)]
def stT : List (List Int) := [[1, 0, 0, 0, 0], [40, 99, 300, 20, 2], [1, 0, 300, 1, 0]]
def stv (k j : Nat) : Int := (stT.getD k []).getD j 0
def Zs (g : Wc) (U : State) (H : Heap) : Prop :=
  (va_Z "WorkOrders" "LEAST_TRAIT" "[I" (.ref (g.1 112)) (Aq g) U H ∧ va_T .int (g.1 112) 5 (fun j => .int (Int32.ofInt (stv 0 j))) (Aq g) U H) ∧
  (va_Z "WorkOrders" "MOST_TRAIT" "[I" (.ref (g.1 113)) (Aq g) U H ∧ va_T .int (g.1 113) 5 (fun j => .int (Int32.ofInt (stv 1 j))) (Aq g) U H) ∧
  (va_Z "WorkOrders" "FIRST_TRAIT" "[I" (.ref (g.1 114)) (Aq g) U H ∧ va_T .int (g.1 114) 5 (fun j => .int (Int32.ofInt (stv 2 j))) (Aq g) U H)
/-- what a state has of the tables and the statics -/
def Sd (g : Wc) (U : State) : Prop := (∀ w ∈ tb, ∀ A : Array Value, w.before A U = true) ∧ va_K g.2.1 vwCl (tyl g) U ∧ Zs g U U.heap
def Wd (g : Wc) (μ : Mem) (U : State) : Prop := Sd g U ∧ HW g μ U.heap ∧ RngM μ
abbrev Cx : Type := (Program × Launch × Env × Room) × (State × MethodId × Array Value × List Frame) × (Method × Code × (State → Prop)) × (Nat × Nat)
def WX (X : Cx) (H : Heap) (locs : List Loc) (f : JFrame) : Prop := W X.1.1 X.1.2.1 X.1.2.2.1 X.1.2.2.2 X.2.1.1 X.2.1.2.1 X.2.1.2.2.1 X.2.1.2.2.2 X.2.2.1.1 X.2.2.1.2.1 H locs X.2.2.2.1 X.2.2.2.2 X.2.2.1.2.2 f
def cvl (g : Wc) (lv : List (Nat × AV)) : List (Nat × Value) := lv.map (fun q => (q.1, cv g.1 q.2))
def V (g : Wc) (X : Cx) (nL : Nat) (μ : Mem) (lv : List (Nat × AV)) (pc : Nat) (st : List AV) : Prop :=
  (∀ q ∈ lv, okA q.2) → (∀ a ∈ st, okA a) → RngM μ → ∀ (H : Heap) (locs : List Loc) (ls : Array Slot), HW g μ H → va_S (Aq g) X.2.1.1.heap H locs → lv_has ls nL (cvl g lv) → WX X H locs (F0 X.2.1.2.1 pc ls (st.map (cv g.1)))
def Fx (g : Wc) (X : Cx) (cc : ByteArray) (own : String) (nL h : Nat) : Prop :=
  X.1.1.tables.exec = Jvm.exec ∧ X.2.2.1.2.1.code = cc ∧ X.2.2.1.2.1.maxLocals = nL ∧ X.2.1.1.vm.findClass own = some X.2.1.2.1.cls ∧ Sd g X.2.1.1 ∧
  (h ≤ X.1.2.2.2.frames ∧ 41 * h ≤ X.1.2.2.2.locals ∧ X.2.2.2.1 ≤ X.1.2.2.2.cells ∧ X.2.2.2.2 ≤ X.1.2.2.2.slots) ∧ X.2.2.1.1.locks = false
section RowsA
variable {g : Wc} {X : Cx} {cc : ByteArray} {own : String} {nL h : Nat} {μ : Mem} {lv lv' : List (Nat × AV)} {pc : Nat} {st : List AV}
theorem V.sub (ks : List Nat) (hl : ks.filterMap (fun k => lv[k]?) = lv') (kk : V g X nL μ lv' pc st) : V g X nL μ lv pc st := by
  intro h1 h2 h3 H locs ls h4 h5 h6
  refine kk (fun q hq => h1 q ?_) h2 h3 H locs ls h4 h5 (lv_sub h6 ks ?_)
  · rw [← hl] at hq
    obtain ⟨k, -, hk⟩ := List.mem_filterMap.mp hq
    exact List.mem_of_getElem? hk
  · rw [← hl]
    unfold lv_pick cvl
    rw [List.map_filterMap]
    congr 1
    funext k
    rw [List.getElem?_map]
theorem r_iconst {n : Int} (F : Fx g X cc own nL h) (hd : decode cc pc = .ok (.iconst n, 1)) (hr : inR n) (kk : V g X nL μ lv (pc + 1) (Iv n :: st)) : V g X nL μ lv pc st := by
  intro h1 h2 h3 H locs ls h4 h5 h6
  exact lv_iconst F.1 F.2.1 hd rfl (kk h1 (List.forall_mem_cons.mpr ⟨hr, h2⟩) h3 H locs ls h4 h5 h6)
theorem r_bipush {n : Int} (F : Fx g X cc own nL h) (hd : decode cc pc = .ok (.bipush n, 2)) (hr : inR n) (hv : (Int8.ofInt n).toInt32 = Int32.ofInt n) (kk : V g X nL μ lv (pc + 2) (Iv n :: st)) : V g X nL μ lv pc st := by
  intro h1 h2 h3 H locs ls h4 h5 h6
  exact lv_bipush F.1 F.2.1 hd hv (kk h1 (List.forall_mem_cons.mpr ⟨hr, h2⟩) h3 H locs ls h4 h5 h6)
theorem r_sipush {n : Int} (F : Fx g X cc own nL h) (hd : decode cc pc = .ok (.sipush n, 3)) (hr : inR n) (hv : (Int16.ofInt n).toInt32 = Int32.ofInt n) (kk : V g X nL μ lv (pc + 3) (Iv n :: st)) : V g X nL μ lv pc st := by
  intro h1 h2 h3 H locs ls h4 h5 h6
  exact lv_sipush F.1 F.2.1 hd hv (kk h1 (List.forall_mem_cons.mpr ⟨hr, h2⟩) h3 H locs ls h4 h5 h6)
theorem r_lconst {n : Fin 2} {x : Int} (F : Fx g X cc own nL h) (hd : decode cc pc = .ok (.lconst n, 1)) (hr : inRL x) (hv : Int64.ofNat (n : Nat) = Int64.ofInt x) (kk : V g X nL μ lv (pc + 1) (Lv x :: st)) : V g X nL μ lv pc st := by
  intro h1 h2 h3 H locs ls h4 h5 h6
  exact lv_lconst F.1 F.2.1 hd hv (kk h1 (List.forall_mem_cons.mpr ⟨hr, h2⟩) h3 H locs ls h4 h5 h6)
theorem cvl_at {k i : Nat} {a : AV} (hk : lv[k]? = some (i, a)) : (cvl g lv)[k]? = some (i, cv g.1 a) := by
  unfold cvl
  rw [List.getElem?_map, hk]
  rfl
theorem lv_ok {k i : Nat} {a : AV} (hk : lv[k]? = some (i, a)) (h1 : ∀ q ∈ lv, okA q.2) : okA a := h1 (i, a) (List.mem_of_getElem? hk)
theorem r_iload_n {j : Fin 4} {i : Nat} {a : Int} (k : Nat) (F : Fx g X cc own nL h) (hd : decode cc pc = .ok (.iload_n j, 1)) (hi : (j : Nat) = i) (hk : lv[k]? = some (i, Iv a)) (kk : V g X nL μ lv (pc + 1) (Iv a :: st)) : V g X nL μ lv pc st := by
  intro h1 h2 h3 H locs ls h4 h5 h6
  exact lv_iload_n F.1 F.2.1 hd hi (lv_at h6 k (cvl_at hk)) (kk h1 (List.forall_mem_cons.mpr ⟨lv_ok hk h1, h2⟩) h3 H locs ls h4 h5 h6)
theorem r_iload {i : Nat} {a : Int} (k : Nat) (F : Fx g X cc own nL h) (hd : decode cc pc = .ok (.iload i, 2)) (hk : lv[k]? = some (i, Iv a)) (kk : V g X nL μ lv (pc + 2) (Iv a :: st)) : V g X nL μ lv pc st := by
  intro h1 h2 h3 H locs ls h4 h5 h6
  exact lv_iload F.1 F.2.1 hd (lv_at h6 k (cvl_at hk)) (kk h1 (List.forall_mem_cons.mpr ⟨lv_ok hk h1, h2⟩) h3 H locs ls h4 h5 h6)
theorem r_lload_n {j : Fin 4} {i : Nat} {a : Int} (k : Nat) (F : Fx g X cc own nL h) (hd : decode cc pc = .ok (.lload_n j, 1)) (hi : (j : Nat) = i) (hk : lv[k]? = some (i, Lv a)) (kk : V g X nL μ lv (pc + 1) (Lv a :: st)) : V g X nL μ lv pc st := by
  intro h1 h2 h3 H locs ls h4 h5 h6
  exact lv_lload_n F.1 F.2.1 hd hi (lv_at h6 k (cvl_at hk)) (kk h1 (List.forall_mem_cons.mpr ⟨lv_ok hk h1, h2⟩) h3 H locs ls h4 h5 h6)
theorem r_lload {i : Nat} {a : Int} (k : Nat) (F : Fx g X cc own nL h) (hd : decode cc pc = .ok (.lload i, 2)) (hk : lv[k]? = some (i, Lv a)) (kk : V g X nL μ lv (pc + 2) (Lv a :: st)) : V g X nL μ lv pc st := by
  intro h1 h2 h3 H locs ls h4 h5 h6
  exact lv_lload F.1 F.2.1 hd (lv_at h6 k (cvl_at hk)) (kk h1 (List.forall_mem_cons.mpr ⟨lv_ok hk h1, h2⟩) h3 H locs ls h4 h5 h6)
theorem r_aload_n {j : Fin 4} {i c : Nat} (k : Nat) (F : Fx g X cc own nL h) (hd : decode cc pc = .ok (.aload_n j, 1)) (hi : (j : Nat) = i) (hk : lv[k]? = some (i, Rv c)) (kk : V g X nL μ lv (pc + 1) (Rv c :: st)) : V g X nL μ lv pc st := by
  intro h1 h2 h3 H locs ls h4 h5 h6
  exact lv_aload_n F.1 F.2.1 hd hi (lv_at h6 k (cvl_at hk)) (kk h1 (List.forall_mem_cons.mpr ⟨trivial, h2⟩) h3 H locs ls h4 h5 h6)
theorem r_aload {i c : Nat} (k : Nat) (F : Fx g X cc own nL h) (hd : decode cc pc = .ok (.aload i, 2)) (hk : lv[k]? = some (i, Rv c)) (kk : V g X nL μ lv (pc + 2) (Rv c :: st)) : V g X nL μ lv pc st := by
  intro h1 h2 h3 H locs ls h4 h5 h6
  exact lv_aload F.1 F.2.1 hd (lv_at h6 k (cvl_at hk)) (kk h1 (List.forall_mem_cons.mpr ⟨trivial, h2⟩) h3 H locs ls h4 h5 h6)
theorem cat_cv (a : AV) : ((cv g.1 a).category == 2) = isL a := by
  rcases a with a | a | a <;> rfl
theorem cvl_st1 {i : Nat} {a : AV} (hl : (i, a) :: lv.filter (fun q => !(q.1 == i) && !(q.1 + 1 == i && isL q.2)) = lv') : (i, cv g.1 a) :: (cvl g lv).filter (fun q => !(q.1 == i) && !(q.1 + 1 == i && q.2.category == 2)) = cvl g lv' := by
  rw [← hl]
  unfold cvl
  rw [List.map_cons, List.filter_map]
  congr 3
  funext q
  simp only [Function.comp, cat_cv]
theorem cvl_st2 {i : Nat} {a : AV} (hl : (i, a) :: lv.filter (fun q => !(q.1 == i) && (!(q.1 == i + 1) && !(q.1 + 1 == i && isL q.2))) = lv') : (i, cv g.1 a) :: (cvl g lv).filter (fun q => !(q.1 == i) && (!(q.1 == i + 1) && !(q.1 + 1 == i && q.2.category == 2))) = cvl g lv' := by
  rw [← hl]
  unfold cvl
  rw [List.map_cons, List.filter_map]
  congr 3
  funext q
  simp only [Function.comp, cat_cv]
theorem ok_st1 {i : Nat} {a : AV} {P : Nat × AV → Bool} (hl : (i, a) :: lv.filter P = lv') (h1 : ∀ q ∈ lv, okA q.2) (ha : okA a) : ∀ q ∈ lv', okA q.2 := by
  rw [← hl]
  exact List.forall_mem_cons.mpr ⟨ha, fun q hq => h1 q (List.mem_filter.mp hq).1⟩
theorem r_istore_n {j : Fin 4} {i : Nat} {a : Int} (F : Fx g X cc own nL h) (hd : decode cc pc = .ok (.istore_n j, 1)) (hi : (j : Nat) = i) (hn : i < nL) (hl : (i, Iv a) :: lv.filter (fun q => !(q.1 == i) && !(q.1 + 1 == i && isL q.2)) = lv') (kk : V g X nL μ lv' (pc + 1) st) : V g X nL μ lv pc (Iv a :: st) := by
  intro h1 h2 h3 H locs ls h4 h5 h6
  have h2' := List.forall_mem_cons.mp h2
  exact lv_istore_n F.1 F.2.1 hd hi h6 hn (cvl_st1 hl) (fun ls' hl' => kk (ok_st1 hl h1 h2'.1) h2'.2 h3 H locs ls' h4 h5 hl')
theorem r_istore {i : Nat} {a : Int} (F : Fx g X cc own nL h) (hd : decode cc pc = .ok (.istore i, 2)) (hn : i < nL) (hl : (i, Iv a) :: lv.filter (fun q => !(q.1 == i) && !(q.1 + 1 == i && isL q.2)) = lv') (kk : V g X nL μ lv' (pc + 2) st) : V g X nL μ lv pc (Iv a :: st) := by
  intro h1 h2 h3 H locs ls h4 h5 h6
  have h2' := List.forall_mem_cons.mp h2
  exact lv_istore F.1 F.2.1 hd h6 hn (cvl_st1 hl) (fun ls' hl' => kk (ok_st1 hl h1 h2'.1) h2'.2 h3 H locs ls' h4 h5 hl')
theorem r_astore_n {j : Fin 4} {i c : Nat} (F : Fx g X cc own nL h) (hd : decode cc pc = .ok (.astore_n j, 1)) (hi : (j : Nat) = i) (hn : i < nL) (hl : (i, Rv c) :: lv.filter (fun q => !(q.1 == i) && !(q.1 + 1 == i && isL q.2)) = lv') (kk : V g X nL μ lv' (pc + 1) st) : V g X nL μ lv pc (Rv c :: st) := by
  intro h1 h2 h3 H locs ls h4 h5 h6
  have h2' := List.forall_mem_cons.mp h2
  exact lv_astore_n F.1 F.2.1 hd hi h6 hn (cvl_st1 hl) (fun ls' hl' => kk (ok_st1 hl h1 trivial) h2'.2 h3 H locs ls' h4 h5 hl')
theorem r_astore {i c : Nat} (F : Fx g X cc own nL h) (hd : decode cc pc = .ok (.astore i, 2)) (hn : i < nL) (hl : (i, Rv c) :: lv.filter (fun q => !(q.1 == i) && !(q.1 + 1 == i && isL q.2)) = lv') (kk : V g X nL μ lv' (pc + 2) st) : V g X nL μ lv pc (Rv c :: st) := by
  intro h1 h2 h3 H locs ls h4 h5 h6
  have h2' := List.forall_mem_cons.mp h2
  exact lv_astore F.1 F.2.1 hd h6 hn (cvl_st1 hl) (fun ls' hl' => kk (ok_st1 hl h1 trivial) h2'.2 h3 H locs ls' h4 h5 hl')
theorem r_lstore_n {j : Fin 4} {i : Nat} {a : Int} (F : Fx g X cc own nL h) (hd : decode cc pc = .ok (.lstore_n j, 1)) (hi : (j : Nat) = i) (hn : i + 1 < nL) (hl : (i, Lv a) :: lv.filter (fun q => !(q.1 == i) && (!(q.1 == i + 1) && !(q.1 + 1 == i && isL q.2))) = lv') (kk : V g X nL μ lv' (pc + 1) st) : V g X nL μ lv pc (Lv a :: st) := by
  intro h1 h2 h3 H locs ls h4 h5 h6
  have h2' := List.forall_mem_cons.mp h2
  exact lv_lstore_n F.1 F.2.1 hd hi h6 hn (cvl_st2 hl) (fun ls' hl' => kk (ok_st1 hl h1 h2'.1) h2'.2 h3 H locs ls' h4 h5 hl')
theorem r_lstore {i : Nat} {a : Int} (F : Fx g X cc own nL h) (hd : decode cc pc = .ok (.lstore i, 2)) (hn : i + 1 < nL) (hl : (i, Lv a) :: lv.filter (fun q => !(q.1 == i) && (!(q.1 == i + 1) && !(q.1 + 1 == i && isL q.2))) = lv') (kk : V g X nL μ lv' (pc + 2) st) : V g X nL μ lv pc (Lv a :: st) := by
  intro h1 h2 h3 H locs ls h4 h5 h6
  have h2' := List.forall_mem_cons.mp h2
  exact lv_lstore F.1 F.2.1 hd h6 hn (cvl_st2 hl) (fun ls' hl' => kk (ok_st1 hl h1 h2'.1) h2'.2 h3 H locs ls' h4 h5 hl')
theorem r_iinc {i : Nat} {n a : Int} (k : Nat) (F : Fx g X cc own nL h) (hd : decode cc pc = .ok (.iinc i n, 3)) (hk : lv[k]? = some (i, Iv a)) (hn : i < nL) (hl : (i, Iv (wrap (a + n))) :: lv.filter (fun q => !(q.1 == i) && !(q.1 + 1 == i && isL q.2)) = lv') (kk : V g X nL μ lv' (pc + 3) st) : V g X nL μ lv pc st := by
  intro h1 h2 h3 H locs ls h4 h5 h6
  exact lv_iinc F.1 F.2.1 hd h6 (cvl_at hk) (by rw [ofI_wrap, Int32.ofInt_add]) hn (cvl_st1 hl) (fun ls' hl' => kk (ok_st1 hl h1 (wrap_rng _)) h2 h3 H locs ls' h4 h5 hl')
end RowsA
