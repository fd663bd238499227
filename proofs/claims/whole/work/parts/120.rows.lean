/-! Rows of arithmetic, the stack, branches. -/
section RowsB
variable {g : Wc} {X : Cx} {cc : ByteArray} {own : String} {nL h : Nat} {μ : Mem} {lv : List (Nat × AV)} {pc : Nat} {st : List AV} {a b : Int}
theorem r_iadd (F : Fx g X cc own nL h) (hd : decode cc pc = .ok (.iadd, 1)) (kk : V g X nL μ lv (pc + 1) (Iv (wrap (a + b)) :: st)) : V g X nL μ lv pc (Iv b :: Iv a :: st) := by
  intro h1 h2 h3 H locs ls h4 h5 h6
  have h2' := (List.forall_mem_cons.mp (List.forall_mem_cons.mp h2).2).2
  have hk := kk h1 (List.forall_mem_cons.mpr ⟨wrap_rng _, h2'⟩) h3 H locs ls h4 h5 h6
  have e : Int32.ofInt (wrap (a + b)) = Int32.ofInt a + Int32.ofInt b := by rw [ofI_wrap, Int32.ofInt_add]
  rw [List.map_cons, show cv g.1 (Iv (wrap (a + b))) = Value.int (Int32.ofInt (wrap (a + b))) from rfl, e] at hk
  exact lv_iadd F.1 F.2.1 hd hk
theorem r_isub (F : Fx g X cc own nL h) (hd : decode cc pc = .ok (.isub, 1)) (kk : V g X nL μ lv (pc + 1) (Iv (wrap (a - b)) :: st)) : V g X nL μ lv pc (Iv b :: Iv a :: st) := by
  intro h1 h2 h3 H locs ls h4 h5 h6
  have h2' := (List.forall_mem_cons.mp (List.forall_mem_cons.mp h2).2).2
  have hk := kk h1 (List.forall_mem_cons.mpr ⟨wrap_rng _, h2'⟩) h3 H locs ls h4 h5 h6
  have e : Int32.ofInt (wrap (a - b)) = Int32.ofInt a - Int32.ofInt b := by rw [ofI_wrap, Int32.ofInt_sub]
  rw [List.map_cons, show cv g.1 (Iv (wrap (a - b))) = Value.int (Int32.ofInt (wrap (a - b))) from rfl, e] at hk
  exact lv_isub F.1 F.2.1 hd hk
theorem r_imul (F : Fx g X cc own nL h) (hd : decode cc pc = .ok (.imul, 1)) (kk : V g X nL μ lv (pc + 1) (Iv (wrap (a * b)) :: st)) : V g X nL μ lv pc (Iv b :: Iv a :: st) := by
  intro h1 h2 h3 H locs ls h4 h5 h6
  have h2' := (List.forall_mem_cons.mp (List.forall_mem_cons.mp h2).2).2
  have hk := kk h1 (List.forall_mem_cons.mpr ⟨wrap_rng _, h2'⟩) h3 H locs ls h4 h5 h6
  have e : Int32.ofInt (wrap (a * b)) = Int32.ofInt a * Int32.ofInt b := by rw [ofI_wrap, Int32.ofInt_mul]
  rw [List.map_cons, show cv g.1 (Iv (wrap (a * b))) = Value.int (Int32.ofInt (wrap (a * b))) from rfl, e] at hk
  exact lv_imul F.1 F.2.1 hd hk
theorem r_iand (F : Fx g X cc own nL h) (hd : decode cc pc = .ok (.iand, 1)) (kk : V g X nL μ lv (pc + 1) (Iv (iand a b) :: st)) : V g X nL μ lv pc (Iv b :: Iv a :: st) := by
  intro h1 h2 h3 H locs ls h4 h5 h6
  have h2' := (List.forall_mem_cons.mp (List.forall_mem_cons.mp h2).2).2
  have hk := kk h1 (List.forall_mem_cons.mpr ⟨toInt_rng _, h2'⟩) h3 H locs ls h4 h5 h6
  have e : Int32.ofInt (iand a b) = Int32.ofInt a &&& Int32.ofInt b := Int32.ofInt_toInt _
  rw [List.map_cons, show cv g.1 (Iv (iand a b)) = Value.int (Int32.ofInt (iand a b)) from rfl, e] at hk
  exact lv_iand F.1 F.2.1 hd hk
theorem r_ior (F : Fx g X cc own nL h) (hd : decode cc pc = .ok (.ior, 1)) (kk : V g X nL μ lv (pc + 1) (Iv (ior a b) :: st)) : V g X nL μ lv pc (Iv b :: Iv a :: st) := by
  intro h1 h2 h3 H locs ls h4 h5 h6
  have h2' := (List.forall_mem_cons.mp (List.forall_mem_cons.mp h2).2).2
  have hk := kk h1 (List.forall_mem_cons.mpr ⟨toInt_rng _, h2'⟩) h3 H locs ls h4 h5 h6
  have e : Int32.ofInt (ior a b) = Int32.ofInt a ||| Int32.ofInt b := Int32.ofInt_toInt _
  rw [List.map_cons, show cv g.1 (Iv (ior a b)) = Value.int (Int32.ofInt (ior a b)) from rfl, e] at hk
  exact lv_ior F.1 F.2.1 hd hk
theorem r_ixor (F : Fx g X cc own nL h) (hd : decode cc pc = .ok (.ixor, 1)) (kk : V g X nL μ lv (pc + 1) (Iv (ixor a b) :: st)) : V g X nL μ lv pc (Iv b :: Iv a :: st) := by
  intro h1 h2 h3 H locs ls h4 h5 h6
  have h2' := (List.forall_mem_cons.mp (List.forall_mem_cons.mp h2).2).2
  have hk := kk h1 (List.forall_mem_cons.mpr ⟨toInt_rng _, h2'⟩) h3 H locs ls h4 h5 h6
  have e : Int32.ofInt (ixor a b) = Int32.ofInt a ^^^ Int32.ofInt b := Int32.ofInt_toInt _
  rw [List.map_cons, show cv g.1 (Iv (ixor a b)) = Value.int (Int32.ofInt (ixor a b)) from rfl, e] at hk
  exact lv_ixor F.1 F.2.1 hd hk
theorem r_ishl (F : Fx g X cc own nL h) (hd : decode cc pc = .ok (.ishl, 1)) (kk : V g X nL μ lv (pc + 1) (Iv (ishl a b) :: st)) : V g X nL μ lv pc (Iv b :: Iv a :: st) := by
  intro h1 h2 h3 H locs ls h4 h5 h6
  have h2' := (List.forall_mem_cons.mp (List.forall_mem_cons.mp h2).2).2
  have hk := kk h1 (List.forall_mem_cons.mpr ⟨toInt_rng _, h2'⟩) h3 H locs ls h4 h5 h6
  have e : Int32.ofInt (ishl a b) = Int32.ofInt a <<< (Int32.ofInt b &&& 31) := Int32.ofInt_toInt _
  rw [List.map_cons, show cv g.1 (Iv (ishl a b)) = Value.int (Int32.ofInt (ishl a b)) from rfl, e] at hk
  exact lv_ishl F.1 F.2.1 hd hk
theorem r_ishr (F : Fx g X cc own nL h) (hd : decode cc pc = .ok (.ishr, 1)) (kk : V g X nL μ lv (pc + 1) (Iv (ishr a b) :: st)) : V g X nL μ lv pc (Iv b :: Iv a :: st) := by
  intro h1 h2 h3 H locs ls h4 h5 h6
  have h2' := (List.forall_mem_cons.mp (List.forall_mem_cons.mp h2).2).2
  have hk := kk h1 (List.forall_mem_cons.mpr ⟨toInt_rng _, h2'⟩) h3 H locs ls h4 h5 h6
  have e : Int32.ofInt (ishr a b) = Int32.ofInt a >>> (Int32.ofInt b &&& 31) := Int32.ofInt_toInt _
  rw [List.map_cons, show cv g.1 (Iv (ishr a b)) = Value.int (Int32.ofInt (ishr a b)) from rfl, e] at hk
  exact lv_ishr F.1 F.2.1 hd hk
theorem r_iushr (F : Fx g X cc own nL h) (hd : decode cc pc = .ok (.iushr, 1)) (kk : V g X nL μ lv (pc + 1) (Iv (iushr a b) :: st)) : V g X nL μ lv pc (Iv b :: Iv a :: st) := by
  intro h1 h2 h3 H locs ls h4 h5 h6
  have h2' := (List.forall_mem_cons.mp (List.forall_mem_cons.mp h2).2).2
  have hk := kk h1 (List.forall_mem_cons.mpr ⟨toInt_rng _, h2'⟩) h3 H locs ls h4 h5 h6
  exact lv_iushr F.1 F.2.1 hd (Int32.ofInt_toInt _).symm hk
theorem r_idiv (F : Fx g X cc own nL h) (hd : decode cc pc = .ok (.idiv, 1)) (hb : ¬ b = 0) (kk : V g X nL μ lv (pc + 1) (Iv (idv a b) :: st)) : V g X nL μ lv pc (Iv b :: Iv a :: st) := by
  intro h1 h2 h3 H locs ls h4 h5 h6
  have hb1 : inR b := (List.forall_mem_cons.mp h2).1
  have h2' := (List.forall_mem_cons.mp (List.forall_mem_cons.mp h2).2).2
  have hk := kk h1 (List.forall_mem_cons.mpr ⟨toInt_rng _, h2'⟩) h3 H locs ls h4 h5 h6
  have e : Int32.ofInt (idv a b) = Int32.ofInt a / Int32.ofInt b := Int32.ofInt_toInt _
  rw [List.map_cons, show cv g.1 (Iv (idv a b)) = Value.int (Int32.ofInt (idv a b)) from rfl, e] at hk
  exact lv_idiv F.1 F.2.1 hd (fun q => hb ((i32_eq hb1 inR0).mp q)) hk
theorem r_i2b (F : Fx g X cc own nL h) (hd : decode cc pc = .ok (.i2b, 1)) (kk : V g X nL μ lv (pc + 1) (Iv (i2b a) :: st)) : V g X nL μ lv pc (Iv a :: st) := by
  intro h1 h2 h3 H locs ls h4 h5 h6
  have h2' := (List.forall_mem_cons.mp h2).2
  have hk := kk h1 (List.forall_mem_cons.mpr ⟨toInt_rng _, h2'⟩) h3 H locs ls h4 h5 h6
  exact lv_i2b F.1 F.2.1 hd (Int32.ofInt_toInt _).symm hk
theorem inR_L {x : Int} (h : inR x) : inRL x := by unfold inR at h; unfold inRL; omega
theorem i2l_eq {x : Int} (h : inR x) : (Int32.ofInt x).toInt64 = Int64.ofInt x := by
  apply Int64.toInt_inj.mp
  rw [Int32.toInt_toInt64, ofI_toInt h, ofL_toInt (inR_L h)]
theorem r_i2l (F : Fx g X cc own nL h) (hd : decode cc pc = .ok (.i2l, 1)) (kk : V g X nL μ lv (pc + 1) (Lv a :: st)) : V g X nL μ lv pc (Iv a :: st) := by
  intro h1 h2 h3 H locs ls h4 h5 h6
  have h2' := List.forall_mem_cons.mp h2
  have hk := kk h1 (List.forall_mem_cons.mpr ⟨inR_L h2'.1, h2'.2⟩) h3 H locs ls h4 h5 h6
  exact lv_i2l F.1 F.2.1 hd (i2l_eq h2'.1) hk
theorem r_ladd (F : Fx g X cc own nL h) (hd : decode cc pc = .ok (.ladd, 1)) (kk : V g X nL μ lv (pc + 1) (Lv (wrapL (a + b)) :: st)) : V g X nL μ lv pc (Lv b :: Lv a :: st) := by
  intro h1 h2 h3 H locs ls h4 h5 h6
  have h2' := (List.forall_mem_cons.mp (List.forall_mem_cons.mp h2).2).2
  have hk := kk h1 (List.forall_mem_cons.mpr ⟨wrapL_rng _, h2'⟩) h3 H locs ls h4 h5 h6
  have e : Int64.ofInt (wrapL (a + b)) = Int64.ofInt a + Int64.ofInt b := by rw [ofL_wrap, Int64.ofInt_add]
  rw [List.map_cons, show cv g.1 (Lv (wrapL (a + b))) = Value.long (Int64.ofInt (wrapL (a + b))) from rfl, e] at hk
  exact lv_ladd F.1 F.2.1 hd hk
theorem r_lmul (F : Fx g X cc own nL h) (hd : decode cc pc = .ok (.lmul, 1)) (kk : V g X nL μ lv (pc + 1) (Lv (wrapL (a * b)) :: st)) : V g X nL μ lv pc (Lv b :: Lv a :: st) := by
  intro h1 h2 h3 H locs ls h4 h5 h6
  have h2' := (List.forall_mem_cons.mp (List.forall_mem_cons.mp h2).2).2
  have hk := kk h1 (List.forall_mem_cons.mpr ⟨wrapL_rng _, h2'⟩) h3 H locs ls h4 h5 h6
  have e : Int64.ofInt (wrapL (a * b)) = Int64.ofInt a * Int64.ofInt b := by rw [ofL_wrap, Int64.ofInt_mul]
  rw [List.map_cons, show cv g.1 (Lv (wrapL (a * b))) = Value.long (Int64.ofInt (wrapL (a * b))) from rfl, e] at hk
  exact lv_lmul F.1 F.2.1 hd hk
theorem lcp_rng (a b : Int) : inR (lcp a b) := by
  unfold lcp inR
  repeat' split
  all_goals omega
theorem lcp_eq {a b : Int} (ha : inRL a) (hb : inRL b) : Int32.ofInt (lcp a b) = lg_cmp (Int64.ofInt a) (Int64.ofInt b) := by
  unfold lcp lg_cmp
  simp only [gt_iff_lt, Int64.lt_iff_toInt_lt, ← Int64.toInt_inj, ofL_toInt ha, ofL_toInt hb]
  repeat' split
  all_goals first | rfl | omega
theorem r_lcmp (F : Fx g X cc own nL h) (hd : decode cc pc = .ok (.lcmp, 1)) (kk : V g X nL μ lv (pc + 1) (Iv (lcp a b) :: st)) : V g X nL μ lv pc (Lv b :: Lv a :: st) := by
  intro h1 h2 h3 H locs ls h4 h5 h6
  have hb := (List.forall_mem_cons.mp h2).1
  have ha := (List.forall_mem_cons.mp (List.forall_mem_cons.mp h2).2).1
  have h2' := (List.forall_mem_cons.mp (List.forall_mem_cons.mp h2).2).2
  have hk := kk h1 (List.forall_mem_cons.mpr ⟨lcp_rng _ _, h2'⟩) h3 H locs ls h4 h5 h6
  rw [List.map_cons, show cv g.1 (Iv (lcp a b)) = Value.int (Int32.ofInt (lcp a b)) from rfl, lcp_eq ha hb] at hk
  exact W.lcmp F.1 F.2.1 hd hk
theorem r_dup {x : AV} (F : Fx g X cc own nL h) (hd : decode cc pc = .ok (.dup, 1)) (hx : isL x = false) (kk : V g X nL μ lv (pc + 1) (x :: x :: st)) : V g X nL μ lv pc (x :: st) := by
  intro h1 h2 h3 H locs ls h4 h5 h6
  have h2' := List.forall_mem_cons.mp h2
  exact lv_dup F.1 F.2.1 hd (by rcases x with x | x | x <;> first | rfl | cases hx) (kk h1 (List.forall_mem_cons.mpr ⟨h2'.1, h2⟩) h3 H locs ls h4 h5 h6)
theorem r_pop {x : AV} (F : Fx g X cc own nL h) (hd : decode cc pc = .ok (.pop, 1)) (hx : isL x = false) (kk : V g X nL μ lv (pc + 1) st) : V g X nL μ lv pc (x :: st) := by
  intro h1 h2 h3 H locs ls h4 h5 h6
  have h2' := List.forall_mem_cons.mp h2
  exact lv_pop F.1 F.2.1 hd (by rcases x with x | x | x <;> first | rfl | cases hx) (kk h1 h2'.2 h3 H locs ls h4 h5 h6)
theorem r_dup_x1 {x y : AV} (F : Fx g X cc own nL h) (hd : decode cc pc = .ok (.dup_x1, 1)) (hx : isL x = false) (hy : isL y = false) (kk : V g X nL μ lv (pc + 1) (x :: y :: x :: st)) : V g X nL μ lv pc (x :: y :: st) := by
  intro h1 h2 h3 H locs ls h4 h5 h6
  have h2' := List.forall_mem_cons.mp h2
  have h2'' := List.forall_mem_cons.mp h2'.2
  exact lv_dup_x1 F.1 F.2.1 hd (by rcases x with x | x | x <;> first | rfl | cases hx) (by rcases y with x | x | x <;> first | rfl | cases hy) (kk h1 (List.forall_mem_cons.mpr ⟨h2'.1, List.forall_mem_cons.mpr ⟨h2''.1, List.forall_mem_cons.mpr ⟨h2'.1, h2''.2⟩⟩⟩) h3 H locs ls h4 h5 h6)
theorem r_dup2 {x y : AV} (F : Fx g X cc own nL h) (hd : decode cc pc = .ok (.dup2, 1)) (hx : isL x = false) (hy : isL y = false) (kk : V g X nL μ lv (pc + 1) (x :: y :: x :: y :: st)) : V g X nL μ lv pc (x :: y :: st) := by
  intro h1 h2 h3 H locs ls h4 h5 h6
  have h2' := List.forall_mem_cons.mp h2
  have h2'' := List.forall_mem_cons.mp h2'.2
  exact lv_dup2_11 F.1 F.2.1 hd (by rcases x with x | x | x <;> first | rfl | cases hx) (by rcases y with x | x | x <;> first | rfl | cases hy) (kk h1 (List.forall_mem_cons.mpr ⟨h2'.1, List.forall_mem_cons.mpr ⟨h2''.1, h2⟩⟩) h3 H locs ls h4 h5 h6)
theorem r_goto {off : Int} {tgt : Nat} (F : Fx g X cc own nL h) (hd : decode cc pc = .ok (.goto off, 3)) (ht : (pc : Int) + off = (tgt : Int)) (kk : V g X nL μ lv tgt st) : V g X nL μ lv pc st := by
  intro h1 h2 h3 H locs ls h4 h5 h6
  exact lv_goto F.1 F.2.1 hd ht (kk h1 h2 h3 H locs ls h4 h5 h6)
theorem r_icmp_eq {off : Int} {tgt : Nat} (F : Fx g X cc own nL h) (hd : decode cc pc = .ok (.if_icmp .eq off, 3)) (ht : (pc : Int) + off = (tgt : Int)) (k1 : a = b → V g X nL μ lv tgt st) (k2 : ¬ (a = b) → V g X nL μ lv (pc + 3) st) : V g X nL μ lv pc (Iv b :: Iv a :: st) := by
  intro h1 h2 h3 H locs ls h4 h5 h6
  have hb : inR b := (List.forall_mem_cons.mp h2).1
  have ha : inR a := (List.forall_mem_cons.mp (List.forall_mem_cons.mp h2).2).1
  have h2' := (List.forall_mem_cons.mp (List.forall_mem_cons.mp h2).2).2
  exact lv_icmp_eq F.1 F.2.1 hd ht (fun q => k1 ((i32_eq ha hb).mp q) h1 h2' h3 H locs ls h4 h5 h6) (fun q => k2 (fun z => q ((i32_eq ha hb).mpr z)) h1 h2' h3 H locs ls h4 h5 h6)
theorem r_if_eq {off : Int} {tgt : Nat} (F : Fx g X cc own nL h) (hd : decode cc pc = .ok (.ifCond .eq off, 3)) (ht : (pc : Int) + off = (tgt : Int)) (k1 : a = 0 → V g X nL μ lv tgt st) (k2 : ¬ (a = 0) → V g X nL μ lv (pc + 3) st) : V g X nL μ lv pc (Iv a :: st) := by
  intro h1 h2 h3 H locs ls h4 h5 h6
  have ha : inR a := (List.forall_mem_cons.mp h2).1
  have h2' := (List.forall_mem_cons.mp h2).2
  exact lv_if_eq F.1 F.2.1 hd ht (fun q => k1 ((i32_eq ha inR0).mp q) h1 h2' h3 H locs ls h4 h5 h6) (fun q => k2 (fun z => q ((i32_eq ha inR0).mpr z)) h1 h2' h3 H locs ls h4 h5 h6)
theorem r_icmp_ne {off : Int} {tgt : Nat} (F : Fx g X cc own nL h) (hd : decode cc pc = .ok (.if_icmp .ne off, 3)) (ht : (pc : Int) + off = (tgt : Int)) (k1 : ¬ a = b → V g X nL μ lv tgt st) (k2 : a = b → V g X nL μ lv (pc + 3) st) : V g X nL μ lv pc (Iv b :: Iv a :: st) := by
  intro h1 h2 h3 H locs ls h4 h5 h6
  have hb : inR b := (List.forall_mem_cons.mp h2).1
  have ha : inR a := (List.forall_mem_cons.mp (List.forall_mem_cons.mp h2).2).1
  have h2' := (List.forall_mem_cons.mp (List.forall_mem_cons.mp h2).2).2
  exact lv_icmp_ne F.1 F.2.1 hd ht (fun q => k1 ((not_congr (i32_eq ha hb)).mp q) h1 h2' h3 H locs ls h4 h5 h6) (fun q => k2 ((i32_eq ha hb).mp q) h1 h2' h3 H locs ls h4 h5 h6)
theorem r_if_ne {off : Int} {tgt : Nat} (F : Fx g X cc own nL h) (hd : decode cc pc = .ok (.ifCond .ne off, 3)) (ht : (pc : Int) + off = (tgt : Int)) (k1 : ¬ a = 0 → V g X nL μ lv tgt st) (k2 : a = 0 → V g X nL μ lv (pc + 3) st) : V g X nL μ lv pc (Iv a :: st) := by
  intro h1 h2 h3 H locs ls h4 h5 h6
  have ha : inR a := (List.forall_mem_cons.mp h2).1
  have h2' := (List.forall_mem_cons.mp h2).2
  exact lv_if_ne F.1 F.2.1 hd ht (fun q => k1 ((not_congr (i32_eq ha inR0)).mp q) h1 h2' h3 H locs ls h4 h5 h6) (fun q => k2 ((i32_eq ha inR0).mp q) h1 h2' h3 H locs ls h4 h5 h6)
theorem r_icmp_lt {off : Int} {tgt : Nat} (F : Fx g X cc own nL h) (hd : decode cc pc = .ok (.if_icmp .lt off, 3)) (ht : (pc : Int) + off = (tgt : Int)) (k1 : a < b → V g X nL μ lv tgt st) (k2 : ¬ (a < b) → V g X nL μ lv (pc + 3) st) : V g X nL μ lv pc (Iv b :: Iv a :: st) := by
  intro h1 h2 h3 H locs ls h4 h5 h6
  have hb : inR b := (List.forall_mem_cons.mp h2).1
  have ha : inR a := (List.forall_mem_cons.mp (List.forall_mem_cons.mp h2).2).1
  have h2' := (List.forall_mem_cons.mp (List.forall_mem_cons.mp h2).2).2
  exact lv_icmp_lt F.1 F.2.1 hd ht (fun q => k1 ((i32_lt ha hb).mp q) h1 h2' h3 H locs ls h4 h5 h6) (fun q => k2 (fun z => q ((i32_lt ha hb).mpr z)) h1 h2' h3 H locs ls h4 h5 h6)
theorem r_if_lt {off : Int} {tgt : Nat} (F : Fx g X cc own nL h) (hd : decode cc pc = .ok (.ifCond .lt off, 3)) (ht : (pc : Int) + off = (tgt : Int)) (k1 : a < 0 → V g X nL μ lv tgt st) (k2 : ¬ (a < 0) → V g X nL μ lv (pc + 3) st) : V g X nL μ lv pc (Iv a :: st) := by
  intro h1 h2 h3 H locs ls h4 h5 h6
  have ha : inR a := (List.forall_mem_cons.mp h2).1
  have h2' := (List.forall_mem_cons.mp h2).2
  exact lv_if_lt F.1 F.2.1 hd ht (fun q => k1 ((i32_lt ha inR0).mp q) h1 h2' h3 H locs ls h4 h5 h6) (fun q => k2 (fun z => q ((i32_lt ha inR0).mpr z)) h1 h2' h3 H locs ls h4 h5 h6)
theorem r_icmp_ge {off : Int} {tgt : Nat} (F : Fx g X cc own nL h) (hd : decode cc pc = .ok (.if_icmp .ge off, 3)) (ht : (pc : Int) + off = (tgt : Int)) (k1 : b ≤ a → V g X nL μ lv tgt st) (k2 : ¬ (b ≤ a) → V g X nL μ lv (pc + 3) st) : V g X nL μ lv pc (Iv b :: Iv a :: st) := by
  intro h1 h2 h3 H locs ls h4 h5 h6
  have hb : inR b := (List.forall_mem_cons.mp h2).1
  have ha : inR a := (List.forall_mem_cons.mp (List.forall_mem_cons.mp h2).2).1
  have h2' := (List.forall_mem_cons.mp (List.forall_mem_cons.mp h2).2).2
  exact lv_icmp_ge F.1 F.2.1 hd ht (fun q => k1 ((i32_le hb ha).mp q) h1 h2' h3 H locs ls h4 h5 h6) (fun q => k2 (fun z => q ((i32_le hb ha).mpr z)) h1 h2' h3 H locs ls h4 h5 h6)
theorem r_if_ge {off : Int} {tgt : Nat} (F : Fx g X cc own nL h) (hd : decode cc pc = .ok (.ifCond .ge off, 3)) (ht : (pc : Int) + off = (tgt : Int)) (k1 : 0 ≤ a → V g X nL μ lv tgt st) (k2 : ¬ (0 ≤ a) → V g X nL μ lv (pc + 3) st) : V g X nL μ lv pc (Iv a :: st) := by
  intro h1 h2 h3 H locs ls h4 h5 h6
  have ha : inR a := (List.forall_mem_cons.mp h2).1
  have h2' := (List.forall_mem_cons.mp h2).2
  exact lv_if_ge F.1 F.2.1 hd ht (fun q => k1 ((i32_le inR0 ha).mp q) h1 h2' h3 H locs ls h4 h5 h6) (fun q => k2 (fun z => q ((i32_le inR0 ha).mpr z)) h1 h2' h3 H locs ls h4 h5 h6)
theorem r_icmp_gt {off : Int} {tgt : Nat} (F : Fx g X cc own nL h) (hd : decode cc pc = .ok (.if_icmp .gt off, 3)) (ht : (pc : Int) + off = (tgt : Int)) (k1 : b < a → V g X nL μ lv tgt st) (k2 : ¬ (b < a) → V g X nL μ lv (pc + 3) st) : V g X nL μ lv pc (Iv b :: Iv a :: st) := by
  intro h1 h2 h3 H locs ls h4 h5 h6
  have hb : inR b := (List.forall_mem_cons.mp h2).1
  have ha : inR a := (List.forall_mem_cons.mp (List.forall_mem_cons.mp h2).2).1
  have h2' := (List.forall_mem_cons.mp (List.forall_mem_cons.mp h2).2).2
  exact lv_icmp_gt F.1 F.2.1 hd ht (fun q => k1 ((i32_lt hb ha).mp q) h1 h2' h3 H locs ls h4 h5 h6) (fun q => k2 (fun z => q ((i32_lt hb ha).mpr z)) h1 h2' h3 H locs ls h4 h5 h6)
theorem r_if_gt {off : Int} {tgt : Nat} (F : Fx g X cc own nL h) (hd : decode cc pc = .ok (.ifCond .gt off, 3)) (ht : (pc : Int) + off = (tgt : Int)) (k1 : 0 < a → V g X nL μ lv tgt st) (k2 : ¬ (0 < a) → V g X nL μ lv (pc + 3) st) : V g X nL μ lv pc (Iv a :: st) := by
  intro h1 h2 h3 H locs ls h4 h5 h6
  have ha : inR a := (List.forall_mem_cons.mp h2).1
  have h2' := (List.forall_mem_cons.mp h2).2
  exact lv_if_gt F.1 F.2.1 hd ht (fun q => k1 ((i32_lt inR0 ha).mp q) h1 h2' h3 H locs ls h4 h5 h6) (fun q => k2 (fun z => q ((i32_lt inR0 ha).mpr z)) h1 h2' h3 H locs ls h4 h5 h6)
theorem r_icmp_le {off : Int} {tgt : Nat} (F : Fx g X cc own nL h) (hd : decode cc pc = .ok (.if_icmp .le off, 3)) (ht : (pc : Int) + off = (tgt : Int)) (k1 : a ≤ b → V g X nL μ lv tgt st) (k2 : ¬ (a ≤ b) → V g X nL μ lv (pc + 3) st) : V g X nL μ lv pc (Iv b :: Iv a :: st) := by
  intro h1 h2 h3 H locs ls h4 h5 h6
  have hb : inR b := (List.forall_mem_cons.mp h2).1
  have ha : inR a := (List.forall_mem_cons.mp (List.forall_mem_cons.mp h2).2).1
  have h2' := (List.forall_mem_cons.mp (List.forall_mem_cons.mp h2).2).2
  exact lv_icmp_le F.1 F.2.1 hd ht (fun q => k1 ((i32_le ha hb).mp q) h1 h2' h3 H locs ls h4 h5 h6) (fun q => k2 (fun z => q ((i32_le ha hb).mpr z)) h1 h2' h3 H locs ls h4 h5 h6)
theorem r_if_le {off : Int} {tgt : Nat} (F : Fx g X cc own nL h) (hd : decode cc pc = .ok (.ifCond .le off, 3)) (ht : (pc : Int) + off = (tgt : Int)) (k1 : a ≤ 0 → V g X nL μ lv tgt st) (k2 : ¬ (a ≤ 0) → V g X nL μ lv (pc + 3) st) : V g X nL μ lv pc (Iv a :: st) := by
  intro h1 h2 h3 H locs ls h4 h5 h6
  have ha : inR a := (List.forall_mem_cons.mp h2).1
  have h2' := (List.forall_mem_cons.mp h2).2
  exact lv_if_le F.1 F.2.1 hd ht (fun q => k1 ((i32_le ha inR0).mp q) h1 h2' h3 H locs ls h4 h5 h6) (fun q => k2 (fun z => q ((i32_le ha inR0).mpr z)) h1 h2' h3 H locs ls h4 h5 h6)
theorem r_tableOut {dflt lo hi : Int} {offs : Array Int} {ln tgt : Nat} (F : Fx g X cc own nL h) (hd : decode cc pc = .ok (.tableswitch dflt lo hi offs, ln)) (hh : a < lo ∨ hi < a) (ht : (pc : Int) + dflt = (tgt : Int)) (kk : V g X nL μ lv tgt st) : V g X nL μ lv pc (Iv a :: st) := by
  intro h1 h2 h3 H locs ls h4 h5 h6
  have ha : inR a := (List.forall_mem_cons.mp h2).1
  exact lv_tableOut F.1 F.2.1 hd (by rw [ofI_toInt ha]; exact hh) ht (kk h1 (List.forall_mem_cons.mp h2).2 h3 H locs ls h4 h5 h6)
theorem r_tableIn {dflt lo hi off : Int} {offs : Array Int} {ln tgt : Nat} (F : Fx g X cc own nL h) (hd : decode cc pc = .ok (.tableswitch dflt lo hi offs, ln)) (hh1 : lo ≤ a) (hh2 : a ≤ hi) (ho : offs[(a - lo).toNat]? = some off) (ht : (pc : Int) + off = (tgt : Int)) (kk : V g X nL μ lv tgt st) : V g X nL μ lv pc (Iv a :: st) := by
  intro h1 h2 h3 H locs ls h4 h5 h6
  have ha : inR a := (List.forall_mem_cons.mp h2).1
  exact lv_tableIn F.1 F.2.1 hd (by rw [ofI_toInt ha]; omega) (by rw [ofI_toInt ha]; omega) (by rw [ofI_toInt ha]; exact ho) ht (kk h1 (List.forall_mem_cons.mp h2).2 h3 H locs ls h4 h5 h6)
end RowsB
