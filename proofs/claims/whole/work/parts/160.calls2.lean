/-! Calls; arraycopy; the static arrays. -/
section RowsE
variable {g : Wc} {X : Cx} {cc : ByteArray} {own : String} {nL h : Nat} {μ : Mem} {lv : List (Nat × AV)} {pc : Nat} {st : List AV} {a b : Int} {Post : Pst}
theorem r_gets0 {idx : Nat} (F : Fx g X cc own nL h) (hlk : Cond.fieldLink own idx "WorkOrders" "LEAST_TRAIT" "[I" ∈ tb) (hd : decode cc pc = .ok (.getstatic idx, 3)) (kk : V g X nL μ lv (pc + 3) (Rv 112 :: st)) : V g X nL μ lv pc st := by
  intro h1 h2 h3 H locs ls h4 h5 h6
  exact va_gets F.1 F.2.1 F.2.2.2.2.1.2.2.1.1 h5 F.2.2.2.1 (F.ts _ hlk) (fun _ z => z) hd (kk h1 (List.forall_mem_cons.mpr ⟨trivial, h2⟩) h3 H locs ls h4 h5 h6)
theorem r_gets1 {idx : Nat} (F : Fx g X cc own nL h) (hlk : Cond.fieldLink own idx "WorkOrders" "MOST_TRAIT" "[I" ∈ tb) (hd : decode cc pc = .ok (.getstatic idx, 3)) (kk : V g X nL μ lv (pc + 3) (Rv 113 :: st)) : V g X nL μ lv pc st := by
  intro h1 h2 h3 H locs ls h4 h5 h6
  exact va_gets F.1 F.2.1 F.2.2.2.2.1.2.2.2.1.1 h5 F.2.2.2.1 (F.ts _ hlk) (fun _ z => z) hd (kk h1 (List.forall_mem_cons.mpr ⟨trivial, h2⟩) h3 H locs ls h4 h5 h6)
theorem r_gets2N {idx : Nat} {host : String} (F : Fx g X cc own nL h) (hlk : Cond.fieldLinkNest own idx "WorkOrders" "FIRST_TRAIT" "[I" host ∈ tb) (hd : decode cc pc = .ok (.getstatic idx, 3)) (kk : V g X nL μ lv (pc + 3) (Rv 114 :: st)) : V g X nL μ lv pc st := by
  intro h1 h2 h3 H locs ls h4 h5 h6
  exact va_getsN F.1 F.2.1 F.2.2.2.2.1.2.2.2.2.1 h5 F.2.2.2.1 (F.ts _ hlk) (fun _ z => z) hd (kk h1 (List.forall_mem_cons.mpr ⟨trivial, h2⟩) h3 H locs ls h4 h5 h6)
theorem stv_rng {k j : Nat} : inR (stv k j) := by
  have h : ∀ l ∈ stT, ∀ x ∈ l, -2147483648 ≤ x ∧ x ≤ 2147483647 := by decide
  unfold stv inR
  rw [List.getD_eq_getElem?_getD]
  cases h1 : (stT.getD k [])[j]? with
  | none => exact ⟨by decide, by decide⟩
  | some x =>
    have hx := List.mem_of_getElem? h1
    rw [List.getD_eq_getElem?_getD] at hx
    cases h2 : stT[k]? with
    | none => rw [h2] at hx; cases hx
    | some l => rw [h2] at hx; exact h l (List.mem_of_getElem? h2) x hx
theorem r_tald0 (F : Fx g X cc own nL h) (hi : 0 ≤ a ∧ a < 5) (hd : decode cc pc = .ok (.iaload, 1)) (kk : V g X nL μ lv (pc + 1) (Iv (stv 0 a.toNat) :: st)) : V g X nL μ lv pc (Iv a :: Rv 112 :: st) := by
  intro h1 h2 h3 H locs ls h4 h5 h6
  have ha : inR a := (List.forall_mem_cons.mp h2).1
  have h2' := (List.forall_mem_cons.mp (List.forall_mem_cons.mp h2).2).2
  exact va_ti F.1 F.2.1 F.2.2.2.2.1.2.2.1.2 h5 (i32_in (n := 5) hi.1 hi.2 ha) (by rw [i32_clamp hi.1 ha]; rfl) hd (kk h1 (List.forall_mem_cons.mpr ⟨stv_rng, h2'⟩) h3 H locs ls h4 h5 h6)
theorem r_tald1 (F : Fx g X cc own nL h) (hi : 0 ≤ a ∧ a < 5) (hd : decode cc pc = .ok (.iaload, 1)) (kk : V g X nL μ lv (pc + 1) (Iv (stv 1 a.toNat) :: st)) : V g X nL μ lv pc (Iv a :: Rv 113 :: st) := by
  intro h1 h2 h3 H locs ls h4 h5 h6
  have ha : inR a := (List.forall_mem_cons.mp h2).1
  have h2' := (List.forall_mem_cons.mp (List.forall_mem_cons.mp h2).2).2
  exact va_ti F.1 F.2.1 F.2.2.2.2.1.2.2.2.1.2 h5 (i32_in (n := 5) hi.1 hi.2 ha) (by rw [i32_clamp hi.1 ha]; rfl) hd (kk h1 (List.forall_mem_cons.mpr ⟨stv_rng, h2'⟩) h3 H locs ls h4 h5 h6)
theorem r_tald2 (F : Fx g X cc own nL h) (hi : 0 ≤ a ∧ a < 5) (hd : decode cc pc = .ok (.iaload, 1)) (kk : V g X nL μ lv (pc + 1) (Iv (stv 2 a.toNat) :: st)) : V g X nL μ lv pc (Iv a :: Rv 114 :: st) := by
  intro h1 h2 h3 H locs ls h4 h5 h6
  have ha : inR a := (List.forall_mem_cons.mp h2).1
  have h2' := (List.forall_mem_cons.mp (List.forall_mem_cons.mp h2).2).2
  exact va_ti F.1 F.2.1 F.2.2.2.2.1.2.2.2.2.2 h5 (i32_in (n := 5) hi.1 hi.2 ha) (by rw [i32_clamp hi.1 ha]; rfl) hd (kk h1 (List.forall_mem_cons.mpr ⟨stv_rng, h2'⟩) h3 H locs ls h4 h5 h6)
/-- the length of an int array of the world -/
theorem r_alen {c n : Nat} (F : Fx g X cc own nL h) (hc1 : 24 ≤ c) (hc2 : c < 112) (hn : len c = n) (hn2 : n < 2147483648) (hd : decode cc pc = .ok (.arraylength, 1)) (kk : V g X nL μ lv (pc + 1) (Iv (n : Int) :: st)) : V g X nL μ lv pc (Rv c :: st) := by
  intro h1 h2 h3 H locs ls h4 h5 h6
  have h2' := (List.forall_mem_cons.mp h2).2
  refine va_alen (D := g.2.1) (ws := wsl g μ) F.1 F.2.1 F.2.2.2.2.1.2.1 h4.P c 0 (by rw [wsl_at hc2, ce_int hc1]) rfl (v := Int32.ofInt (n : Int)) ?_ hd (kk h1 (List.forall_mem_cons.mpr ⟨⟨by omega, by omega⟩, h2'⟩) h3 H locs ls h4 h5 h6)
  show Int32.ofNat (len c) = _
  rw [hn]
  exact Int32.toInt_inj.mp ((nI_toInt (n := n) (by omega)).trans (ofI_toInt (x := (n : Int)) ⟨by omega, by omega⟩).symm)
def cpm (μ : Mem) (c d sp dp n : Nat) : Mem := fun x => if x = d then (fun j => if dp ≤ j ∧ j < dp + n then μ c (sp + (j - dp)) else μ d j) else μ x
theorem r_copy {idx c d n0 n1 : Nat} {sp dp n : Int} (F : Fx g X cc own nL h) (hh : 1 ≤ h) (hlk : Cond.methodLink own idx arraycopyName ∈ tb) (hnat : Cond.native arraycopyName ∈ tb) (hs : Cond.static arraycopyName ∈ tb) (hi : Cond.initialized "java/lang/System" ∈ tb)
    (hc1 : 24 ≤ c) (hc2 : c < 112) (hd1 : 24 ≤ d) (hd2 : d < 112) (hn0 : len c = n0) (hn1 : len d = n1) (hg : (0 ≤ sp ∧ 0 ≤ dp) ∧ 0 ≤ n ∧ sp + n ≤ n0 ∧ dp + n ≤ n1) (hst : catS st ≤ 8) (hd : decode cc pc = .ok (.invokestatic idx, 3))
    (kk : V g X nL (cpm μ c d sp.toNat dp.toNat n.toNat) lv (pc + 3) st) : V g X nL μ lv pc (Iv n :: Iv dp :: Rv d :: Iv sp :: Rv c :: st) := by
  intro h1 h2 h3 H locs ls h4 h5 h6
  have q1 := List.forall_mem_cons.mp h2
  have q2 := List.forall_mem_cons.mp q1.2
  have q3 := List.forall_mem_cons.mp q2.2
  have q4 := List.forall_mem_cons.mp q3.2
  have q5 := List.forall_mem_cons.mp q4.2
  have hn : inR n := q1.1
  have hdp : inR dp := q2.1
  have hsp : inR sp := q4.1
  have hF := F.2.2.2.2.2.1
  have c1 := i32_clamp hg.1.1 hsp
  have c2 := i32_clamp hg.1.2 hdp
  have c3 := i32_clamp hg.2.1 hn
  have nn : ∀ {x : Int}, inR x → 0 ≤ x → ¬ Int32.ofInt x < 0 := fun {x} hx h0 q => by
    have := (i32_lt hx inR0).mp q
    omega
  refine va_copyi (D := g.2.1) (ws := wsl g μ) (ty := .int) F.1 F.2.1 (F.2.2.1.trans h6.1.symm) F.2.2.2.1 (F.ts _ hlk) (F.ts _ hnat) (F.ts _ hs) (F.ts _ hi) F.2.2.2.2.1.2.1 h4.P h4.D h5 c d 0 0 (by rw [wsl_at hc2, ce_int hc1]) (by rw [wsl_at hd2, ce_int hd1]) rfl rfl rfl (nn hsp hg.1.1) (nn hdp hg.1.2) (nn hn hg.2.1)
    (by rw [c1, c3, hn0]; omega) (by rw [c2, c3, hn1]; omega) (fun _ _ => rfl) (by omega) ?_ hd (fun H1 locs1 hP hD hS => ?_)
  · rw [catS_eq]
    have : nativeFrameWords "java/lang/System" "arraycopy" 5 ≤ 20 := by decide +kernel
    omega
  · have e : (wsl g μ).set d (g.1 d, .inl (g.2.2.1, len d, .inl (va_cpy (fun i => Int32.ofInt (μ c i)) (fun i => Int32.ofInt (μ d i)) (Int32.ofInt sp).toNatClampNeg (Int32.ofInt dp).toNatClampNeg (Int32.ofInt n).toNatClampNeg))) = wsl g (cpm μ c d sp.toNat dp.toNat n.toNat) := by
      refine wsl_set hd2 (fun x hx => by unfold cpm; rw [if_neg hx]) ?_
      rw [ce_int hd1, c1, c2, c3]
      congr 4
      funext j
      unfold cpm
      rw [if_pos rfl]
      by_cases hj : dp.toNat ≤ j ∧ j < dp.toNat + n.toNat
      · rw [pk_cpy_in hj.1 hj.2]; simp only [hj, and_self, if_true]
      · rw [pk_cpy_out (by omega)]; simp only [hj, if_false]
    rw [e] at hP
    refine kk h1 q5.2 ?_ H1 locs1 ls (h4.of hP) hS h6
    intro x j
    unfold cpm
    by_cases hx : x = d
    · rw [if_pos hx]
      by_cases hj : dp.toNat ≤ j ∧ j < dp.toNat + n.toNat
      · simp only [hj, and_self, if_true]; exact h3 c _
      · simp only [hj, if_false]; exact h3 d _
    · rw [if_neg hx]; exact h3 x j
/-- what of a callee's name and place is the same at every call -/
def Cal (y : MethodName) (bytes : ByteArray) (maxL : Nat) (ret : Option FieldType) (n : Nat) : Prop :=
  Cond.code y bytes maxL ret ∈ tb ∧ Cond.initialized y.cls ∈ tb ∧ (y.cls ≠ "java/lang/invoke/MethodHandle" ∧ y.cls ≠ "java/lang/invoke/VarHandle" ∧ (parseMethodDescriptor y.desc).map (fun d => d.parameters.length) = some n) ∧ maxL ≤ 20
def CalV (y : MethodName) (c ci : Nat) (C : String) : Prop := Cond.instanceMethod y ∈ tb ∧ Cond.selects C y y ∈ tb ∧ c < 112 ∧ (∃ o, objT[c]? = some (ci, o)) ∧ ∃ T N, vwCl[ci]? = some (C, T, N)
theorem good1 {y : MethodName} {bytes : ByteArray} {maxL n : Nat} {ret : Option FieldType} (hC : Cal y bytes maxL ret n) : GoodIn tb [Cond.code y bytes maxL ret] := fun w hw => by
  rw [List.mem_singleton.mp hw]
  exact ⟨hC.1, Or.inl rfl⟩
theorem blind (g : Wc) (avs : List AV) (μ : Mem) : FrameBlind (fun a U => a = (avs.map (cv g.1)).toArray ∧ Wd g μ U) := fun a U fr mk q => ⟨q.1, ⟨fun w hw => word_mv (s := U) (U := U.calling fr mk a) hw (State.WarmedH.refl U) (q.2.1.1 w hw), va_K.moved (u := U) (U := U.calling fr mk a) (Vm.Alike.refl U.vm) q.2.1.2.1, Zs.mv (s := U) (U := U.calling fr mk a) (Vm.Alike.refl U.vm) (fun _ _ _ => rfl) q.2.1.2.2⟩, q.2.2⟩
theorem preS {avs : List AV} {H : Heap} {locs : List Loc} (F : Fx g X cc own nL h) (h3 : RngM μ) (h4 : HW g μ H) (h5 : va_S (Aq g) X.2.1.1.heap H locs) : PreS X.2.1.1 H (fun a U => a = (avs.map (cv g.1)).toArray ∧ Wd g μ U) (avs.map (cv g.1)) :=
  ⟨blind g avs μ, fun U hU hW => ⟨rfl, Sd.mv hW h5 hU F.2.2.2.2.1, by rw [hU]; exact h4, h3⟩⟩
theorem preV {c ci : Nat} {y : MethodName} {C : String} {avs : List AV} {H : Heap} {locs : List Loc} (F : Fx g X cc own nL h) (hV : CalV y c ci C) (h3 : RngM μ) (h4 : HW g μ H) (h5 : va_S (Aq g) X.2.1.1.heap H locs) : PreV X.2.1.1 H C (g.1 c) (fun a U => a = ((Rv c :: avs).map (cv g.1)).toArray ∧ Wd g μ U) (avs.map (cv g.1)) := by
  obtain ⟨-, -, hc, ⟨o, ho⟩, T, N, hcl⟩ := hV
  exact ⟨blind g (Rv c :: avs) μ, va_recv F.2.2.2.2.1.2.1 h4.P (ci := ci) (q0 := c) hcl (by rw [wsl_at hc, ce_obj ho]), fun U hU hW => ⟨rfl, Sd.mv hW h5 hU F.2.2.2.2.1, by rw [hU]; exact h4, h3⟩⟩
theorem cbOf {y : MethodName} {bytes : ByteArray} {maxL idx n h' : Nat} {ret : Option FieldType} (F : Fx g X cc own nL h) (hC : Cal y bytes maxL ret n) (hh : h' < h) (hlk : Cond.methodLink own idx y ∈ tb) :
    CallB X.1.2.2.2 X.2.1.1 X.2.1.2.2.1 own idx y bytes maxL ret [Cond.code y bytes maxL ret] { frames := h', cells := 0, slots := 0, locals := 41 * h' } 0 0 n := by
  have hF := F.2.2.2.2.2.1
  have hm := hC.2.2.2
  exact callB_of n F.ts (good1 hC) rfl rfl rfl (F.ts _ hC.2.1) (F.ts _ hlk) hC.2.2.1 ⟨by show h' + 1 ≤ _; omega, by show 8 + (maxL + 11) + 41 * h' ≤ _; omega⟩
theorem cnOf {y : MethodName} {bytes : ByteArray} {maxL idx n h' : Nat} {host : String} {ret : Option FieldType} (F : Fx g X cc own nL h) (hC : Cal y bytes maxL ret n) (hh : h' < h) (hlk : Cond.methodLinkNest own idx y host ∈ tb) :
    va_CN X.1.2.2.2 X.2.1.1 X.2.1.2.2.1 own idx y host bytes maxL ret [Cond.code y bytes maxL ret] { frames := h', cells := 0, slots := 0, locals := 41 * h' } 0 0 n := by
  have hF := F.2.2.2.2.2.1
  have hm := hC.2.2.2
  exact va_cnB n F.ts (good1 hC) rfl rfl rfl (F.2.2.2.2.1.1 _ hlk #[]) (F.ts _ hC.2.1) hC.2.2.1 ⟨by show h' + 1 ≤ _; omega, by show 8 + (maxL + 11) + 41 * h' ≤ _; omega⟩
theorem roomOk (hst : catS st ≤ 8) {m : MethodId} {ls : Array Slot} {st0 : List Value} : 2 * (F0 m pc ls st0).monitorRoom + ((st.map (cv g.1)).map fun v => v.category).sum ≤ 8 := lv_room (by rw [catS_eq]; exact hst)
theorem r_callI {c ci idx n h' maxL : Nat} {y : MethodName} {bytes : ByteArray} {ret : Option FieldType} {C : String} {avs sr : List AV} (F : Fx g X cc own nL h) (hM : MtC g X.1.2.1 y bytes maxL ret h' (Rv c :: avs) μ (QI g Post)) (hh : h' < h) (hC : Cal y bytes maxL ret n) (hV : CalV y c ci C) (hlk : Cond.methodLink own idx y ∈ tb) (hn : avs.length = n) (hsr : sr = avs.reverse ++ Rv c :: st) (hst : catS st ≤ 8)
    (hd : decode cc pc = .ok (.invokevirtual idx, 3)) (kk : ∀ r μ', Post r μ' → V g X nL μ' lv (pc + 3) (Iv r :: st)) : V g X nL μ lv pc sr := by
  subst hsr
  intro h1 h2 h3 H locs ls h4 h5 h6
  have h2' : ∀ a ∈ st, okA a := fun a ha => h2 a (List.mem_append_right _ (List.mem_cons_of_mem _ ha))
  have hF := F.2.2.2.2.2.1
  have hM := hM (List.forall_mem_cons.mpr ⟨trivial, fun a ha => h2 a (List.mem_append_left _ (List.mem_reverse.mpr ha))⟩)
  refine va_calli (va_runV (As := avs.map (cv g.1)) (rest := st.map (cv g.1)) (b := g.1 c) ⟨F.1, F.2.1, F.2.2.1, F.2.2.2.1, F.ts⟩ hM ⟨cbOf F hC hh hlk, F.ts _ hV.1, F.ts _ hV.2.1⟩ (preV F hV h3 h4 h5) rfl (by rw [List.length_map]; exact hn) h6.1 (by show List.map _ _ = _; rw [List.map_append, List.map_reverse]; rfl) (roomOk hst) hd ⟨hF.2.2.1, hF.2.2.2⟩) h5 (fun _ _ z => z) (fun _ z => z) (fun r u t H1 locs1 ht hvm hp hB _ _ hS => ?_)
  obtain ⟨r0, μ'⟩ := u
  obtain ⟨rfl, hr0, hpost⟩ := hp
  refine kk r0 μ' hpost h1 (List.forall_mem_cons.mpr ⟨hr0, h2'⟩) hB.2.2 H1 locs1 ls (by rw [← ht]; exact hB.2.1) hS h6
theorem r_callL {c ci idx n h' maxL : Nat} {y : MethodName} {bytes : ByteArray} {ret : Option FieldType} {C : String} {avs sr : List AV} (F : Fx g X cc own nL h) (hM : MtC g X.1.2.1 y bytes maxL ret h' (Rv c :: avs) μ (QL g Post)) (hh : h' < h) (hC : Cal y bytes maxL ret n) (hV : CalV y c ci C) (hlk : Cond.methodLink own idx y ∈ tb) (hn : avs.length = n) (hsr : sr = avs.reverse ++ Rv c :: st) (hst : catS st ≤ 8)
    (hd : decode cc pc = .ok (.invokevirtual idx, 3)) (kk : ∀ r μ', Post r μ' → V g X nL μ' lv (pc + 3) (Lv r :: st)) : V g X nL μ lv pc sr := by
  subst hsr
  intro h1 h2 h3 H locs ls h4 h5 h6
  have h2' : ∀ a ∈ st, okA a := fun a ha => h2 a (List.mem_append_right _ (List.mem_cons_of_mem _ ha))
  have hF := F.2.2.2.2.2.1
  have hM := hM (List.forall_mem_cons.mpr ⟨trivial, fun a ha => h2 a (List.mem_append_left _ (List.mem_reverse.mpr ha))⟩)
  refine va_calll (va_runV (As := avs.map (cv g.1)) (rest := st.map (cv g.1)) (b := g.1 c) ⟨F.1, F.2.1, F.2.2.1, F.2.2.2.1, F.ts⟩ hM ⟨cbOf F hC hh hlk, F.ts _ hV.1, F.ts _ hV.2.1⟩ (preV F hV h3 h4 h5) rfl (by rw [List.length_map]; exact hn) h6.1 (by show List.map _ _ = _; rw [List.map_append, List.map_reverse]; rfl) (roomOk hst) hd ⟨hF.2.2.1, hF.2.2.2⟩) h5 (fun _ _ z => z) (fun _ z => z) (fun r u t H1 locs1 ht hvm hp hB _ _ hS => ?_)
  obtain ⟨r0, μ'⟩ := u
  obtain ⟨rfl, hr0, hpost⟩ := hp
  refine kk r0 μ' hpost h1 (List.forall_mem_cons.mpr ⟨hr0, h2'⟩) hB.2.2 H1 locs1 ls (by rw [← ht]; exact hB.2.1) hS h6
theorem r_callV {c ci idx n h' maxL : Nat} {y : MethodName} {bytes : ByteArray} {ret : Option FieldType} {C : String} {avs sr : List AV} (F : Fx g X cc own nL h) (hM : MtC g X.1.2.1 y bytes maxL ret h' (Rv c :: avs) μ (QV g Post)) (hh : h' < h) (hC : Cal y bytes maxL ret n) (hV : CalV y c ci C) (hlk : Cond.methodLink own idx y ∈ tb) (hn : avs.length = n) (hsr : sr = avs.reverse ++ Rv c :: st) (hst : catS st ≤ 8)
    (hd : decode cc pc = .ok (.invokevirtual idx, 3)) (kk : ∀ μ', Post 0 μ' → V g X nL μ' lv (pc + 3) st) : V g X nL μ lv pc sr := by
  subst hsr
  intro h1 h2 h3 H locs ls h4 h5 h6
  have h2' : ∀ a ∈ st, okA a := fun a ha => h2 a (List.mem_append_right _ (List.mem_cons_of_mem _ ha))
  have hF := F.2.2.2.2.2.1
  have hM := hM (List.forall_mem_cons.mpr ⟨trivial, fun a ha => h2 a (List.mem_append_left _ (List.mem_reverse.mpr ha))⟩)
  refine va_callv (va_runV (As := avs.map (cv g.1)) (rest := st.map (cv g.1)) (b := g.1 c) ⟨F.1, F.2.1, F.2.2.1, F.2.2.2.1, F.ts⟩ hM ⟨cbOf F hC hh hlk, F.ts _ hV.1, F.ts _ hV.2.1⟩ (preV F hV h3 h4 h5) rfl (by rw [List.length_map]; exact hn) h6.1 (by show List.map _ _ = _; rw [List.map_append, List.map_reverse]; rfl) (roomOk hst) hd ⟨hF.2.2.1, hF.2.2.2⟩) h5 (fun _ _ z => z) (fun _ z => z) (fun u t H1 locs1 ht hvm hp hB _ _ hS => ?_)
  exact kk u hp h1 h2' hB.2.2 H1 locs1 ls (by rw [← ht]; exact hB.2.1) hS h6
theorem r_callSI {idx n h' maxL : Nat} {y : MethodName} {bytes : ByteArray} {ret : Option FieldType} {avs sr : List AV} (F : Fx g X cc own nL h) (hM : MtC g X.1.2.1 y bytes maxL ret h' avs μ (QI g Post)) (hh : h' < h) (hC : Cal y bytes maxL ret n) (hs : Cond.static y ∈ tb) (hlk : Cond.methodLink own idx y ∈ tb) (hn : avs.length = n) (hsr : sr = avs.reverse ++ st) (hst : catS st ≤ 8)
    (hd : decode cc pc = .ok (.invokestatic idx, 3)) (kk : ∀ r μ', Post r μ' → V g X nL μ' lv (pc + 3) (Iv r :: st)) : V g X nL μ lv pc sr := by
  subst hsr
  intro h1 h2 h3 H locs ls h4 h5 h6
  have h2' : ∀ a ∈ st, okA a := fun a ha => h2 a (List.mem_append_right _ ha)
  have hF := F.2.2.2.2.2.1
  have hM := hM (fun a ha => h2 a (List.mem_append_left _ (List.mem_reverse.mpr ha)))
  refine va_calli (va_runS (As := avs.map (cv g.1)) (rest := st.map (cv g.1)) ⟨F.1, F.2.1, F.2.2.1, F.2.2.2.1, F.ts⟩ hM ⟨cbOf F hC hh hlk, F.ts _ hs⟩ (preS F h3 h4 h5) rfl (by rw [List.length_map]; exact hn) h6.1 (by show List.map _ _ = _; rw [List.map_append, List.map_reverse]) (roomOk hst) hd ⟨hF.2.2.1, hF.2.2.2⟩) h5 (fun _ _ z => z) (fun _ z => z) (fun r u t H1 locs1 ht hvm hp hB _ _ hS => ?_)
  obtain ⟨r0, μ'⟩ := u
  obtain ⟨rfl, hr0, hpost⟩ := hp
  refine kk r0 μ' hpost h1 (List.forall_mem_cons.mpr ⟨hr0, h2'⟩) hB.2.2 H1 locs1 ls (by rw [← ht]; exact hB.2.1) hS h6
theorem r_callSL {idx n h' maxL : Nat} {y : MethodName} {bytes : ByteArray} {ret : Option FieldType} {avs sr : List AV} (F : Fx g X cc own nL h) (hM : MtC g X.1.2.1 y bytes maxL ret h' avs μ (QL g Post)) (hh : h' < h) (hC : Cal y bytes maxL ret n) (hs : Cond.static y ∈ tb) (hlk : Cond.methodLink own idx y ∈ tb) (hn : avs.length = n) (hsr : sr = avs.reverse ++ st) (hst : catS st ≤ 8)
    (hd : decode cc pc = .ok (.invokestatic idx, 3)) (kk : ∀ r μ', Post r μ' → V g X nL μ' lv (pc + 3) (Lv r :: st)) : V g X nL μ lv pc sr := by
  subst hsr
  intro h1 h2 h3 H locs ls h4 h5 h6
  have h2' : ∀ a ∈ st, okA a := fun a ha => h2 a (List.mem_append_right _ ha)
  have hF := F.2.2.2.2.2.1
  have hM := hM (fun a ha => h2 a (List.mem_append_left _ (List.mem_reverse.mpr ha)))
  refine va_calll (va_runS (As := avs.map (cv g.1)) (rest := st.map (cv g.1)) ⟨F.1, F.2.1, F.2.2.1, F.2.2.2.1, F.ts⟩ hM ⟨cbOf F hC hh hlk, F.ts _ hs⟩ (preS F h3 h4 h5) rfl (by rw [List.length_map]; exact hn) h6.1 (by show List.map _ _ = _; rw [List.map_append, List.map_reverse]) (roomOk hst) hd ⟨hF.2.2.1, hF.2.2.2⟩) h5 (fun _ _ z => z) (fun _ z => z) (fun r u t H1 locs1 ht hvm hp hB _ _ hS => ?_)
  obtain ⟨r0, μ'⟩ := u
  obtain ⟨rfl, hr0, hpost⟩ := hp
  refine kk r0 μ' hpost h1 (List.forall_mem_cons.mpr ⟨hr0, h2'⟩) hB.2.2 H1 locs1 ls (by rw [← ht]; exact hB.2.1) hS h6
theorem r_callSV {idx n h' maxL : Nat} {y : MethodName} {bytes : ByteArray} {ret : Option FieldType} {avs sr : List AV} (F : Fx g X cc own nL h) (hM : MtC g X.1.2.1 y bytes maxL ret h' avs μ (QV g Post)) (hh : h' < h) (hC : Cal y bytes maxL ret n) (hs : Cond.static y ∈ tb) (hlk : Cond.methodLink own idx y ∈ tb) (hn : avs.length = n) (hsr : sr = avs.reverse ++ st) (hst : catS st ≤ 8)
    (hd : decode cc pc = .ok (.invokestatic idx, 3)) (kk : ∀ μ', Post 0 μ' → V g X nL μ' lv (pc + 3) st) : V g X nL μ lv pc sr := by
  subst hsr
  intro h1 h2 h3 H locs ls h4 h5 h6
  have h2' : ∀ a ∈ st, okA a := fun a ha => h2 a (List.mem_append_right _ ha)
  have hF := F.2.2.2.2.2.1
  have hM := hM (fun a ha => h2 a (List.mem_append_left _ (List.mem_reverse.mpr ha)))
  refine va_callv (va_runS (As := avs.map (cv g.1)) (rest := st.map (cv g.1)) ⟨F.1, F.2.1, F.2.2.1, F.2.2.2.1, F.ts⟩ hM ⟨cbOf F hC hh hlk, F.ts _ hs⟩ (preS F h3 h4 h5) rfl (by rw [List.length_map]; exact hn) h6.1 (by show List.map _ _ = _; rw [List.map_append, List.map_reverse]) (roomOk hst) hd ⟨hF.2.2.1, hF.2.2.2⟩) h5 (fun _ _ z => z) (fun _ z => z) (fun u t H1 locs1 ht hvm hp hB _ _ hS => ?_)
  exact kk u hp h1 h2' hB.2.2 H1 locs1 ls (by rw [← ht]; exact hB.2.1) hS h6
theorem r_callNI {idx n h' maxL : Nat} {y : MethodName} {host : String} {bytes : ByteArray} {ret : Option FieldType} {avs sr : List AV} (F : Fx g X cc own nL h) (hM : MtC g X.1.2.1 y bytes maxL ret h' avs μ (QI g Post)) (hh : h' < h) (hC : Cal y bytes maxL ret n) (hs : Cond.static y ∈ tb) (hlk : Cond.methodLinkNest own idx y host ∈ tb) (hn : avs.length = n) (hsr : sr = avs.reverse ++ st) (hst : catS st ≤ 8)
    (hd : decode cc pc = .ok (.invokestatic idx, 3)) (kk : ∀ r μ', Post r μ' → V g X nL μ' lv (pc + 3) (Iv r :: st)) : V g X nL μ lv pc sr := by
  subst hsr
  intro h1 h2 h3 H locs ls h4 h5 h6
  have h2' : ∀ a ∈ st, okA a := fun a ha => h2 a (List.mem_append_right _ ha)
  have hF := F.2.2.2.2.2.1
  have hM := hM (fun a ha => h2 a (List.mem_append_left _ (List.mem_reverse.mpr ha)))
  refine va_calli (va_runSN (As := avs.map (cv g.1)) (rest := st.map (cv g.1)) ⟨F.1, F.2.1, F.2.2.1, F.2.2.2.1, F.ts⟩ hM ⟨cnOf F hC hh hlk, F.ts _ hs, trivial⟩ (preS F h3 h4 h5) rfl (by rw [List.length_map]; exact hn) h6.1 (by show List.map _ _ = _; rw [List.map_append, List.map_reverse]) (roomOk hst) hd ⟨hF.2.2.1, hF.2.2.2⟩) h5 (fun _ _ z => z) (fun _ z => z) (fun r u t H1 locs1 ht hvm hp hB _ _ hS => ?_)
  obtain ⟨r0, μ'⟩ := u
  obtain ⟨rfl, hr0, hpost⟩ := hp
  refine kk r0 μ' hpost h1 (List.forall_mem_cons.mpr ⟨hr0, h2'⟩) hB.2.2 H1 locs1 ls (by rw [← ht]; exact hB.2.1) hS h6
theorem r_callNL {idx n h' maxL : Nat} {y : MethodName} {host : String} {bytes : ByteArray} {ret : Option FieldType} {avs sr : List AV} (F : Fx g X cc own nL h) (hM : MtC g X.1.2.1 y bytes maxL ret h' avs μ (QL g Post)) (hh : h' < h) (hC : Cal y bytes maxL ret n) (hs : Cond.static y ∈ tb) (hlk : Cond.methodLinkNest own idx y host ∈ tb) (hn : avs.length = n) (hsr : sr = avs.reverse ++ st) (hst : catS st ≤ 8)
    (hd : decode cc pc = .ok (.invokestatic idx, 3)) (kk : ∀ r μ', Post r μ' → V g X nL μ' lv (pc + 3) (Lv r :: st)) : V g X nL μ lv pc sr := by
  subst hsr
  intro h1 h2 h3 H locs ls h4 h5 h6
  have h2' : ∀ a ∈ st, okA a := fun a ha => h2 a (List.mem_append_right _ ha)
  have hF := F.2.2.2.2.2.1
  have hM := hM (fun a ha => h2 a (List.mem_append_left _ (List.mem_reverse.mpr ha)))
  refine va_calll (va_runSN (As := avs.map (cv g.1)) (rest := st.map (cv g.1)) ⟨F.1, F.2.1, F.2.2.1, F.2.2.2.1, F.ts⟩ hM ⟨cnOf F hC hh hlk, F.ts _ hs, trivial⟩ (preS F h3 h4 h5) rfl (by rw [List.length_map]; exact hn) h6.1 (by show List.map _ _ = _; rw [List.map_append, List.map_reverse]) (roomOk hst) hd ⟨hF.2.2.1, hF.2.2.2⟩) h5 (fun _ _ z => z) (fun _ z => z) (fun r u t H1 locs1 ht hvm hp hB _ _ hS => ?_)
  obtain ⟨r0, μ'⟩ := u
  obtain ⟨rfl, hr0, hpost⟩ := hp
  refine kk r0 μ' hpost h1 (List.forall_mem_cons.mpr ⟨hr0, h2'⟩) hB.2.2 H1 locs1 ls (by rw [← ht]; exact hB.2.1) hS h6
end RowsE
