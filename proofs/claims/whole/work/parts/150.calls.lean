/-! Statics, constants, Math, returns, entries, calls. -/
abbrev Pst : Type := Int → Mem → Prop
def QI (g : Wc) (Post : Pst) : Array Value → State → Outcome → State → Prop := va_Qi (S := Int × Mem) (fun r u => r = Int32.ofInt u.1 ∧ inR u.1 ∧ Post u.1 u.2) (fun u t => Wd g u.2 t) (Aq g)
def QL (g : Wc) (Post : Pst) : Array Value → State → Outcome → State → Prop := va_Ql (S := Int × Mem) (fun r u => r = Int64.ofInt u.1 ∧ inRL u.1 ∧ Post u.1 u.2) (fun u t => Wd g u.2 t) (Aq g)
def QV (g : Wc) (Post : Pst) : Array Value → State → Outcome → State → Prop := va_Qv (S := Mem) (fun u => Post 0 u) (fun u t => Wd g u t) (Aq g)
def Rt (g : Wc) (X : Cx) (Qc : Array Value → State → Outcome → State → Prop) : Prop := X.2.2.1.2.2 = MQ X.2.1.2.2.2 Qc X.2.1.2.2.1 X.2.1.1 X.2.2.2.1 X.2.2.2.2 (Aq g)
def Mt (g : Wc) (l : Launch) (y : MethodName) (cc : ByteArray) (nL : Nat) (ret : Option FieldType) (h : Nat) (avs : List AV) (μ : Mem) (Qc : Array Value → State → Outcome → State → Prop) : Prop :=
  Met l y [.code y cc nL ret] { frames := h, cells := 0, slots := 0, locals := 41 * h } (fun a U => a = (avs.map (cv g.1)).toArray ∧ Wd g μ U) Qc 0 0 (Aq g)
/-- a contract, for arguments that are in range -/
def MtC (g : Wc) (l : Launch) (y : MethodName) (cc : ByteArray) (nL : Nat) (ret : Option FieldType) (h : Nat) (avs : List AV) (μ : Mem) (Qc : Array Value → State → Outcome → State → Prop) : Prop := (∀ a ∈ avs, okA a) → Mt g l y cc nL ret h avs μ Qc
def lva : Nat → List AV → List (Nat × AV)
  | _, [] => []
  | k, a :: r => (k, a) :: lva (k + (if isL a then 2 else 1)) r
theorem lva_eq (g : Wc) : ∀ (k : Nat) (avs : List AV), lv_args k (avs.map (cv g.1)) = cvl g (lva k avs)
  | _, [] => rfl
  | k, a :: r => by
    have ih := fun k => lva_eq g k r
    rcases a with a | a | a
    · show _ :: lv_args (k + 1) _ = _ :: cvl g (lva (k + 1) r)
      rw [ih]
    · show _ :: lv_args (k + 2) _ = _ :: cvl g (lva (k + 2) r)
      rw [ih]
    · show _ :: lv_args (k + 1) _ = _ :: cvl g (lva (k + 1) r)
      rw [ih]
theorem lva_ok : ∀ (k : Nat) (avs : List AV), (∀ a ∈ avs, okA a) → ∀ q ∈ lva k avs, okA q.2
  | _, [], _ => fun q h => by cases h
  | k, a :: r, h => by
    have h' := List.forall_mem_cons.mp h
    exact List.forall_mem_cons.mpr ⟨h'.1, lva_ok _ r h'.2⟩
section RowsD
variable {g : Wc} {X : Cx} {cc : ByteArray} {own : String} {nL h : Nat} {μ : Mem} {lv : List (Nat × AV)} {pc : Nat} {st : List AV} {a b : Int} {Post : Pst}
theorem r_iret (F : Fx g X cc own nL h) (hR : Rt g X (QI g Post)) (hr : X.2.2.1.1.sig.returnType = some .int) (hd : decode cc pc = .ok (.ireturn, 1)) (hp : Post a μ) : V g X nL μ lv pc [Iv a] := by
  intro h1 h2 h3 H locs ls h4 h5 h6
  obtain ⟨⟨p, l, e, R⟩, ⟨s, m, args, below⟩, ⟨meth, c, Q⟩, ⟨kc, ks⟩⟩ := X
  have hQ : Q = MQ below (QI g Post) args s kc ks (Aq g) := hR
  subst hQ
  have ha : inR a := (List.forall_mem_cons.mp h2).1
  exact W.iret (v := Int32.ofInt a) F.1 F.2.1 hr (fun t ht hW => ⟨⟨Int32.ofInt a, (a, μ), rfl, ⟨rfl, ha, hp⟩, Sd.mv hW h5 ht F.2.2.2.2.1, by rw [ht]; exact h4, h3⟩, h5.F ht⟩) h5.2.2 hd F.2.2.2.2.2.2
theorem r_zret (F : Fx g X cc own nL h) (hR : Rt g X (QI g Post)) (hr : X.2.2.1.1.sig.returnType = some .boolean) (hd : decode cc pc = .ok (.ireturn, 1)) (h01 : a = 0 ∨ a = 1) (hp : Post a μ) : V g X nL μ lv pc [Iv a] := by
  intro h1 h2 h3 H locs ls h4 h5 h6
  obtain ⟨⟨p, l, e, R⟩, ⟨s, m, args, below⟩, ⟨meth, c, Q⟩, ⟨kc, ks⟩⟩ := X
  have hQ : Q = MQ below (QI g Post) args s kc ks (Aq g) := hR
  subst hQ
  have ha : inR a := (List.forall_mem_cons.mp h2).1
  exact W.zret (ty := .boolean) (v := Int32.ofInt a) F.1 F.2.1 hr (by rcases h01 with rfl | rfl <;> rfl) (fun t ht hW => ⟨⟨Int32.ofInt a, (a, μ), rfl, ⟨rfl, ha, hp⟩, Sd.mv hW h5 ht F.2.2.2.2.1, by rw [ht]; exact h4, h3⟩, h5.F ht⟩) h5.2.2 hd F.2.2.2.2.2.2
theorem r_lret (F : Fx g X cc own nL h) (hR : Rt g X (QL g Post)) (hr : X.2.2.1.1.sig.returnType = some .long) (hd : decode cc pc = .ok (.lreturn, 1)) (hp : Post a μ) : V g X nL μ lv pc [Lv a] := by
  intro h1 h2 h3 H locs ls h4 h5 h6
  obtain ⟨⟨p, l, e, R⟩, ⟨s, m, args, below⟩, ⟨meth, c, Q⟩, ⟨kc, ks⟩⟩ := X
  have hQ : Q = MQ below (QL g Post) args s kc ks (Aq g) := hR
  subst hQ
  have ha : inRL a := (List.forall_mem_cons.mp h2).1
  exact W.lret (v := Int64.ofInt a) F.1 F.2.1 hr (fun t ht hW => ⟨⟨Int64.ofInt a, (a, μ), rfl, ⟨rfl, ha, hp⟩, Sd.mv hW h5 ht F.2.2.2.2.1, by rw [ht]; exact h4, h3⟩, h5.F ht⟩) h5.2.2 hd F.2.2.2.2.2.2
theorem r_vret (F : Fx g X cc own nL h) (hR : Rt g X (QV g Post)) (hr : X.2.2.1.1.sig.returnType = none) (hd : decode cc pc = .ok (.return_, 1)) (hp : Post 0 μ) : V g X nL μ lv pc [] := by
  intro h1 h2 h3 H locs ls h4 h5 h6
  obtain ⟨⟨p, l, e, R⟩, ⟨s, m, args, below⟩, ⟨meth, c, Q⟩, ⟨kc, ks⟩⟩ := X
  have hQ : Q = MQ below (QV g Post) args s kc ks (Aq g) := hR
  subst hQ
  exact W.vret F.1 F.2.1 hr (fun t ht hW => ⟨⟨μ, rfl, hp, Sd.mv hW h5 ht F.2.2.2.2.1, by rw [ht]; exact h4, h3⟩, h5.F ht⟩) h5.2.2 hd F.2.2.2.2.2.2
theorem r_ldc {idx : Nat} {v : Int32} {x : Int} (F : Fx g X cc own nL h) (hw : Cond.constant own idx v ∈ tb) (hv : v = Int32.ofInt x) (hx : inR x) (hd : decode cc pc = .ok (.ldc idx, 2)) (kk : V g X nL μ lv (pc + 2) (Iv x :: st)) : V g X nL μ lv pc st := by
  intro h1 h2 h3 H locs ls h4 h5 h6
  subst hv
  exact lv_ldc F.1 F.2.1 F.2.2.2.1 (F.ts _ hw) hd (kk h1 (List.forall_mem_cons.mpr ⟨hx, h2⟩) h3 H locs ls h4 h5 h6)
theorem r_ldcw {idx : Nat} {v : Int32} {x : Int} (F : Fx g X cc own nL h) (hw : Cond.constant own idx v ∈ tb) (hv : v = Int32.ofInt x) (hx : inR x) (hd : decode cc pc = .ok (.ldc_w idx, 3)) (kk : V g X nL μ lv (pc + 3) (Iv x :: st)) : V g X nL μ lv pc st := by
  intro h1 h2 h3 H locs ls h4 h5 h6
  subst hv
  exact lv_ldcw F.1 F.2.1 F.2.2.2.1 (F.ts _ hw) hd (kk h1 (List.forall_mem_cons.mpr ⟨hx, h2⟩) h3 H locs ls h4 h5 h6)
theorem r_ldc2 {idx : Nat} {v : Int64} {x : Int} (F : Fx g X cc own nL h) (hw : Cond.constantLong own idx v ∈ tb) (hv : v = Int64.ofInt x) (hx : inRL x) (hd : decode cc pc = .ok (.ldc2_w idx, 3)) (kk : V g X nL μ lv (pc + 3) (Lv x :: st)) : V g X nL μ lv pc st := by
  intro h1 h2 h3 H locs ls h4 h5 h6
  subst hv
  exact lv_ldc2 F.1 F.2.1 F.2.2.2.1 (F.ts _ hw) hd (kk h1 (List.forall_mem_cons.mpr ⟨hx, h2⟩) h3 H locs ls h4 h5 h6)
theorem imax_rng {a b : Int} (ha : inR a) (hb : inR b) : inR (imax a b) := by unfold imax; split <;> assumption
theorem imin_rng {a b : Int} (ha : inR a) (hb : inR b) : inR (imin a b) := by unfold imin; split <;> assumption
theorem r_max {idx : Nat} (F : Fx g X cc own nL h) (hh : 1 ≤ h) (hlk : Cond.methodLink own idx Lib.Math.max.name ∈ tb) (hs : Cond.static Lib.Math.max.name ∈ tb) (hi : Cond.initialized "java/lang/Math" ∈ tb) (hc : Cond.code Lib.Math.max.name Lib.Math.max.code 2 (some .int) ∈ tb) (hst : catS st ≤ 8) (hd : decode cc pc = .ok (.invokestatic idx, 3)) (kk : V g X nL μ lv (pc + 3) (Iv (imax a b) :: st)) : V g X nL μ lv pc (Iv b :: Iv a :: st) := by
  intro h1 h2 h3 H locs ls h4 h5 h6
  have hb : inR b := (List.forall_mem_cons.mp h2).1
  have ha : inR a := (List.forall_mem_cons.mp (List.forall_mem_cons.mp h2).2).1
  have h2' := (List.forall_mem_cons.mp (List.forall_mem_cons.mp h2).2).2
  have hk := kk h1 (List.forall_mem_cons.mpr ⟨imax_rng ha hb, h2'⟩) h3 H locs ls h4 h5 h6
  have hF := F.2.2.2.2.2.1
  refine va_mmax F.1 F.2.1 (F.2.2.1.trans h6.1.symm) F.2.2.2.1 (F.ts _ hlk) (F.ts _ hs) (F.ts _ hi) (F.ts _ hc) (by omega) (by rw [catS_eq]; omega) hF.2.2.1 hF.2.2.2 hd ?_
  have e : (if Int32.ofInt a < Int32.ofInt b then Int32.ofInt b else Int32.ofInt a) = Int32.ofInt (imax a b) := by
    unfold imax
    simp only [i32_lt ha hb]
    split <;> rfl
  rw [e]
  exact hk
theorem r_min {idx : Nat} (F : Fx g X cc own nL h) (hh : 1 ≤ h) (hlk : Cond.methodLink own idx Lib.Math.min.name ∈ tb) (hs : Cond.static Lib.Math.min.name ∈ tb) (hi : Cond.initialized "java/lang/Math" ∈ tb) (hc : Cond.code Lib.Math.min.name Lib.Math.min.code 2 (some .int) ∈ tb) (hst : catS st ≤ 8) (hd : decode cc pc = .ok (.invokestatic idx, 3)) (kk : V g X nL μ lv (pc + 3) (Iv (imin a b) :: st)) : V g X nL μ lv pc (Iv b :: Iv a :: st) := by
  intro h1 h2 h3 H locs ls h4 h5 h6
  have hb : inR b := (List.forall_mem_cons.mp h2).1
  have ha : inR a := (List.forall_mem_cons.mp (List.forall_mem_cons.mp h2).2).1
  have h2' := (List.forall_mem_cons.mp (List.forall_mem_cons.mp h2).2).2
  have hk := kk h1 (List.forall_mem_cons.mpr ⟨imin_rng ha hb, h2'⟩) h3 H locs ls h4 h5 h6
  have hF := F.2.2.2.2.2.1
  refine va_mmin F.1 F.2.1 (F.2.2.1.trans h6.1.symm) F.2.2.2.1 (F.ts _ hlk) (F.ts _ hs) (F.ts _ hi) (F.ts _ hc) (by omega) (by rw [catS_eq]; omega) hF.2.2.1 hF.2.2.2 hd ?_
  have e : (if Int32.ofInt b < Int32.ofInt a then Int32.ofInt b else Int32.ofInt a) = Int32.ofInt (imin a b) := by
    unfold imin
    simp only [i32_lt hb ha]
    split <;> rfl
  rw [e]
  exact hk
end RowsD
section Enter
variable {g : Wc} {l : Launch} {y : MethodName} {cc : ByteArray} {nL h : Nat} {ret : Option FieldType} {own : String} {avs : List AV} {μ : Mem} {Qc : Array Value → State → Outcome → State → Prop}
theorem enter (hy : plainName y.cls = true) (hown : y.cls = own) (hn : (lg_sl (avs.map (cv g.1))).length ≤ nL) (hok : ∀ a ∈ avs, okA a)
    (hb : ∀ X : Cx, X.1.2.1 = l → Fx g X cc own nL h → X.2.2.1.1.sig.returnType = ret → Rt g X Qc → V g X nL μ (lva 0 avs) 0 []) : Mt g l y cc nL ret h avs μ Qc := by
  refine Met.ofW (cc := cc) (maxL := nL) (ret := ret) hy rfl ?_
  intro p e s m args below meth c s₁ B hml hv
  obtain ⟨rfl, hSd, hHW, hM⟩ := hv
  have hk := hb ((p, l, e, { frames := h, cells := 0, slots := 0, locals := 41 * h }), (s, m, (avs.map (cv g.1)).toArray, below), (meth, c, MQ below Qc (avs.map (cv g.1)).toArray s 0 0 (Aq g)), (0, 0)) rfl ⟨B.exec, B.bytes, hml, by rw [← hown]; exact findClass_of_methodNamed B.named, hSd, ⟨Nat.le_refl h, Nat.le_refl _, Nat.zero_le _, Nat.zero_le _⟩, B.notSynchronized⟩ B.returns rfl
  have hl := lv_entry (avs.map (cv g.1)) (n := nL) hn
  rw [lg_entry_eq]
  rw [lva_eq] at hl
  exact hk (lva_ok 0 avs hok) (fun a ha => by cases ha) hM s.heap [] _ hHW va_S.rf hl
end Enter
