/-! From the law's entry to its loop, out of what the plain definition of the loop asks. -/
def Gof (B t0 t1 t2 b : Nat) : Nat → Nat := fun c => if c < 112 then B + off c else if c = 112 then t0 else if c = 113 then t1 else if c = 114 then t2 else b
theorem st_of {args : Array Value} {s : State} {n : String} (k : Nat) (hl : (Cond.laysStatic "WorkOrders" n "[I").before args s = true) (hini : (Cond.initialized "WorkOrders").before args s = true) (ha : (Cond.arrayOf (.static "WorkOrders" n "[I") .int).before args s = true) (hlen : (Cond.eq (.length (.static "WorkOrders" n "[I")) (.int 5)).before args s = true)
    (h0 : (Cond.eq (.elem (.static "WorkOrders" n "[I") (.int 0)) (.int (Int32.ofInt (stv k 0)))).before args s = true) (h1 : (Cond.eq (.elem (.static "WorkOrders" n "[I") (.int 1)) (.int (Int32.ofInt (stv k 1)))).before args s = true) (h2 : (Cond.eq (.elem (.static "WorkOrders" n "[I") (.int 2)) (.int (Int32.ofInt (stv k 2)))).before args s = true) (h3 : (Cond.eq (.elem (.static "WorkOrders" n "[I") (.int 3)) (.int (Int32.ofInt (stv k 3)))).before args s = true) (h4 : (Cond.eq (.elem (.static "WorkOrders" n "[I") (.int 4)) (.int (Int32.ofInt (stv k 4)))).before args s = true) :
    ∃ t : Nat, va_Z "WorkOrders" n "[I" (.ref t) (fun a => s.heap.size ≤ a) s s.heap ∧ va_T .int t 5 (fun j => .int (Int32.ofInt (stv k j))) (fun a => s.heap.size ≤ a) s s.heap := by
  have hA : ∀ a : Nat, a < s.heap.size → ¬ (fun a => s.heap.size ≤ a) a := fun a ha h => absurd ha (Nat.not_lt.mpr h)
  obtain ⟨t, ht, hT⟩ := va_Tof (tm := .static "WorkOrders" n "[I") (ty := .int) (N := 5) (f := fun j => .int (Int32.ofInt (stv k j))) (A := fun a => s.heap.size ≤ a) (by decide) ha (va_eqt hlen) (fun j hj => by
    have : j = 0 ∨ j = 1 ∨ j = 2 ∨ j = 3 ∨ j = 4 := by omega
    rcases this with rfl | rfl | rfl | rfl | rfl
    · exact va_eqt h0
    · exact va_eqt h1
    · exact va_eqt h2
    · exact va_eqt h3
    · exact va_eqt h4) hA
  exact ⟨t, va_Zref hl hini ht hA, hT⟩
theorem ce2_end (g : Wc) (c : Nat) : ce2 g nu67 mu12 c = ce g mu12 c := by
  by_cases h : 12 ≤ c
  · exact ce2_arr h
  · have : c = 0 ∨ c = 1 ∨ c = 2 ∨ c = 3 ∨ c = 4 ∨ c = 5 ∨ c = 6 ∨ c = 7 ∨ c = 8 ∨ c = 9 ∨ c = 10 ∨ c = 11 := by omega
    rcases this with rfl | rfl | rfl | rfl | rfl | rfl | rfl | rfl | rfl | rfl | rfl | rfl <;> rfl
/-- what the whole claim asks of the plain definitions -/
def Pure : Prop := ∀ (L : Nat) (xs : Nat → Int), L ≤ 2048 → (∀ j, inR (xs j)) → wp_L_law L xs mu12 (fun r _ => r = 1)
set_option maxHeartbeats 4000000 in
set_option maxRecDepth 100000 in
theorem start_of (hPure : Pure) {p : Program} {e : Env} {s : State} {m : MethodId} {below : List Frame} {meth : Method} {c : Code} (l : Launch) {b L : Nat} {xs : Nat → Int32} (hL : L ≤ 2048) (C0 : lw_At p s m meth c b L xs) : W p l e room_1 s m #[Value.ref b] below meth c s.heap [] 0 0 (lw_Z below #[Value.ref b] s) (entryFrame m ([Value.ref b] : List Value).toArray 4) := by
  obtain ⟨hx, hb, hr, hml, hown, hts, hX, hbl, hlocks, hgv⟩ := id C0
  have hfl := flat_of_before _ hgv
  obtain ⟨t0, hZ0, hT0⟩ := st_of (n := "LEAST_TRAIT") 0 (hts (.laysStatic "WorkOrders" "LEAST_TRAIT" "[I") (by decide +kernel)) (hts (.initialized "WorkOrders") (by decide +kernel)) (hfl (Cond.arrayOf (.static "WorkOrders" "LEAST_TRAIT" "[I") .int) (by decide +kernel)) (hfl (Cond.eq (.length (.static "WorkOrders" "LEAST_TRAIT" "[I")) (.int 5)) (by decide +kernel)) (hfl (Cond.eq (.elem (.static "WorkOrders" "LEAST_TRAIT" "[I") (.int 0)) (.int 1)) (by decide +kernel)) (hfl (Cond.eq (.elem (.static "WorkOrders" "LEAST_TRAIT" "[I") (.int 1)) (.int 0)) (by decide +kernel)) (hfl (Cond.eq (.elem (.static "WorkOrders" "LEAST_TRAIT" "[I") (.int 2)) (.int 0)) (by decide +kernel)) (hfl (Cond.eq (.elem (.static "WorkOrders" "LEAST_TRAIT" "[I") (.int 3)) (.int 0)) (by decide +kernel)) (hfl (Cond.eq (.elem (.static "WorkOrders" "LEAST_TRAIT" "[I") (.int 4)) (.int 0)) (by decide +kernel))
  obtain ⟨t1, hZ1, hT1⟩ := st_of (n := "MOST_TRAIT") 1 (hts (.laysStatic "WorkOrders" "MOST_TRAIT" "[I") (by decide +kernel)) (hts (.initialized "WorkOrders") (by decide +kernel)) (hfl (Cond.arrayOf (.static "WorkOrders" "MOST_TRAIT" "[I") .int) (by decide +kernel)) (hfl (Cond.eq (.length (.static "WorkOrders" "MOST_TRAIT" "[I")) (.int 5)) (by decide +kernel)) (hfl (Cond.eq (.elem (.static "WorkOrders" "MOST_TRAIT" "[I") (.int 0)) (.int 40)) (by decide +kernel)) (hfl (Cond.eq (.elem (.static "WorkOrders" "MOST_TRAIT" "[I") (.int 1)) (.int 99)) (by decide +kernel)) (hfl (Cond.eq (.elem (.static "WorkOrders" "MOST_TRAIT" "[I") (.int 2)) (.int 300)) (by decide +kernel)) (hfl (Cond.eq (.elem (.static "WorkOrders" "MOST_TRAIT" "[I") (.int 3)) (.int 20)) (by decide +kernel)) (hfl (Cond.eq (.elem (.static "WorkOrders" "MOST_TRAIT" "[I") (.int 4)) (.int 2)) (by decide +kernel))
  obtain ⟨t2, hZ2, hT2⟩ := st_of (n := "FIRST_TRAIT") 2 (hts (.laysStatic "WorkOrders" "FIRST_TRAIT" "[I") (by decide +kernel)) (hts (.initialized "WorkOrders") (by decide +kernel)) (hfl (Cond.arrayOf (.static "WorkOrders" "FIRST_TRAIT" "[I") .int) (by decide +kernel)) (hfl (Cond.eq (.length (.static "WorkOrders" "FIRST_TRAIT" "[I")) (.int 5)) (by decide +kernel)) (hfl (Cond.eq (.elem (.static "WorkOrders" "FIRST_TRAIT" "[I") (.int 0)) (.int 1)) (by decide +kernel)) (hfl (Cond.eq (.elem (.static "WorkOrders" "FIRST_TRAIT" "[I") (.int 1)) (.int 0)) (by decide +kernel)) (hfl (Cond.eq (.elem (.static "WorkOrders" "FIRST_TRAIT" "[I") (.int 2)) (.int 300)) (by decide +kernel)) (hfl (Cond.eq (.elem (.static "WorkOrders" "FIRST_TRAIT" "[I") (.int 3)) (.int 1)) (by decide +kernel)) (hfl (Cond.eq (.elem (.static "WorkOrders" "FIRST_TRAIT" "[I") (.int 4)) (.int 0)) (by decide +kernel))
  obtain ⟨c0, iS0, hK0⟩ := u_known (C := RX0) (T := TX0) (N := 3) (n := 3) (fun w hw => hts w (List.mem_filter.mp hw).1) inX0 (hts (.instantiable RX0 3) (by decide +kernel))
  obtain ⟨c1, iS1, hK1⟩ := u_known (C := RX1) (T := TX1) (N := 7) (n := 7) (fun w hw => hts w (List.mem_filter.mp hw).1) inX1 (hts (.instantiable RX1 7) (by decide +kernel))
  obtain ⟨c2, iS2, hK2⟩ := u_known (C := RX2) (T := TX2) (N := 7) (n := 7) (fun w hw => hts w (List.mem_filter.mp hw).1) inX2 (hts (.instantiable RX2 7) (by decide +kernel))
  obtain ⟨c3, iS3, hK3⟩ := u_known (C := RX3) (T := TX3) (N := 4) (n := 4) (fun w hw => hts w (List.mem_filter.mp hw).1) inX3 (hts (.instantiable RX3 4) (by decide +kernel))
  obtain ⟨c4, iS4, hK4⟩ := u_known (C := RX4) (T := TX4) (N := 5) (n := 5) (fun w hw => hts w (List.mem_filter.mp hw).1) inX4 (hts (.instantiable RX4 5) (by decide +kernel))
  obtain ⟨c5, iS5, hK5⟩ := u_known (C := RX5) (T := TX5) (N := 2) (n := 2) (fun w hw => hts w (List.mem_filter.mp hw).1) inX5 (hts (.instantiable RX5 2) (by decide +kernel))
  obtain ⟨c6, iS6, hK6⟩ := u_known (C := RX6) (T := TX6) (N := 3) (n := 3) (fun w hw => hts w (List.mem_filter.mp hw).1) inX6 (hts (.instantiable RX6 3) (by decide +kernel))
  obtain ⟨c7, iS7, hK7⟩ := u_known (C := RX7) (T := TX7) (N := 6) (n := 6) (fun w hw => hts w (List.mem_filter.mp hw).1) inX7 (hts (.instantiable RX7 6) (by decide +kernel))
  obtain ⟨c8, iS8, hK8⟩ := u_known (C := RX8) (T := TX8) (N := 6) (n := 6) (fun w hw => hts w (List.mem_filter.mp hw).1) inX8 (hts (.instantiable RX8 6) (by decide +kernel))
  obtain ⟨c9, iS9, hK9⟩ := u_known (C := RX9) (T := TX9) (N := 5) (n := 5) (fun w hw => hts w (List.mem_filter.mp hw).1) inX9 (hts (.instantiable RX9 5) (by decide +kernel))
  obtain ⟨c10, iS10, hK10⟩ := u_known (C := RX10) (T := TX10) (N := 10) (n := 10) (fun w hw => hts w (List.mem_filter.mp hw).1) inX10 (hts (.instantiable RX10 10) (by decide +kernel))
  obtain ⟨c11, iS11, hK11⟩ := u_known (C := RX11) (T := TX11) (N := 27) (n := 27) (fun w hw => hts w (List.mem_filter.mp hw).1) inX11 (hts (.instantiable RX11 27) (by decide +kernel))
  obtain ⟨dC, dI, hKc⟩ : ∃ (dC : Nat → ClassId) (dI : Nat → Nat → Nat), ∀ (k : Nat) (q : vw_C), vwCl[k]? = some q → u_Kn s q.1 q.2.1 q.2.2 (dC k) (dI k) := by
    refine ⟨fun k => if k = 0 then c0 else if k = 1 then c1 else if k = 2 then c2 else if k = 3 then c3 else if k = 4 then c4 else if k = 5 then c5 else if k = 6 then c6 else if k = 7 then c7 else if k = 8 then c8 else if k = 9 then c9 else if k = 10 then c10 else c11, fun k => if k = 0 then iS0 else if k = 1 then iS1 else if k = 2 then iS2 else if k = 3 then iS3 else if k = 4 then iS4 else if k = 5 then iS5 else if k = 6 then iS6 else if k = 7 then iS7 else if k = 8 then iS8 else if k = 9 then iS9 else if k = 10 then iS10 else iS11, ?_⟩
    intro k q hq
    match k, hq with
    | 0, hq => cases hq; exact hK0
    | 1, hq => cases hq; exact hK1
    | 2, hq => cases hq; exact hK2
    | 3, hq => cases hq; exact hK3
    | 4, hq => cases hq; exact hK4
    | 5, hq => cases hq; exact hK5
    | 6, hq => cases hq; exact hK6
    | 7, hq => cases hq; exact hK7
    | 8, hq => cases hq; exact hK8
    | 9, hq => cases hq; exact hK9
    | 10, hq => cases hq; exact hK10
    | 11, hq => cases hq; exact hK11
    | k + 12, hq => simp [vwCl] at hq
  obtain ⟨cI, kI, compI, hI1, hI2, hI3⟩ := Cond.arrayClass_spec (hts (.arrayClass .int) (by decide +kernel))
  obtain ⟨cB, kB, compB, hB1, hB2, hB3⟩ := Cond.arrayClass_spec (hts (.arrayClass .byte) (by decide +kernel))
  have hAO0 := hts (.arrayOver (.array .int)) (by decide +kernel)
  obtain ⟨compA, cA, kA, -, hA2, hA3, hA4⟩ := Cond.arrayOver_specA hAO0
  have hAO : AOv s := hAO0
  obtain ⟨g, hgdef⟩ : ∃ g : Wc, g = (Gof s.heap.size t0 t1 t2 b, (dC, dI), (cI, cB, cA)) := ⟨_, rfl⟩
  have hg : Gq g s.heap.size := fun c hc => by rw [hgdef]; show Gof _ _ _ _ _ c = _; unfold Gof; rw [if_pos hc]
  have g112 : g.1 112 = t0 := by rw [hgdef]; rfl
  have g113 : g.1 113 = t1 := by rw [hgdef]; rfl
  have g114 : g.1 114 = t2 := by rw [hgdef]; rfl
  have g115 : g.1 115 = b := by rw [hgdef]; rfl
  have hAq : ∀ q, Aq g q → s.heap.size ≤ q := fun q ⟨c, hc, e⟩ => by rw [e, hg c hc]; exact Nat.le_add_right _ _
  have hKt : va_K g.2.1 vwCl (tyl g) s := by
    rw [hgdef]
    refine ⟨hKc, fun k q hk => ?_⟩
    match k, hk with
    | 0, hk => cases hk; exact ⟨fun n z => ⟨fun k h => (by cases h), kI, hI2, compI, hI3⟩, hI1⟩
    | 1, hk => cases hk; exact ⟨fun n z => ⟨fun k h => (by cases h), kB, hB2, compB, hB3⟩, hB1⟩
    | 2, hk => cases hk; exact ⟨fun n z => ⟨fun k h => (by cases h), kA, hA2, compA, hA3⟩, hA4⟩
    | k + 3, hk => simp [tyl] at hk
  have hZs : Zs g s s.heap := ⟨⟨by rw [g112]; exact hZ0.narrow hAq, by rw [g112]; exact hT0.narrow hAq⟩, ⟨by rw [g113]; exact hZ1.narrow hAq, by rw [g113]; exact hT1.narrow hAq⟩, by rw [g114]; exact hZ2.narrow hAq, by rw [g114]; exact hT2.narrow hAq⟩
  have hSd : Sd g s := ⟨fun w hw A => word_any hw (hts w (List.mem_filter.mp hw).1) A, hKt, hZs⟩
  obtain ⟨X, hXdef⟩ : ∃ X : Cx, X = ((p, l, e, room_1), (s, m, #[Value.ref b], below), (meth, c, lw_Z below #[Value.ref b] s), (0, 0)) := ⟨_, rfl⟩
  have F : Fx g X cL_law RL 4 17 := by rw [hXdef]; exact ⟨hx, hb, hml, hown, hSd, ⟨by show 17 ≤ room_1.frames; decide, by show 41 * 17 ≤ room_1.locals; decide, Nat.zero_le _, Nat.zero_le _⟩, hlocks⟩
  have hk : X.2.2.2 = (0, 0) := by rw [hXdef]
  have hcap : X.1.2.2.2.cells = 600000 ∧ X.1.2.2.2.slots = 7302249 := by rw [hXdef]; exact ⟨rfl, rfl⟩
  obtain ⟨ys, hys⟩ : ∃ ys : Nat → Int, ys = fun j => (xs j).toInt := ⟨_, rfl⟩
  have hyr : ∀ j, inR (ys j) := fun j => by rw [hys]; exact toInt_rng _
  have hyx : (fun j => Int32.ofInt (ys j)) = xs := by rw [hys]; funext j; exact Int32.ofInt_toInt _
  have hend : VI g s.heap.size nu67 112 (nx (nx (nx (nx X 1 10) 88 6769) 1 27) 22 19976) 4 mu12 [(3, Iv 0), (2, Rv 11), (1, Rv 0), (0, Rv 115)] 18 [] := by
    have F4 := (((F.nx (capI (i := 1) (j := 10) hk hcap (by decide) (by decide))).nx (capI (i := 88) (j := 6769) (nx_k (a' := 1) (b' := 10) hk rfl rfl) hcap (by decide) (by decide))).nx (capI (i := 1) (j := 27) (nx_k (a' := 89) (b' := 6779) (nx_k (a' := 1) (b' := 10) hk rfl rfl) rfl rfl) hcap (by decide) (by decide))).nx (capI (i := 22) (j := 19976) (nx_k (a' := 90) (b' := 6806) (nx_k (a' := 89) (b' := 6779) (nx_k (a' := 1) (b' := 10) hk rfl rfl) rfl rfl) rfl rfl) hcap (by decide) (by decide))
    have hXs : (nx (nx (nx (nx X 1 10) 88 6769) 1 27) 22 19976).2.1 = (s, m, #[Value.ref b], below) ∧ (nx (nx (nx (nx X 1 10) 88 6769) 1 27) 22 19976).2.2.1 = (meth, c, lw_Z below #[Value.ref b] s) ∧ (nx (nx (nx (nx X 1 10) 88 6769) 1 27) 22 19976).1 = (p, l, e, room_1) := by rw [hXdef]; exact ⟨rfl, rfl, rfl⟩
    generalize nx (nx (nx (nx X 1 10) 88 6769) 1 27) 22 19976 = Y at F4 hXs ⊢
    obtain ⟨⟨p', l', e', R'⟩, ⟨s', m', args', below'⟩, ⟨meth', c', Q'⟩, ⟨kc, ks⟩⟩ := Y
    obtain ⟨hY1, hY2, hY3⟩ := hXs
    cases hY1; cases hY2; cases hY3
    have SX : Scr g ((p, l, e, room_1), (s, m, #[Value.ref b], below), (meth, c, lw_Z below #[Value.ref b] s), (kc, ks)) L ys := ⟨by rw [g115, hyx]; exact hX, by rw [g115]; exact hbl, fun c hc => by rw [hg c hc]; exact Nat.le_add_right _ _, hL, hyr⟩
    have hV := c_L_law F4 SX ⟨rfl, rfl, by rw [g115], hr⟩ mu12 (hPure L ys hL hyr)
    intro h1 h2 h3 H locs ls h4 h5 h6
    refine va_forget (fun q hq => h5.2.2 q hq) ?_
    have hHW : HW g mu12 H := ⟨fun c hc => by
      have := h4.2 c hc (off_lt c hc)
      rw [ce2_end] at this
      exact this, fun c d hc hd hcd => off_inj c hc d hd (by have a1 := hg c hc; have a2 := hg d hd; omega)⟩
    have hl' : lv_has ls 4 (cvl g [(0, Rv 115), (1, Rv 0), (2, Rv 11), (3, Iv 0)]) := lv_sub h6 [3, 2, 1, 0] rfl
    exact hV (fun q hq => by
      simp at hq
      rcases hq with rfl | rfl | rfl | rfl
      · trivial
      · trivial
      · trivial
      · exact inR0) (fun a ha => by cases ha) h3 H [] ls hHW ⟨h5.1, fun q hq _ => h5.2.1 q hq (fun hB => absurd hq (Nat.not_lt.mpr hB)), fun q hq => by cases hq⟩ hl'
  have hstart := law_made hg F (by rw [hXdef]; exact hAO) hk hcap hend
  rw [hXdef] at hstart
  have hl := lv_entry ([Value.ref b] : List Value) (n := 4) (Nat.le_of_ble_eq_true rfl)
  rw [lg_entry_eq]
  have hl' : lv_has ((lg_sl ([Value.ref b] : List Value) ++ List.replicate (4 - (lg_sl ([Value.ref b] : List Value)).length) Slot.unset).toArray) 4 (cvl g [(0, Rv 115)]) := by
    have e1 : cvl g [(0, Rv 115)] = [(0, Value.ref b)] := by rw [← g115]; rfl
    rw [e1]
    exact hl
  exact hstart (fun q hq => by simp at hq; subst hq; trivial) (fun a ha => by cases ha) rg0 s.heap [] _ ⟨rfl, fun c hc h => absurd h (Nat.not_lt_zero _)⟩ va_S.rf hl'
