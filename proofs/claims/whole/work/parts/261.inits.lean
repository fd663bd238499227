/-! The constructors, and the law up to its loop. By program. -/
theorem VI.nu {g : Wc} {B κ : Nat} {ν ν' : Msk} {X : Cx} {nL : Nat} {μ : Mem} {lv : List (Nat × AV)} {pc : Nat} {st : List AV} (h : ν' = ν) (kk : VI g B ν' κ X nL μ lv pc st) : VI g B ν κ X nL μ lv pc st := h ▸ kk
theorem VI.mu {g : Wc} {B κ : Nat} {ν : Msk} {X : Cx} {nL : Nat} {μ μ' : Mem} {lv : List (Nat × AV)} {pc : Nat} {st : List AV} (h : μ' = μ) (kk : VI g B ν κ X nL μ' lv pc st) : VI g B ν κ X nL μ lv pc st := h ▸ kk
theorem VI.ka {g : Wc} {B κ κ' : Nat} {ν : Msk} {X : Cx} {nL : Nat} {μ : Mem} {lv : List (Nat × AV)} {pc : Nat} {st : List AV} (h : κ' = κ) (kk : VI g B ν κ' X nL μ lv pc st) : VI g B ν κ X nL μ lv pc st := h ▸ kk
theorem capI {X : Cx} {a b mc ms i j : Nat} (hk : X.2.2.2 = (a, b)) (hcap : X.1.2.2.2.cells = mc ∧ X.1.2.2.2.slots = ms) (h1 : a + i ≤ mc) (h2 : b + j ≤ ms) : X.2.2.2.1 + i ≤ X.1.2.2.2.cells ∧ X.2.2.2.2 + j ≤ X.1.2.2.2.slots := by
  rw [hk, hcap.1, hcap.2]
  exact ⟨h1, h2⟩
def KI (g : Wc) (B : Nat) (X : Cx) (cc : ByteArray) (own : String) (nL h mc ms a b : Nat) (Qc : Array Value → State → Outcome → State → Prop) : Prop :=
  Fx g X cc own nL h ∧ AOv X.2.1.1 ∧ X.2.2.1.1.sig.returnType = none ∧ X.2.2.1.1.name = "<init>" ∧ RN B X Qc mc ms ∧ X.2.2.2 = (a, b) ∧ X.1.2.2.2.cells = mc ∧ X.1.2.2.2.slots = ms
theorem KI.nx {g : Wc} {B : Nat} {X : Cx} {cc : ByteArray} {own : String} {nL h mc ms a b i j a' b' : Nat} {Qc : Array Value → State → Outcome → State → Prop} (K : KI g B X cc own nL h mc ms a b Qc) (ha : a + i = a') (hb : b + j = b') (h1 : a' ≤ mc) (h2 : b' ≤ ms) : KI g B (nx X i j) cc own nL h mc ms a' b' Qc := by
  obtain ⟨F, hAO, hr, hin, hR, hk, hc⟩ := K
  subst ha; subst hb
  exact ⟨F.nx (capI hk hc h1 h2), hAO, hr, hin, hR, nx_k hk rfl rfl, hc⟩
theorem km_obj : Cond.instanceMethod objectInit ∈ tb ∧ Cond.code objectInit ⟨#[0xb1]⟩ 1 none ∈ tb := ⟨(tbm (List.mem_of_getElem? (i := 70) (by decide +kernel)) rfl), (tbm (List.mem_of_getElem? (i := 71) (by decide +kernel)) rfl)⟩
theorem ka_int : Cond.arrayClass .int ∈ tb := (tbm (List.mem_of_getElem? (i := 113) (by decide +kernel)) rfl)
theorem ka_byte : Cond.arrayClass .byte ∈ tb := (tbm (List.mem_of_getElem? (i := 328) (by decide +kernel)) rfl)
def nu0 : Msk := fun _ _ => false
def mu0 : Mem := fun _ _ => 0
theorem rg0 : RngM mu0 := fun _ _ => inR0
theorem cal_X0_init : Cal yX0_init cX0_init 2 none 1 := ⟨(tbm (List.mem_of_getElem? (i := 166) (by decide +kernel)) rfl), (tbm (List.mem_of_getElem? (i := 52) (by decide +kernel)) rfl), ⟨by decide +kernel, by decide +kernel, by decide +kernel⟩, by decide⟩
theorem cal_X1_init : Cal yX1_init cX1_init 3 none 2 := ⟨(tbm (List.mem_of_getElem? (i := 232) (by decide +kernel)) rfl), (tbm (List.mem_of_getElem? (i := 55) (by decide +kernel)) rfl), ⟨by decide +kernel, by decide +kernel, by decide +kernel⟩, by decide⟩
theorem cal_X2_init : Cal yX2_init cX2_init 2 none 1 := ⟨(tbm (List.mem_of_getElem? (i := 136) (by decide +kernel)) rfl), (tbm (List.mem_of_getElem? (i := 51) (by decide +kernel)) rfl), ⟨by decide +kernel, by decide +kernel, by decide +kernel⟩, by decide⟩
theorem cal_X3_init : Cal yX3_init cX3_init 2 none 1 := ⟨(tbm (List.mem_of_getElem? (i := 184) (by decide +kernel)) rfl), (tbm (List.mem_of_getElem? (i := 53) (by decide +kernel)) rfl), ⟨by decide +kernel, by decide +kernel, by decide +kernel⟩, by decide⟩
theorem cal_X4_init : Cal yX4_init cX4_init 2 none 1 := ⟨(tbm (List.mem_of_getElem? (i := 205) (by decide +kernel)) rfl), (tbm (List.mem_of_getElem? (i := 54) (by decide +kernel)) rfl), ⟨by decide +kernel, by decide +kernel, by decide +kernel⟩, by decide⟩
theorem cal_X5_init : Cal yX5_init cX5_init 2 none 1 := ⟨(tbm (List.mem_of_getElem? (i := 263) (by decide +kernel)) rfl), (tbm (List.mem_of_getElem? (i := 56) (by decide +kernel)) rfl), ⟨by decide +kernel, by decide +kernel, by decide +kernel⟩, by decide⟩
theorem cal_X6_init : Cal yX6_init cX6_init 1 none 0 := ⟨(tbm (List.mem_of_getElem? (i := 118) (by decide +kernel)) rfl), (tbm (List.mem_of_getElem? (i := 50) (by decide +kernel)) rfl), ⟨by decide +kernel, by decide +kernel, by decide +kernel⟩, by decide⟩
theorem cal_X7_init : Cal yX7_init cX7_init 1 none 0 := ⟨(tbm (List.mem_of_getElem? (i := 304) (by decide +kernel)) rfl), (tbm (List.mem_of_getElem? (i := 58) (by decide +kernel)) rfl), ⟨by decide +kernel, by decide +kernel, by decide +kernel⟩, by decide⟩
theorem cal_X8_init : Cal yX8_init cX8_init 1 none 0 := ⟨(tbm (List.mem_of_getElem? (i := 277) (by decide +kernel)) rfl), (tbm (List.mem_of_getElem? (i := 57) (by decide +kernel)) rfl), ⟨by decide +kernel, by decide +kernel, by decide +kernel⟩, by decide⟩
theorem cal_X9_init : Cal yX9_init cX9_init 1 none 0 := ⟨(tbm (List.mem_of_getElem? (i := 76) (by decide +kernel)) rfl), (tbm (List.mem_of_getElem? (i := 49) (by decide +kernel)) rfl), ⟨by decide +kernel, by decide +kernel, by decide +kernel⟩, by decide⟩
theorem cal_X10_init : Cal yX10_init cX10_init 1 none 0 := ⟨(tbm (List.mem_of_getElem? (i := 68) (by decide +kernel)) rfl), (tbm (List.mem_of_getElem? (i := 48) (by decide +kernel)) rfl), ⟨by decide +kernel, by decide +kernel, by decide +kernel⟩, by decide⟩
theorem cal_X11_init : Cal yX11_init cX11_init 2 none 0 := ⟨(tbm (List.mem_of_getElem? (i := 848) (by decide +kernel)) rfl), (tbm (List.mem_of_getElem? (i := 59) (by decide +kernel)) rfl), ⟨by decide +kernel, by decide +kernel, by decide +kernel⟩, by decide⟩
def nu1 : Msk := wm nu0 1 1
def nu2 : Msk := wm nu1 1 2
def nu3 : Msk := wm nu2 1 3
def nu4 : Msk := wm nu3 1 4
theorem mz24_0 : ∀ j, j < 5 → ∀ i, mu0 (24 + j) i = 0 := by
  intro j hj i
  have : j = 0 ∨ j = 1 ∨ j = 2 ∨ j = 3 ∨ j = 4 := by omega
  rcases this with rfl | rfl | rfl | rfl | rfl <;> rfl
theorem mz29_0 : ∀ j, j < 3 → ∀ i, mu0 (29 + j) i = 0 := by
  intro j hj i
  have : j = 0 ∨ j = 1 ∨ j = 2 := by omega
  rcases this with rfl | rfl | rfl <;> rfl
theorem mz32_0 : ∀ j, j < 8 → ∀ i, mu0 (32 + j) i = 0 := by
  intro j hj i
  have : j = 0 ∨ j = 1 ∨ j = 2 ∨ j = 3 ∨ j = 4 ∨ j = 5 ∨ j = 6 ∨ j = 7 := by omega
  rcases this with rfl | rfl | rfl | rfl | rfl | rfl | rfl | rfl <;> rfl
set_option maxHeartbeats 4000000 in
set_option maxRecDepth 100000 in
theorem ci_X9_init {g : Wc} {B : Nat} {l : Launch} (hg : Gq g B) : MI g B l yX9_init cX9_init 1 1 20 105 [Rv 1] nu0 mu0 2 nu4 mu0 22 := by
  refine i_enter (own := RX9) (by decide) rfl rfl (Nat.le_of_ble_eq_true rfl) (fun a ha => by simp at ha; rcases ha with rfl | ha <;> first | trivial | (rcases ha with rfl | rfl <;> trivial) | (subst ha; trivial)) rg0 (fun X hl F hAO hr hin hR hk hcap => ?_)
  subst hl
  have K : KI g B X cX9_init RX9 1 1 20 105 0 0 (QN g B nu4 mu0 22) := ⟨F, hAO, hr, hin, hR, hk, hcap⟩
  show VI g B nu0 2 X 1 mu0 [(0, Rv 1)] 0 []
  refine i_aload_n (pc := 0) 0 F dX9_init_0 rfl rfl ?_
  refine i_objInit (pc := 1) F (by decide) (tbm (List.mem_of_getElem? (i := 77) (by decide +kernel)) rfl) km_obj.1 km_obj.2 (Nat.le_of_ble_eq_true rfl) dX9_init_1 ?_
  refine i_aload_n (pc := 4) 0 F dX9_init_4 rfl rfl ?_
  refine i_iconst (pc := 5) F dX9_init_5 (inR_lit rfl) ?_
  refine i_bipush (pc := 6) F dX9_init_6 (inR_lit rfl) (by decide) ?_
  refine i_mna (pc := 8) (c := 12) (n := 5) (k := 8) (d := 24) F hAO hg (by decide) (by decide) rfl (by decide) (by decide) (by decide) (by decide +kernel) (by decide) (by decide) rfl rfl (fun j hj i => mz24_0 j hj i) (tbm (List.mem_of_getElem? (i := 78) (by decide +kernel)) rfl) ka_int (capI hk hcap (by decide) (by decide)) dX9_init_8 ?_
  have K := K.nx (i := 6) (j := 45) (a' := 6) (b' := 45) rfl rfl (by decide) (by decide)
  generalize nx X 6 45 = X at K ⊢
  obtain ⟨F, hAO, hr, hin, hR, hk, hcap⟩ := id K
  refine VI.ka (κ' := 8) rfl ?_
  refine i_putR (pc := 12) (c := 1) (ci := 9) (k := 1) (d := 12) F hg inX9 tyX9 tyX9_ok nmX9 rfl (by decide) (by decide) rfl (by decide) rfl (tbm (w := Cond.fieldLink RX9 11 "WorkOrders$Works" "traits" "[[I") (List.mem_of_getElem? (i := 88) (by decide +kernel)) rfl) rfl hin rfl rfl rfl dX9_init_12 ?_
  refine VI.nu (ν' := nu1) rfl ?_
  refine i_aload_n (pc := 15) 0 F dX9_init_15 rfl rfl ?_
  refine i_bipush (pc := 16) F dX9_init_16 (inR_lit rfl) (by decide) ?_
  refine i_newI (pc := 18) (c := 74) (n := 8) F hg (by decide) (by decide) (by decide) (by decide) (by decide) rfl (fun _ => rfl) ka_int (capI hk hcap (by decide) (by decide)) dX9_init_18 ?_
  have K := K.nx (i := 1) (j := 8) (a' := 7) (b' := 53) rfl rfl (by decide) (by decide)
  generalize nx X 1 8 = X at K ⊢
  obtain ⟨F, hAO, hr, hin, hR, hk, hcap⟩ := id K
  refine VI.ka (κ' := 9) rfl ?_
  refine i_putR (pc := 20) (c := 1) (ci := 9) (k := 2) (d := 74) F hg inX9 tyX9 tyX9_ok nmX9 rfl (by decide) (by decide) rfl (by decide) rfl (tbm (w := Cond.fieldLink RX9 16 "WorkOrders$Works" "aheadOf" "[I") (List.mem_of_getElem? (i := 93) (by decide +kernel)) rfl) rfl hin rfl rfl rfl dX9_init_20 ?_
  refine VI.nu (ν' := nu2) rfl ?_
  refine i_aload_n (pc := 23) 0 F dX9_init_23 rfl rfl ?_
  refine i_iconst (pc := 24) F dX9_init_24 (inR_lit rfl) ?_
  refine i_iconst (pc := 25) F dX9_init_25 (inR_lit rfl) ?_
  refine i_mna (pc := 26) (c := 13) (n := 3) (k := 3) (d := 29) F hAO hg (by decide) (by decide) rfl (by decide) (by decide) (by decide) (by decide +kernel) (by decide) (by decide) rfl rfl (fun j hj i => mz29_0 j hj i) (tbm (List.mem_of_getElem? (i := 78) (by decide +kernel)) rfl) ka_int (capI hk hcap (by decide) (by decide)) dX9_init_26 ?_
  have K := K.nx (i := 4) (j := 12) (a' := 11) (b' := 65) rfl rfl (by decide) (by decide)
  generalize nx X 4 12 = X at K ⊢
  obtain ⟨F, hAO, hr, hin, hR, hk, hcap⟩ := id K
  refine VI.ka (κ' := 13) rfl ?_
  refine i_putR (pc := 30) (c := 1) (ci := 9) (k := 3) (d := 13) F hg inX9 tyX9 tyX9_ok nmX9 rfl (by decide) (by decide) rfl (by decide) rfl (tbm (w := Cond.fieldLink RX9 20 "WorkOrders$Works" "changes" "[[I") (List.mem_of_getElem? (i := 95) (by decide +kernel)) rfl) rfl hin rfl rfl rfl dX9_init_30 ?_
  refine VI.nu (ν' := nu3) rfl ?_
  refine i_aload_n (pc := 33) 0 F dX9_init_33 rfl rfl ?_
  refine i_bipush (pc := 34) F dX9_init_34 (inR_lit rfl) (by decide) ?_
  refine i_iconst (pc := 36) F dX9_init_36 (inR_lit rfl) ?_
  refine i_mna (pc := 37) (c := 14) (n := 8) (k := 4) (d := 32) F hAO hg (by decide) (by decide) rfl (by decide) (by decide) (by decide) (by decide +kernel) (by decide) (by decide) rfl rfl (fun j hj i => mz32_0 j hj i) (tbm (List.mem_of_getElem? (i := 78) (by decide +kernel)) rfl) ka_int (capI hk hcap (by decide) (by decide)) dX9_init_37 ?_
  have K := K.nx (i := 9) (j := 40) (a' := 20) (b' := 105) rfl rfl (by decide) (by decide)
  generalize nx X 9 40 = X at K ⊢
  obtain ⟨F, hAO, hr, hin, hR, hk, hcap⟩ := id K
  refine VI.ka (κ' := 22) rfl ?_
  refine i_putR (pc := 41) (c := 1) (ci := 9) (k := 4) (d := 14) F hg inX9 tyX9 tyX9_ok nmX9 rfl (by decide) (by decide) rfl (by decide) rfl (tbm (w := Cond.fieldLink RX9 23 "WorkOrders$Works" "times" "[[I") (List.mem_of_getElem? (i := 97) (by decide +kernel)) rfl) rfl hin rfl rfl rfl dX9_init_41 ?_
  refine VI.nu (ν' := nu4) rfl ?_
  exact i_vret (pc := 44) F hg (by decide) hAO hR hk hr dX9_init_44
def nu5 : Msk := wm nu4 0 0
def nu6 : Msk := wm nu5 2 2

set_option maxHeartbeats 4000000 in
set_option maxRecDepth 100000 in
theorem ci_X6_init {g : Wc} {B : Nat} {l : Launch} (hg : Gq g B) : MI g B l yX6_init cX6_init 1 1 1 8 [Rv 2] nu5 mu0 23 nu6 mu0 24 := by
  refine i_enter (own := RX6) (by decide) rfl rfl (Nat.le_of_ble_eq_true rfl) (fun a ha => by simp at ha; rcases ha with rfl | ha <;> first | trivial | (rcases ha with rfl | rfl <;> trivial) | (subst ha; trivial)) rg0 (fun X hl F hAO hr hin hR hk hcap => ?_)
  subst hl
  have K : KI g B X cX6_init RX6 1 1 1 8 0 0 (QN g B nu6 mu0 24) := ⟨F, hAO, hr, hin, hR, hk, hcap⟩
  show VI g B nu5 23 X 1 mu0 [(0, Rv 2)] 0 []
  refine i_aload_n (pc := 0) 0 F dX6_init_0 rfl rfl ?_
  refine i_objInit (pc := 1) F (by decide) (tbm (List.mem_of_getElem? (i := 119) (by decide +kernel)) rfl) km_obj.1 km_obj.2 (Nat.le_of_ble_eq_true rfl) dX6_init_1 ?_
  refine i_aload_n (pc := 4) 0 F dX6_init_4 rfl rfl ?_
  refine i_bipush (pc := 5) F dX6_init_5 (inR_lit rfl) (by decide) ?_
  refine i_newI (pc := 7) (c := 75) (n := 8) F hg (by decide) (by decide) (by decide) (by decide) (by decide) rfl (fun _ => rfl) ka_int (capI hk hcap (by decide) (by decide)) dX6_init_7 ?_
  have K := K.nx (i := 1) (j := 8) (a' := 1) (b' := 8) rfl rfl (by decide) (by decide)
  generalize nx X 1 8 = X at K ⊢
  obtain ⟨F, hAO, hr, hin, hR, hk, hcap⟩ := id K
  refine VI.ka (κ' := 24) rfl ?_
  refine i_putR (pc := 9) (c := 2) (ci := 6) (k := 2) (d := 75) F hg inX6 tyX6 tyX6_ok nmX6 rfl (by decide) (by decide) rfl (by decide) rfl (tbm (w := Cond.fieldLink RX6 9 "WorkOrders$ToldOrder" "order" "[I") (List.mem_of_getElem? (i := 123) (by decide +kernel)) rfl) rfl hin rfl rfl rfl dX6_init_9 ?_
  refine VI.nu (ν' := nu6) rfl ?_
  exact i_vret (pc := 12) F hg (by decide) hAO hR hk hr dX6_init_12
def nu7 : Msk := wm nu6 0 1
def nu8 : Msk := wm nu7 3 1
def nu9 : Msk := wm nu8 3 4
def nu10 : Msk := wm nu9 3 5
def nu11 : Msk := wm nu10 3 6
def nu12 : Msk := wm nu11 3 0

set_option maxHeartbeats 4000000 in
set_option maxRecDepth 100000 in
theorem ci_X2_init {g : Wc} {B : Nat} {l : Launch} (hg : Gq g B) : MI g B l yX2_init cX2_init 2 1 4 1552 [Rv 3, Rv 1] nu7 mu0 25 nu12 mu0 29 := by
  refine i_enter (own := RX2) (by decide) rfl rfl (Nat.le_of_ble_eq_true rfl) (fun a ha => by simp at ha; rcases ha with rfl | ha <;> first | trivial | (rcases ha with rfl | rfl <;> trivial) | (subst ha; trivial)) rg0 (fun X hl F hAO hr hin hR hk hcap => ?_)
  subst hl
  have K : KI g B X cX2_init RX2 2 1 4 1552 0 0 (QN g B nu12 mu0 29) := ⟨F, hAO, hr, hin, hR, hk, hcap⟩
  show VI g B nu7 25 X 2 mu0 [(0, Rv 3), (1, Rv 1)] 0 []
  refine i_aload_n (pc := 0) 0 F dX2_init_0 rfl rfl ?_
  refine i_objInit (pc := 1) F (by decide) (tbm (List.mem_of_getElem? (i := 137) (by decide +kernel)) rfl) km_obj.1 km_obj.2 (Nat.le_of_ble_eq_true rfl) dX2_init_1 ?_
  refine i_aload_n (pc := 4) 0 F dX2_init_4 rfl rfl ?_
  refine i_bipush (pc := 5) F dX2_init_5 (inR_lit rfl) (by decide) ?_
  refine i_newI (pc := 7) (c := 76) (n := 8) F hg (by decide) (by decide) (by decide) (by decide) (by decide) rfl (fun _ => rfl) ka_int (capI hk hcap (by decide) (by decide)) dX2_init_7 ?_
  have K := K.nx (i := 1) (j := 8) (a' := 1) (b' := 8) rfl rfl (by decide) (by decide)
  generalize nx X 1 8 = X at K ⊢
  obtain ⟨F, hAO, hr, hin, hR, hk, hcap⟩ := id K
  refine VI.ka (κ' := 26) rfl ?_
  refine i_putR (pc := 9) (c := 3) (ci := 2) (k := 1) (d := 76) F hg inX2 tyX2 tyX2_ok nmX2 rfl (by decide) (by decide) rfl (by decide) rfl (tbm (w := Cond.fieldLink RX2 9 "WorkOrders$BestOrder" "order" "[I") (List.mem_of_getElem? (i := 139) (by decide +kernel)) rfl) rfl hin rfl rfl rfl dX2_init_9 ?_
  refine VI.nu (ν' := nu8) rfl ?_
  refine i_aload_n (pc := 12) 0 F dX2_init_12 rfl rfl ?_
  refine i_bipush (pc := 13) F dX2_init_13 (inR_lit rfl) (by decide) ?_
  refine i_newI (pc := 15) (c := 77) (n := 8) F hg (by decide) (by decide) (by decide) (by decide) (by decide) rfl (fun _ => rfl) ka_int (capI hk hcap (by decide) (by decide)) dX2_init_15 ?_
  have K := K.nx (i := 1) (j := 8) (a' := 2) (b' := 16) rfl rfl (by decide) (by decide)
  generalize nx X 1 8 = X at K ⊢
  obtain ⟨F, hAO, hr, hin, hR, hk, hcap⟩ := id K
  refine VI.ka (κ' := 27) rfl ?_
  refine i_putR (pc := 17) (c := 3) (ci := 2) (k := 4) (d := 77) F hg inX2 tyX2 tyX2_ok nmX2 rfl (by decide) (by decide) rfl (by decide) rfl (tbm (w := Cond.fieldLink RX2 15 "WorkOrders$BestOrder" "trial" "[I") (List.mem_of_getElem? (i := 144) (by decide +kernel)) rfl) rfl hin rfl rfl rfl dX2_init_17 ?_
  refine VI.nu (ν' := nu9) rfl ?_
  refine i_aload_n (pc := 20) 0 F dX2_init_20 rfl rfl ?_
  refine i_sipush (pc := 21) F dX2_init_21 (inR_lit rfl) (by decide) ?_
  refine i_newI (pc := 24) (c := 78) (n := 768) F hg (by decide) (by decide) (by decide) (by decide) (by decide) rfl (fun _ => rfl) ka_int (capI hk hcap (by decide) (by decide)) dX2_init_24 ?_
  have K := K.nx (i := 1) (j := 768) (a' := 3) (b' := 784) rfl rfl (by decide) (by decide)
  generalize nx X 1 768 = X at K ⊢
  obtain ⟨F, hAO, hr, hin, hR, hk, hcap⟩ := id K
  refine VI.ka (κ' := 28) rfl ?_
  refine i_putR (pc := 26) (c := 3) (ci := 2) (k := 5) (d := 78) F hg inX2 tyX2 tyX2_ok nmX2 rfl (by decide) (by decide) rfl (by decide) rfl (tbm (w := Cond.fieldLink RX2 18 "WorkOrders$BestOrder" "triedEnd" "[I") (List.mem_of_getElem? (i := 145) (by decide +kernel)) rfl) rfl hin rfl rfl rfl dX2_init_26 ?_
  refine VI.nu (ν' := nu10) rfl ?_
  refine i_aload_n (pc := 29) 0 F dX2_init_29 rfl rfl ?_
  refine i_sipush (pc := 30) F dX2_init_30 (inR_lit rfl) (by decide) ?_
  refine i_newI (pc := 33) (c := 79) (n := 768) F hg (by decide) (by decide) (by decide) (by decide) (by decide) rfl (fun _ => rfl) ka_int (capI hk hcap (by decide) (by decide)) dX2_init_33 ?_
  have K := K.nx (i := 1) (j := 768) (a' := 4) (b' := 1552) rfl rfl (by decide) (by decide)
  generalize nx X 1 768 = X at K ⊢
  obtain ⟨F, hAO, hr, hin, hR, hk, hcap⟩ := id K
  refine VI.ka (κ' := 29) rfl ?_
  refine i_putR (pc := 35) (c := 3) (ci := 2) (k := 6) (d := 79) F hg inX2 tyX2 tyX2_ok nmX2 rfl (by decide) (by decide) rfl (by decide) rfl (tbm (w := Cond.fieldLink RX2 21 "WorkOrders$BestOrder" "triedMade" "[I") (List.mem_of_getElem? (i := 146) (by decide +kernel)) rfl) rfl hin rfl rfl rfl dX2_init_35 ?_
  refine VI.nu (ν' := nu11) rfl ?_
  refine i_aload_n (pc := 38) 0 F dX2_init_38 rfl rfl ?_
  refine i_aload_n (pc := 39) 1 F dX2_init_39 rfl rfl ?_
  refine i_putR (pc := 40) (c := 3) (ci := 2) (k := 0) (d := 1) F hg inX2 tyX2 tyX2_ok nmX2 rfl (by decide) (by decide) rfl (by decide) rfl (tbm (w := Cond.fieldLink RX2 24 "WorkOrders$BestOrder" "works" "LWorkOrders$Works;") (List.mem_of_getElem? (i := 138) (by decide +kernel)) rfl) rfl hin rfl rfl rfl dX2_init_40 ?_
  refine VI.nu (ν' := nu12) rfl ?_
  exact i_vret (pc := 43) F hg (by decide) hAO hR hk hr dX2_init_43
def nu13 : Msk := wm nu12 0 2
def nu14 : Msk := wm nu13 4 1
def nu15 : Msk := wm nu14 4 0

set_option maxHeartbeats 4000000 in
set_option maxRecDepth 100000 in
theorem ci_X0_init {g : Wc} {B : Nat} {l : Launch} (hg : Gq g B) : MI g B l yX0_init cX0_init 2 1 1 8 [Rv 4, Rv 1] nu13 mu0 30 nu15 mu0 31 := by
  refine i_enter (own := RX0) (by decide) rfl rfl (Nat.le_of_ble_eq_true rfl) (fun a ha => by simp at ha; rcases ha with rfl | ha <;> first | trivial | (rcases ha with rfl | rfl <;> trivial) | (subst ha; trivial)) rg0 (fun X hl F hAO hr hin hR hk hcap => ?_)
  subst hl
  have K : KI g B X cX0_init RX0 2 1 1 8 0 0 (QN g B nu15 mu0 31) := ⟨F, hAO, hr, hin, hR, hk, hcap⟩
  show VI g B nu13 30 X 2 mu0 [(0, Rv 4), (1, Rv 1)] 0 []
  refine i_aload_n (pc := 0) 0 F dX0_init_0 rfl rfl ?_
  refine i_objInit (pc := 1) F (by decide) (tbm (List.mem_of_getElem? (i := 167) (by decide +kernel)) rfl) km_obj.1 km_obj.2 (Nat.le_of_ble_eq_true rfl) dX0_init_1 ?_
  refine i_aload_n (pc := 4) 0 F dX0_init_4 rfl rfl ?_
  refine i_bipush (pc := 5) F dX0_init_5 (inR_lit rfl) (by decide) ?_
  refine i_newI (pc := 7) (c := 80) (n := 8) F hg (by decide) (by decide) (by decide) (by decide) (by decide) rfl (fun _ => rfl) ka_int (capI hk hcap (by decide) (by decide)) dX0_init_7 ?_
  have K := K.nx (i := 1) (j := 8) (a' := 1) (b' := 8) rfl rfl (by decide) (by decide)
  generalize nx X 1 8 = X at K ⊢
  obtain ⟨F, hAO, hr, hin, hR, hk, hcap⟩ := id K
  refine VI.ka (κ' := 31) rfl ?_
  refine i_putR (pc := 9) (c := 4) (ci := 0) (k := 1) (d := 80) F hg inX0 tyX0 tyX0_ok nmX0 rfl (by decide) (by decide) rfl (by decide) rfl (tbm (w := Cond.fieldLink RX0 9 "WorkOrders$BenchRules" "order" "[I") (List.mem_of_getElem? (i := 169) (by decide +kernel)) rfl) rfl hin rfl rfl rfl dX0_init_9 ?_
  refine VI.nu (ν' := nu14) rfl ?_
  refine i_aload_n (pc := 12) 0 F dX0_init_12 rfl rfl ?_
  refine i_aload_n (pc := 13) 1 F dX0_init_13 rfl rfl ?_
  refine i_putR (pc := 14) (c := 4) (ci := 0) (k := 0) (d := 1) F hg inX0 tyX0 tyX0_ok nmX0 rfl (by decide) (by decide) rfl (by decide) rfl (tbm (w := Cond.fieldLink RX0 15 "WorkOrders$BenchRules" "works" "LWorkOrders$Works;") (List.mem_of_getElem? (i := 168) (by decide +kernel)) rfl) rfl hin rfl rfl rfl dX0_init_14 ?_
  refine VI.nu (ν' := nu15) rfl ?_
  exact i_vret (pc := 17) F hg (by decide) hAO hR hk hr dX0_init_17
def nu16 : Msk := wm nu15 0 3
def nu17 : Msk := wm nu16 5 3
def nu18 : Msk := wm nu17 5 0

set_option maxHeartbeats 4000000 in
set_option maxRecDepth 100000 in
theorem ci_X3_init {g : Wc} {B : Nat} {l : Launch} (hg : Gq g B) : MI g B l yX3_init cX3_init 2 1 1 8 [Rv 5, Rv 1] nu16 mu0 32 nu18 mu0 33 := by
  refine i_enter (own := RX3) (by decide) rfl rfl (Nat.le_of_ble_eq_true rfl) (fun a ha => by simp at ha; rcases ha with rfl | ha <;> first | trivial | (rcases ha with rfl | rfl <;> trivial) | (subst ha; trivial)) rg0 (fun X hl F hAO hr hin hR hk hcap => ?_)
  subst hl
  have K : KI g B X cX3_init RX3 2 1 1 8 0 0 (QN g B nu18 mu0 33) := ⟨F, hAO, hr, hin, hR, hk, hcap⟩
  show VI g B nu16 32 X 2 mu0 [(0, Rv 5), (1, Rv 1)] 0 []
  refine i_aload_n (pc := 0) 0 F dX3_init_0 rfl rfl ?_
  refine i_objInit (pc := 1) F (by decide) (tbm (List.mem_of_getElem? (i := 185) (by decide +kernel)) rfl) km_obj.1 km_obj.2 (Nat.le_of_ble_eq_true rfl) dX3_init_1 ?_
  refine i_aload_n (pc := 4) 0 F dX3_init_4 rfl rfl ?_
  refine i_bipush (pc := 5) F dX3_init_5 (inR_lit rfl) (by decide) ?_
  refine i_newI (pc := 7) (c := 81) (n := 8) F hg (by decide) (by decide) (by decide) (by decide) (by decide) rfl (fun _ => rfl) ka_int (capI hk hcap (by decide) (by decide)) dX3_init_7 ?_
  have K := K.nx (i := 1) (j := 8) (a' := 1) (b' := 8) rfl rfl (by decide) (by decide)
  generalize nx X 1 8 = X at K ⊢
  obtain ⟨F, hAO, hr, hin, hR, hk, hcap⟩ := id K
  refine VI.ka (κ' := 33) rfl ?_
  refine i_putR (pc := 9) (c := 5) (ci := 3) (k := 3) (d := 81) F hg inX3 tyX3 tyX3_ok nmX3 rfl (by decide) (by decide) rfl (by decide) rfl (tbm (w := Cond.fieldLink RX3 9 "WorkOrders$BrokenWork" "left" "[I") (List.mem_of_getElem? (i := 191) (by decide +kernel)) rfl) rfl hin rfl rfl rfl dX3_init_9 ?_
  refine VI.nu (ν' := nu17) rfl ?_
  refine i_aload_n (pc := 12) 0 F dX3_init_12 rfl rfl ?_
  refine i_aload_n (pc := 13) 1 F dX3_init_13 rfl rfl ?_
  refine i_putR (pc := 14) (c := 5) (ci := 3) (k := 0) (d := 1) F hg inX3 tyX3 tyX3_ok nmX3 rfl (by decide) (by decide) rfl (by decide) rfl (tbm (w := Cond.fieldLink RX3 15 "WorkOrders$BrokenWork" "works" "LWorkOrders$Works;") (List.mem_of_getElem? (i := 186) (by decide +kernel)) rfl) rfl hin rfl rfl rfl dX3_init_14 ?_
  refine VI.nu (ν' := nu18) rfl ?_
  exact i_vret (pc := 17) F hg (by decide) hAO hR hk hr dX3_init_17
def nu19 : Msk := wm nu18 0 4
def mu1 : Mem := wr mu0 6 1 2
theorem rg1 : RngM mu1 := wr_rng rg0 (inR_lit rfl)
def mu2 : Mem := wr mu1 82 0 9
theorem rg2 : RngM mu2 := wr_rng rg1 (inR_lit rfl)
def mu3 : Mem := wr mu2 82 1 9
theorem rg3 : RngM mu3 := wr_rng rg2 (inR_lit rfl)
def mu4 : Mem := wr mu3 82 2 9
theorem rg4 : RngM mu4 := wr_rng rg3 (inR_lit rfl)
def mu5 : Mem := wr mu4 82 3 9
theorem rg5 : RngM mu5 := wr_rng rg4 (inR_lit rfl)
def nu20 : Msk := wm nu19 6 2
def nu21 : Msk := wm nu20 6 3
def nu22 : Msk := wm nu21 6 4
def nu23 : Msk := wm nu22 6 0
theorem mz40_5 : ∀ j, j < 8 → ∀ i, mu5 (40 + j) i = 0 := by
  intro j hj i
  have : j = 0 ∨ j = 1 ∨ j = 2 ∨ j = 3 ∨ j = 4 ∨ j = 5 ∨ j = 6 ∨ j = 7 := by omega
  rcases this with rfl | rfl | rfl | rfl | rfl | rfl | rfl | rfl <;> rfl
theorem mz48_5 : ∀ j, j < 8 → ∀ i, mu5 (48 + j) i = 0 := by
  intro j hj i
  have : j = 0 ∨ j = 1 ∨ j = 2 ∨ j = 3 ∨ j = 4 ∨ j = 5 ∨ j = 6 ∨ j = 7 := by omega
  rcases this with rfl | rfl | rfl | rfl | rfl | rfl | rfl | rfl <;> rfl
set_option maxHeartbeats 4000000 in
set_option maxRecDepth 100000 in
theorem ci_X4_init {g : Wc} {B : Nat} {l : Launch} (hg : Gq g B) : MI g B l yX4_init cX4_init 2 1 19 84 [Rv 6, Rv 1] nu19 mu0 34 nu23 mu5 53 := by
  refine i_enter (own := RX4) (by decide) rfl rfl (Nat.le_of_ble_eq_true rfl) (fun a ha => by simp at ha; rcases ha with rfl | ha <;> first | trivial | (rcases ha with rfl | rfl <;> trivial) | (subst ha; trivial)) rg0 (fun X hl F hAO hr hin hR hk hcap => ?_)
  subst hl
  have K : KI g B X cX4_init RX4 2 1 19 84 0 0 (QN g B nu23 mu5 53) := ⟨F, hAO, hr, hin, hR, hk, hcap⟩
  show VI g B nu19 34 X 2 mu0 [(0, Rv 6), (1, Rv 1)] 0 []
  refine i_aload_n (pc := 0) 0 F dX4_init_0 rfl rfl ?_
  refine i_objInit (pc := 1) F (by decide) (tbm (List.mem_of_getElem? (i := 206) (by decide +kernel)) rfl) km_obj.1 km_obj.2 (Nat.le_of_ble_eq_true rfl) dX4_init_1 ?_
  refine i_aload_n (pc := 4) 0 F dX4_init_4 rfl rfl ?_
  refine i_iconst (pc := 5) F dX4_init_5 (inR_lit rfl) ?_
  refine i_putI (pc := 6) (c := 6) (ci := 4) (k := 1) F hg inX4 tyX4 tyX4_ok nmX4 rfl (by decide) (by decide) rfl (by decide) rfl (tbm (w := Cond.fieldLink RX4 9 "WorkOrders$Row" "size" "I") (List.mem_of_getElem? (i := 209) (by decide +kernel)) rfl) rfl rfl dX4_init_6 ?_
  refine VI.mu (μ' := mu1) rfl ?_
  refine i_aload_n (pc := 9) 0 F dX4_init_9 rfl rfl ?_
  refine i_iconst (pc := 10) F dX4_init_10 (inR_lit rfl) ?_
  refine i_newI (pc := 11) (c := 82) (n := 4) F hg (by decide) (by decide) (by decide) (by decide) (by decide) rfl (fun _ => rfl) ka_int (capI hk hcap (by decide) (by decide)) dX4_init_11 ?_
  have K := K.nx (i := 1) (j := 4) (a' := 1) (b' := 4) rfl rfl (by decide) (by decide)
  generalize nx X 1 4 = X at K ⊢
  obtain ⟨F, hAO, hr, hin, hR, hk, hcap⟩ := id K
  refine VI.ka (κ' := 35) rfl ?_
  refine i_dup (pc := 13) F dX4_init_13 rfl ?_
  refine i_iconst (pc := 14) F dX4_init_14 (inR_lit rfl) ?_
  refine i_bipush (pc := 15) F dX4_init_15 (inR_lit rfl) (by decide) ?_
  refine i_iast (pc := 17) (c := 82) (n := 4) (k := 0) F hg (by decide) (by decide) (by decide) (by decide) rfl (by decide) dX4_init_17 ?_
  refine VI.mu (μ' := mu2) rfl ?_
  refine i_dup (pc := 18) F dX4_init_18 rfl ?_
  refine i_iconst (pc := 19) F dX4_init_19 (inR_lit rfl) ?_
  refine i_bipush (pc := 20) F dX4_init_20 (inR_lit rfl) (by decide) ?_
  refine i_iast (pc := 22) (c := 82) (n := 4) (k := 1) F hg (by decide) (by decide) (by decide) (by decide) rfl (by decide) dX4_init_22 ?_
  refine VI.mu (μ' := mu3) rfl ?_
  refine i_dup (pc := 23) F dX4_init_23 rfl ?_
  refine i_iconst (pc := 24) F dX4_init_24 (inR_lit rfl) ?_
  refine i_bipush (pc := 25) F dX4_init_25 (inR_lit rfl) (by decide) ?_
  refine i_iast (pc := 27) (c := 82) (n := 4) (k := 2) F hg (by decide) (by decide) (by decide) (by decide) rfl (by decide) dX4_init_27 ?_
  refine VI.mu (μ' := mu4) rfl ?_
  refine i_dup (pc := 28) F dX4_init_28 rfl ?_
  refine i_iconst (pc := 29) F dX4_init_29 (inR_lit rfl) ?_
  refine i_bipush (pc := 30) F dX4_init_30 (inR_lit rfl) (by decide) ?_
  refine i_iast (pc := 32) (c := 82) (n := 4) (k := 3) F hg (by decide) (by decide) (by decide) (by decide) rfl (by decide) dX4_init_32 ?_
  refine VI.mu (μ' := mu5) rfl ?_
  refine i_putR (pc := 33) (c := 6) (ci := 4) (k := 2) (d := 82) F hg inX4 tyX4 tyX4_ok nmX4 rfl (by decide) (by decide) rfl (by decide) rfl (tbm (w := Cond.fieldLink RX4 15 "WorkOrders$Row" "ways" "[I") (List.mem_of_getElem? (i := 212) (by decide +kernel)) rfl) rfl hin rfl rfl rfl dX4_init_33 ?_
  refine VI.nu (ν' := nu20) rfl ?_
  refine i_aload_n (pc := 36) 0 F dX4_init_36 rfl rfl ?_
  refine i_bipush (pc := 37) F dX4_init_37 (inR_lit rfl) (by decide) ?_
  refine i_iconst (pc := 39) F dX4_init_39 (inR_lit rfl) ?_
  refine i_mna (pc := 40) (c := 15) (n := 8) (k := 4) (d := 40) F hAO hg (by decide) (by decide) rfl (by decide) (by decide) (by decide) (by decide +kernel) (by decide) (by decide) rfl rfl (fun j hj i => mz40_5 j hj i) (tbm (List.mem_of_getElem? (i := 207) (by decide +kernel)) rfl) ka_int (capI hk hcap (by decide) (by decide)) dX4_init_40 ?_
  have K := K.nx (i := 9) (j := 40) (a' := 10) (b' := 44) rfl rfl (by decide) (by decide)
  generalize nx X 9 40 = X at K ⊢
  obtain ⟨F, hAO, hr, hin, hR, hk, hcap⟩ := id K
  refine VI.ka (κ' := 44) rfl ?_
  refine i_putR (pc := 44) (c := 6) (ci := 4) (k := 3) (d := 15) F hg inX4 tyX4 tyX4_ok nmX4 rfl (by decide) (by decide) rfl (by decide) rfl (tbm (w := Cond.fieldLink RX4 21 "WorkOrders$Row" "begins" "[[I") (List.mem_of_getElem? (i := 214) (by decide +kernel)) rfl) rfl hin rfl rfl rfl dX4_init_44 ?_
  refine VI.nu (ν' := nu21) rfl ?_
  refine i_aload_n (pc := 47) 0 F dX4_init_47 rfl rfl ?_
  refine i_bipush (pc := 48) F dX4_init_48 (inR_lit rfl) (by decide) ?_
  refine i_iconst (pc := 50) F dX4_init_50 (inR_lit rfl) ?_
  refine i_mna (pc := 51) (c := 16) (n := 8) (k := 4) (d := 48) F hAO hg (by decide) (by decide) rfl (by decide) (by decide) (by decide) (by decide +kernel) (by decide) (by decide) rfl rfl (fun j hj i => mz48_5 j hj i) (tbm (List.mem_of_getElem? (i := 207) (by decide +kernel)) rfl) ka_int (capI hk hcap (by decide) (by decide)) dX4_init_51 ?_
  have K := K.nx (i := 9) (j := 40) (a' := 19) (b' := 84) rfl rfl (by decide) (by decide)
  generalize nx X 9 40 = X at K ⊢
  obtain ⟨F, hAO, hr, hin, hR, hk, hcap⟩ := id K
  refine VI.ka (κ' := 53) rfl ?_
  refine i_putR (pc := 55) (c := 6) (ci := 4) (k := 4) (d := 16) F hg inX4 tyX4 tyX4_ok nmX4 rfl (by decide) (by decide) rfl (by decide) rfl (tbm (w := Cond.fieldLink RX4 24 "WorkOrders$Row" "leaves" "[[I") (List.mem_of_getElem? (i := 215) (by decide +kernel)) rfl) rfl hin rfl rfl rfl dX4_init_55 ?_
  refine VI.nu (ν' := nu22) rfl ?_
  refine i_aload_n (pc := 58) 0 F dX4_init_58 rfl rfl ?_
  refine i_aload_n (pc := 59) 1 F dX4_init_59 rfl rfl ?_
  refine i_putR (pc := 60) (c := 6) (ci := 4) (k := 0) (d := 1) F hg inX4 tyX4 tyX4_ok nmX4 rfl (by decide) (by decide) rfl (by decide) rfl (tbm (w := Cond.fieldLink RX4 27 "WorkOrders$Row" "works" "LWorkOrders$Works;") (List.mem_of_getElem? (i := 208) (by decide +kernel)) rfl) rfl hin rfl rfl rfl dX4_init_60 ?_
  refine VI.nu (ν' := nu23) rfl ?_
  exact i_vret (pc := 63) F hg (by decide) hAO hR hk hr dX4_init_63
def nu24 : Msk := wm nu23 0 5
def nu25 : Msk := wm nu24 7 2
def nu26 : Msk := wm nu25 7 5
def nu27 : Msk := wm nu26 7 6
def nu28 : Msk := wm nu27 7 0
def nu29 : Msk := wm nu28 7 1
theorem mz56_5 : ∀ j, j < 8 → ∀ i, mu5 (56 + j) i = 0 := by
  intro j hj i
  have : j = 0 ∨ j = 1 ∨ j = 2 ∨ j = 3 ∨ j = 4 ∨ j = 5 ∨ j = 6 ∨ j = 7 := by omega
  rcases this with rfl | rfl | rfl | rfl | rfl | rfl | rfl | rfl <;> rfl
set_option maxHeartbeats 4000000 in
set_option maxRecDepth 100000 in
theorem ci_X1_init {g : Wc} {B : Nat} {l : Launch} (hg : Gq g B) : MI g B l yX1_init cX1_init 3 1 11 56 [Rv 7, Rv 1, Rv 6] nu24 mu5 54 nu29 mu5 65 := by
  refine i_enter (own := RX1) (by decide) rfl rfl (Nat.le_of_ble_eq_true rfl) (fun a ha => by simp at ha; rcases ha with rfl | ha <;> first | trivial | (rcases ha with rfl | rfl <;> trivial) | (subst ha; trivial)) rg5 (fun X hl F hAO hr hin hR hk hcap => ?_)
  subst hl
  have K : KI g B X cX1_init RX1 3 1 11 56 0 0 (QN g B nu29 mu5 65) := ⟨F, hAO, hr, hin, hR, hk, hcap⟩
  show VI g B nu24 54 X 3 mu5 [(0, Rv 7), (1, Rv 1), (2, Rv 6)] 0 []
  refine i_aload_n (pc := 0) 0 F dX1_init_0 rfl rfl ?_
  refine i_objInit (pc := 1) F (by decide) (tbm (List.mem_of_getElem? (i := 233) (by decide +kernel)) rfl) km_obj.1 km_obj.2 (Nat.le_of_ble_eq_true rfl) dX1_init_1 ?_
  refine i_aload_n (pc := 4) 0 F dX1_init_4 rfl rfl ?_
  refine i_bipush (pc := 5) F dX1_init_5 (inR_lit rfl) (by decide) ?_
  refine i_newI (pc := 7) (c := 83) (n := 8) F hg (by decide) (by decide) (by decide) (by decide) (by decide) rfl (fun _ => rfl) ka_int (capI hk hcap (by decide) (by decide)) dX1_init_7 ?_
  have K := K.nx (i := 1) (j := 8) (a' := 1) (b' := 8) rfl rfl (by decide) (by decide)
  generalize nx X 1 8 = X at K ⊢
  obtain ⟨F, hAO, hr, hin, hR, hk, hcap⟩ := id K
  refine VI.ka (κ' := 55) rfl ?_
  refine i_putR (pc := 9) (c := 7) (ci := 1) (k := 2) (d := 83) F hg inX1 tyX1 tyX1_ok nmX1 rfl (by decide) (by decide) rfl (by decide) rfl (tbm (w := Cond.fieldLink RX1 9 "WorkOrders$BestInRow" "order" "[I") (List.mem_of_getElem? (i := 237) (by decide +kernel)) rfl) rfl hin rfl rfl rfl dX1_init_9 ?_
  refine VI.nu (ν' := nu25) rfl ?_
  refine i_aload_n (pc := 12) 0 F dX1_init_12 rfl rfl ?_
  refine i_bipush (pc := 13) F dX1_init_13 (inR_lit rfl) (by decide) ?_
  refine i_newI (pc := 15) (c := 84) (n := 8) F hg (by decide) (by decide) (by decide) (by decide) (by decide) rfl (fun _ => rfl) ka_int (capI hk hcap (by decide) (by decide)) dX1_init_15 ?_
  have K := K.nx (i := 1) (j := 8) (a' := 2) (b' := 16) rfl rfl (by decide) (by decide)
  generalize nx X 1 8 = X at K ⊢
  obtain ⟨F, hAO, hr, hin, hR, hk, hcap⟩ := id K
  refine VI.ka (κ' := 56) rfl ?_
  refine i_putR (pc := 17) (c := 7) (ci := 1) (k := 5) (d := 84) F hg inX1 tyX1 tyX1_ok nmX1 rfl (by decide) (by decide) rfl (by decide) rfl (tbm (w := Cond.fieldLink RX1 15 "WorkOrders$BestInRow" "trial" "[I") (List.mem_of_getElem? (i := 242) (by decide +kernel)) rfl) rfl hin rfl rfl rfl dX1_init_17 ?_
  refine VI.nu (ν' := nu26) rfl ?_
  refine i_aload_n (pc := 20) 0 F dX1_init_20 rfl rfl ?_
  refine i_bipush (pc := 21) F dX1_init_21 (inR_lit rfl) (by decide) ?_
  refine i_iconst (pc := 23) F dX1_init_23 (inR_lit rfl) ?_
  refine i_mna (pc := 24) (c := 17) (n := 8) (k := 4) (d := 56) F hAO hg (by decide) (by decide) rfl (by decide) (by decide) (by decide) (by decide +kernel) (by decide) (by decide) rfl rfl (fun j hj i => mz56_5 j hj i) (tbm (List.mem_of_getElem? (i := 234) (by decide +kernel)) rfl) ka_int (capI hk hcap (by decide) (by decide)) dX1_init_24 ?_
  have K := K.nx (i := 9) (j := 40) (a' := 11) (b' := 56) rfl rfl (by decide) (by decide)
  generalize nx X 9 40 = X at K ⊢
  obtain ⟨F, hAO, hr, hin, hR, hk, hcap⟩ := id K
  refine VI.ka (κ' := 65) rfl ?_
  refine i_putR (pc := 28) (c := 7) (ci := 1) (k := 6) (d := 17) F hg inX1 tyX1 tyX1_ok nmX1 rfl (by decide) (by decide) rfl (by decide) rfl (tbm (w := Cond.fieldLink RX1 20 "WorkOrders$BestInRow" "behind" "[[I") (List.mem_of_getElem? (i := 243) (by decide +kernel)) rfl) rfl hin rfl rfl rfl dX1_init_28 ?_
  refine VI.nu (ν' := nu27) rfl ?_
  refine i_aload_n (pc := 31) 0 F dX1_init_31 rfl rfl ?_
  refine i_aload_n (pc := 32) 1 F dX1_init_32 rfl rfl ?_
  refine i_putR (pc := 33) (c := 7) (ci := 1) (k := 0) (d := 1) F hg inX1 tyX1 tyX1_ok nmX1 rfl (by decide) (by decide) rfl (by decide) rfl (tbm (w := Cond.fieldLink RX1 23 "WorkOrders$BestInRow" "works" "LWorkOrders$Works;") (List.mem_of_getElem? (i := 235) (by decide +kernel)) rfl) rfl hin rfl rfl rfl dX1_init_33 ?_
  refine VI.nu (ν' := nu28) rfl ?_
  refine i_aload_n (pc := 36) 0 F dX1_init_36 rfl rfl ?_
  refine i_aload_n (pc := 37) 2 F dX1_init_37 rfl rfl ?_
  refine i_putR (pc := 38) (c := 7) (ci := 1) (k := 1) (d := 6) F hg inX1 tyX1 tyX1_ok nmX1 rfl (by decide) (by decide) rfl (by decide) rfl (tbm (w := Cond.fieldLink RX1 27 "WorkOrders$BestInRow" "row" "LWorkOrders$Row;") (List.mem_of_getElem? (i := 236) (by decide +kernel)) rfl) rfl hin rfl rfl rfl dX1_init_38 ?_
  refine VI.nu (ν' := nu29) rfl ?_
  exact i_vret (pc := 41) F hg (by decide) hAO hR hk hr dX1_init_41
def nu30 : Msk := wm nu29 0 6
def nu31 : Msk := wm nu30 8 1
def nu32 : Msk := wm nu31 8 0

set_option maxHeartbeats 4000000 in
set_option maxRecDepth 100000 in
theorem ci_X5_init {g : Wc} {B : Nat} {l : Launch} (hg : Gq g B) : MI g B l yX5_init cX5_init 2 1 1 8 [Rv 8, Rv 1] nu30 mu5 66 nu32 mu5 67 := by
  refine i_enter (own := RX5) (by decide) rfl rfl (Nat.le_of_ble_eq_true rfl) (fun a ha => by simp at ha; rcases ha with rfl | ha <;> first | trivial | (rcases ha with rfl | rfl <;> trivial) | (subst ha; trivial)) rg5 (fun X hl F hAO hr hin hR hk hcap => ?_)
  subst hl
  have K : KI g B X cX5_init RX5 2 1 1 8 0 0 (QN g B nu32 mu5 67) := ⟨F, hAO, hr, hin, hR, hk, hcap⟩
  show VI g B nu30 66 X 2 mu5 [(0, Rv 8), (1, Rv 1)] 0 []
  refine i_aload_n (pc := 0) 0 F dX5_init_0 rfl rfl ?_
  refine i_objInit (pc := 1) F (by decide) (tbm (List.mem_of_getElem? (i := 264) (by decide +kernel)) rfl) km_obj.1 km_obj.2 (Nat.le_of_ble_eq_true rfl) dX5_init_1 ?_
  refine i_aload_n (pc := 4) 0 F dX5_init_4 rfl rfl ?_
  refine i_bipush (pc := 5) F dX5_init_5 (inR_lit rfl) (by decide) ?_
  refine i_newI (pc := 7) (c := 85) (n := 8) F hg (by decide) (by decide) (by decide) (by decide) (by decide) rfl (fun _ => rfl) ka_int (capI hk hcap (by decide) (by decide)) dX5_init_7 ?_
  have K := K.nx (i := 1) (j := 8) (a' := 1) (b' := 8) rfl rfl (by decide) (by decide)
  generalize nx X 1 8 = X at K ⊢
  obtain ⟨F, hAO, hr, hin, hR, hk, hcap⟩ := id K
  refine VI.ka (κ' := 67) rfl ?_
  refine i_putR (pc := 9) (c := 8) (ci := 5) (k := 1) (d := 85) F hg inX5 tyX5 tyX5_ok nmX5 rfl (by decide) (by decide) rfl (by decide) rfl (tbm (w := Cond.fieldLink RX5 9 "WorkOrders$RowRule" "order" "[I") (List.mem_of_getElem? (i := 266) (by decide +kernel)) rfl) rfl hin rfl rfl rfl dX5_init_9 ?_
  refine VI.nu (ν' := nu31) rfl ?_
  refine i_aload_n (pc := 12) 0 F dX5_init_12 rfl rfl ?_
  refine i_aload_n (pc := 13) 1 F dX5_init_13 rfl rfl ?_
  refine i_putR (pc := 14) (c := 8) (ci := 5) (k := 0) (d := 1) F hg inX5 tyX5 tyX5_ok nmX5 rfl (by decide) (by decide) rfl (by decide) rfl (tbm (w := Cond.fieldLink RX5 15 "WorkOrders$RowRule" "works" "LWorkOrders$Works;") (List.mem_of_getElem? (i := 265) (by decide +kernel)) rfl) rfl hin rfl rfl rfl dX5_init_14 ?_
  refine VI.nu (ν' := nu32) rfl ?_
  exact i_vret (pc := 17) F hg (by decide) hAO hR hk hr dX5_init_17
def nu33 : Msk := wm nu32 0 7
def nu34 : Msk := wm nu33 9 0
def nu35 : Msk := wm nu34 9 1
def nu36 : Msk := wm nu35 9 2
def nu37 : Msk := wm nu36 9 3
def nu38 : Msk := wm nu37 9 4
def nu39 : Msk := wm nu38 9 5
theorem mz64_5 : ∀ j, j < 2 → ∀ i, mu5 (64 + j) i = 0 := by
  intro j hj i
  have : j = 0 ∨ j = 1 := by omega
  rcases this with rfl | rfl <;> rfl
theorem mz66_5 : ∀ j, j < 2 → ∀ i, mu5 (66 + j) i = 0 := by
  intro j hj i
  have : j = 0 ∨ j = 1 := by omega
  rcases this with rfl | rfl <;> rfl
theorem mz68_5 : ∀ j, j < 2 → ∀ i, mu5 (68 + j) i = 0 := by
  intro j hj i
  have : j = 0 ∨ j = 1 := by omega
  rcases this with rfl | rfl <;> rfl
theorem mz70_5 : ∀ j, j < 2 → ∀ i, mu5 (70 + j) i = 0 := by
  intro j hj i
  have : j = 0 ∨ j = 1 := by omega
  rcases this with rfl | rfl <;> rfl
theorem mz72_5 : ∀ j, j < 2 → ∀ i, mu5 (72 + j) i = 0 := by
  intro j hj i
  have : j = 0 ∨ j = 1 := by omega
  rcases this with rfl | rfl <;> rfl
set_option maxHeartbeats 4000000 in
set_option maxRecDepth 100000 in
theorem ci_X8_init {g : Wc} {B : Nat} {l : Launch} (hg : Gq g B) : MI g B l yX8_init cX8_init 1 1 16 760 [Rv 9] nu33 mu5 68 nu39 mu5 84 := by
  refine i_enter (own := RX8) (by decide) rfl rfl (Nat.le_of_ble_eq_true rfl) (fun a ha => by simp at ha; rcases ha with rfl | ha <;> first | trivial | (rcases ha with rfl | rfl <;> trivial) | (subst ha; trivial)) rg5 (fun X hl F hAO hr hin hR hk hcap => ?_)
  subst hl
  have K : KI g B X cX8_init RX8 1 1 16 760 0 0 (QN g B nu39 mu5 84) := ⟨F, hAO, hr, hin, hR, hk, hcap⟩
  show VI g B nu33 68 X 1 mu5 [(0, Rv 9)] 0 []
  refine i_aload_n (pc := 0) 0 F dX8_init_0 rfl rfl ?_
  refine i_objInit (pc := 1) F (by decide) (tbm (List.mem_of_getElem? (i := 278) (by decide +kernel)) rfl) km_obj.1 km_obj.2 (Nat.le_of_ble_eq_true rfl) dX8_init_1 ?_
  refine i_aload_n (pc := 4) 0 F dX8_init_4 rfl rfl ?_
  refine i_iconst (pc := 5) F dX8_init_5 (inR_lit rfl) ?_
  refine i_newI (pc := 6) (c := 86) (n := 2) F hg (by decide) (by decide) (by decide) (by decide) (by decide) rfl (fun _ => rfl) ka_int (capI hk hcap (by decide) (by decide)) dX8_init_6 ?_
  have K := K.nx (i := 1) (j := 2) (a' := 1) (b' := 2) rfl rfl (by decide) (by decide)
  generalize nx X 1 2 = X at K ⊢
  obtain ⟨F, hAO, hr, hin, hR, hk, hcap⟩ := id K
  refine VI.ka (κ' := 69) rfl ?_
  refine i_putR (pc := 8) (c := 9) (ci := 8) (k := 0) (d := 86) F hg inX8 tyX8 tyX8_ok nmX8 rfl (by decide) (by decide) rfl (by decide) rfl (tbm (w := Cond.fieldLink RX8 9 "WorkOrders$TwoWorks" "sizes" "[I") (List.mem_of_getElem? (i := 280) (by decide +kernel)) rfl) rfl hin rfl rfl rfl dX8_init_8 ?_
  refine VI.nu (ν' := nu34) rfl ?_
  refine i_aload_n (pc := 11) 0 F dX8_init_11 rfl rfl ?_
  refine i_iconst (pc := 12) F dX8_init_12 (inR_lit rfl) ?_
  refine i_bipush (pc := 13) F dX8_init_13 (inR_lit rfl) (by decide) ?_
  refine i_mna (pc := 15) (c := 18) (n := 2) (k := 6) (d := 64) F hAO hg (by decide) (by decide) rfl (by decide) (by decide) (by decide) (by decide +kernel) (by decide) (by decide) rfl rfl (fun j hj i => mz64_5 j hj i) (tbm (List.mem_of_getElem? (i := 279) (by decide +kernel)) rfl) ka_int (capI hk hcap (by decide) (by decide)) dX8_init_15 ?_
  have K := K.nx (i := 3) (j := 14) (a' := 4) (b' := 16) rfl rfl (by decide) (by decide)
  generalize nx X 3 14 = X at K ⊢
  obtain ⟨F, hAO, hr, hin, hR, hk, hcap⟩ := id K
  refine VI.ka (κ' := 72) rfl ?_
  refine i_putR (pc := 19) (c := 9) (ci := 8) (k := 1) (d := 18) F hg inX8 tyX8 tyX8_ok nmX8 rfl (by decide) (by decide) rfl (by decide) rfl (tbm (w := Cond.fieldLink RX8 17 "WorkOrders$TwoWorks" "benchOf" "[[I") (List.mem_of_getElem? (i := 282) (by decide +kernel)) rfl) rfl hin rfl rfl rfl dX8_init_19 ?_
  refine VI.nu (ν' := nu35) rfl ?_
  refine i_aload_n (pc := 22) 0 F dX8_init_22 rfl rfl ?_
  refine i_iconst (pc := 23) F dX8_init_23 (inR_lit rfl) ?_
  refine i_bipush (pc := 24) F dX8_init_24 (inR_lit rfl) (by decide) ?_
  refine i_mna (pc := 26) (c := 19) (n := 2) (k := 6) (d := 66) F hAO hg (by decide) (by decide) rfl (by decide) (by decide) (by decide) (by decide +kernel) (by decide) (by decide) rfl rfl (fun j hj i => mz66_5 j hj i) (tbm (List.mem_of_getElem? (i := 279) (by decide +kernel)) rfl) ka_int (capI hk hcap (by decide) (by decide)) dX8_init_26 ?_
  have K := K.nx (i := 3) (j := 14) (a' := 7) (b' := 30) rfl rfl (by decide) (by decide)
  generalize nx X 3 14 = X at K ⊢
  obtain ⟨F, hAO, hr, hin, hR, hk, hcap⟩ := id K
  refine VI.ka (κ' := 75) rfl ?_
  refine i_putR (pc := 30) (c := 9) (ci := 8) (k := 2) (d := 19) F hg inX8 tyX8 tyX8_ok nmX8 rfl (by decide) (by decide) rfl (by decide) rfl (tbm (w := Cond.fieldLink RX8 20 "WorkOrders$TwoWorks" "minutesOf" "[[I") (List.mem_of_getElem? (i := 283) (by decide +kernel)) rfl) rfl hin rfl rfl rfl dX8_init_30 ?_
  refine VI.nu (ν' := nu36) rfl ?_
  refine i_aload_n (pc := 33) 0 F dX8_init_33 rfl rfl ?_
  refine i_iconst (pc := 34) F dX8_init_34 (inR_lit rfl) ?_
  refine i_bipush (pc := 35) F dX8_init_35 (inR_lit rfl) (by decide) ?_
  refine i_mna (pc := 37) (c := 20) (n := 2) (k := 120) (d := 68) F hAO hg (by decide) (by decide) rfl (by decide) (by decide) (by decide) (by decide +kernel) (by decide) (by decide) rfl rfl (fun j hj i => mz68_5 j hj i) (tbm (List.mem_of_getElem? (i := 279) (by decide +kernel)) rfl) ka_int (capI hk hcap (by decide) (by decide)) dX8_init_37 ?_
  have K := K.nx (i := 3) (j := 242) (a' := 10) (b' := 272) rfl rfl (by decide) (by decide)
  generalize nx X 3 242 = X at K ⊢
  obtain ⟨F, hAO, hr, hin, hR, hk, hcap⟩ := id K
  refine VI.ka (κ' := 78) rfl ?_
  refine i_putR (pc := 41) (c := 9) (ci := 8) (k := 3) (d := 20) F hg inX8 tyX8 tyX8_ok nmX8 rfl (by decide) (by decide) rfl (by decide) rfl (tbm (w := Cond.fieldLink RX8 23 "WorkOrders$TwoWorks" "minuteOn" "[[I") (List.mem_of_getElem? (i := 284) (by decide +kernel)) rfl) rfl hin rfl rfl rfl dX8_init_41 ?_
  refine VI.nu (ν' := nu37) rfl ?_
  refine i_aload_n (pc := 44) 0 F dX8_init_44 rfl rfl ?_
  refine i_iconst (pc := 45) F dX8_init_45 (inR_lit rfl) ?_
  refine i_bipush (pc := 46) F dX8_init_46 (inR_lit rfl) (by decide) ?_
  refine i_mna (pc := 48) (c := 21) (n := 2) (k := 121) (d := 70) F hAO hg (by decide) (by decide) rfl (by decide) (by decide) (by decide) (by decide +kernel) (by decide) (by decide) rfl rfl (fun j hj i => mz70_5 j hj i) (tbm (List.mem_of_getElem? (i := 279) (by decide +kernel)) rfl) ka_int (capI hk hcap (by decide) (by decide)) dX8_init_48 ?_
  have K := K.nx (i := 3) (j := 244) (a' := 13) (b' := 516) rfl rfl (by decide) (by decide)
  generalize nx X 3 244 = X at K ⊢
  obtain ⟨F, hAO, hr, hin, hR, hk, hcap⟩ := id K
  refine VI.ka (κ' := 81) rfl ?_
  refine i_putR (pc := 52) (c := 9) (ci := 8) (k := 4) (d := 21) F hg inX8 tyX8 tyX8_ok nmX8 rfl (by decide) (by decide) rfl (by decide) rfl (tbm (w := Cond.fieldLink RX8 26 "WorkOrders$TwoWorks" "held" "[[I") (List.mem_of_getElem? (i := 285) (by decide +kernel)) rfl) rfl hin rfl rfl rfl dX8_init_52 ?_
  refine VI.nu (ν' := nu38) rfl ?_
  refine i_aload_n (pc := 55) 0 F dX8_init_55 rfl rfl ?_
  refine i_iconst (pc := 56) F dX8_init_56 (inR_lit rfl) ?_
  refine i_bipush (pc := 57) F dX8_init_57 (inR_lit rfl) (by decide) ?_
  refine i_mna (pc := 59) (c := 22) (n := 2) (k := 121) (d := 72) F hAO hg (by decide) (by decide) rfl (by decide) (by decide) (by decide) (by decide +kernel) (by decide) (by decide) rfl rfl (fun j hj i => mz72_5 j hj i) (tbm (List.mem_of_getElem? (i := 279) (by decide +kernel)) rfl) ka_int (capI hk hcap (by decide) (by decide)) dX8_init_59 ?_
  have K := K.nx (i := 3) (j := 244) (a' := 16) (b' := 760) rfl rfl (by decide) (by decide)
  generalize nx X 3 244 = X at K ⊢
  obtain ⟨F, hAO, hr, hin, hR, hk, hcap⟩ := id K
  refine VI.ka (κ' := 84) rfl ?_
  refine i_putR (pc := 63) (c := 9) (ci := 8) (k := 5) (d := 22) F hg inX8 tyX8 tyX8_ok nmX8 rfl (by decide) (by decide) rfl (by decide) rfl (tbm (w := Cond.fieldLink RX8 29 "WorkOrders$TwoWorks" "fewest" "[[I") (List.mem_of_getElem? (i := 286) (by decide +kernel)) rfl) rfl hin rfl rfl rfl dX8_init_63 ?_
  refine VI.nu (ν' := nu39) rfl ?_
  exact i_vret (pc := 66) F hg (by decide) hAO hR hk hr dX8_init_66
def nu40 : Msk := wm nu39 0 8
def mu6 : Mem := wr mu5 10 1 2
theorem rg6 : RngM mu6 := wr_rng rg5 (inR_lit rfl)
def nu41 : Msk := wm nu40 10 2
def nu42 : Msk := wm nu41 10 3
def nu43 : Msk := wm nu42 10 4
def nu44 : Msk := wm nu43 10 5

set_option maxHeartbeats 4000000 in
set_option maxRecDepth 100000 in
theorem ci_X7_init {g : Wc} {B : Nat} {l : Launch} (hg : Gq g B) : MI g B l yX7_init cX7_init 1 1 4 4132 [Rv 10] nu40 mu5 85 nu44 mu6 89 := by
  refine i_enter (own := RX7) (by decide) rfl rfl (Nat.le_of_ble_eq_true rfl) (fun a ha => by simp at ha; rcases ha with rfl | ha <;> first | trivial | (rcases ha with rfl | rfl <;> trivial) | (subst ha; trivial)) rg5 (fun X hl F hAO hr hin hR hk hcap => ?_)
  subst hl
  have K : KI g B X cX7_init RX7 1 1 4 4132 0 0 (QN g B nu44 mu6 89) := ⟨F, hAO, hr, hin, hR, hk, hcap⟩
  show VI g B nu40 85 X 1 mu5 [(0, Rv 10)] 0 []
  refine i_aload_n (pc := 0) 0 F dX7_init_0 rfl rfl ?_
  refine i_objInit (pc := 1) F (by decide) (tbm (List.mem_of_getElem? (i := 305) (by decide +kernel)) rfl) km_obj.1 km_obj.2 (Nat.le_of_ble_eq_true rfl) dX7_init_1 ?_
  refine i_aload_n (pc := 4) 0 F dX7_init_4 rfl rfl ?_
  refine i_iconst (pc := 5) F dX7_init_5 (inR_lit rfl) ?_
  refine i_putI (pc := 6) (c := 10) (ci := 7) (k := 1) F hg inX7 tyX7 tyX7_ok nmX7 rfl (by decide) (by decide) rfl (by decide) rfl (tbm (w := Cond.fieldLink RX7 9 "WorkOrders$Tree" "likeBenches" "I") (List.mem_of_getElem? (i := 308) (by decide +kernel)) rfl) rfl rfl dX7_init_6 ?_
  refine VI.mu (μ' := mu6) rfl ?_
  refine i_aload_n (pc := 9) 0 F dX7_init_9 rfl rfl ?_
  refine i_bipush (pc := 10) F dX7_init_10 (inR_lit rfl) (by decide) ?_
  refine i_newI (pc := 12) (c := 87) (n := 12) F hg (by decide) (by decide) (by decide) (by decide) (by decide) rfl (fun _ => rfl) ka_int (capI hk hcap (by decide) (by decide)) dX7_init_12 ?_
  have K := K.nx (i := 1) (j := 12) (a' := 1) (b' := 12) rfl rfl (by decide) (by decide)
  generalize nx X 1 12 = X at K ⊢
  obtain ⟨F, hAO, hr, hin, hR, hk, hcap⟩ := id K
  refine VI.ka (κ' := 86) rfl ?_
  refine i_putR (pc := 14) (c := 10) (ci := 7) (k := 2) (d := 87) F hg inX7 tyX7 tyX7_ok nmX7 rfl (by decide) (by decide) rfl (by decide) rfl (tbm (w := Cond.fieldLink RX7 15 "WorkOrders$Tree" "minuteOf" "[I") (List.mem_of_getElem? (i := 310) (by decide +kernel)) rfl) rfl hin rfl rfl rfl dX7_init_14 ?_
  refine VI.nu (ν' := nu41) rfl ?_
  refine i_aload_n (pc := 17) 0 F dX7_init_17 rfl rfl ?_
  refine i_bipush (pc := 18) F dX7_init_18 (inR_lit rfl) (by decide) ?_
  refine i_newI (pc := 20) (c := 88) (n := 12) F hg (by decide) (by decide) (by decide) (by decide) (by decide) rfl (fun _ => rfl) ka_int (capI hk hcap (by decide) (by decide)) dX7_init_20 ?_
  have K := K.nx (i := 1) (j := 12) (a' := 2) (b' := 24) rfl rfl (by decide) (by decide)
  generalize nx X 1 12 = X at K ⊢
  obtain ⟨F, hAO, hr, hin, hR, hk, hcap⟩ := id K
  refine VI.ka (κ' := 87) rfl ?_
  refine i_putR (pc := 22) (c := 10) (ci := 7) (k := 3) (d := 88) F hg inX7 tyX7 tyX7_ok nmX7 rfl (by decide) (by decide) rfl (by decide) rfl (tbm (w := Cond.fieldLink RX7 19 "WorkOrders$Tree" "hangsOn" "[I") (List.mem_of_getElem? (i := 312) (by decide +kernel)) rfl) rfl hin rfl rfl rfl dX7_init_22 ?_
  refine VI.nu (ν' := nu42) rfl ?_
  refine i_aload_n (pc := 25) 0 F dX7_init_25 rfl rfl ?_
  refine i_bipush (pc := 26) F dX7_init_26 (inR_lit rfl) (by decide) ?_
  refine i_newI (pc := 28) (c := 89) (n := 12) F hg (by decide) (by decide) (by decide) (by decide) (by decide) rfl (fun _ => rfl) ka_int (capI hk hcap (by decide) (by decide)) dX7_init_28 ?_
  have K := K.nx (i := 1) (j := 12) (a' := 3) (b' := 36) rfl rfl (by decide) (by decide)
  generalize nx X 1 12 = X at K ⊢
  obtain ⟨F, hAO, hr, hin, hR, hk, hcap⟩ := id K
  refine VI.ka (κ' := 88) rfl ?_
  refine i_putR (pc := 30) (c := 10) (ci := 7) (k := 4) (d := 89) F hg inX7 tyX7 tyX7_ok nmX7 rfl (by decide) (by decide) rfl (by decide) rfl (tbm (w := Cond.fieldLink RX7 22 "WorkOrders$Tree" "levelOf" "[I") (List.mem_of_getElem? (i := 313) (by decide +kernel)) rfl) rfl hin rfl rfl rfl dX7_init_30 ?_
  refine VI.nu (ν' := nu43) rfl ?_
  refine i_aload_n (pc := 33) 0 F dX7_init_33 rfl rfl ?_
  refine i_sipush (pc := 34) F dX7_init_34 (inR_lit rfl) (by decide) ?_
  refine i_newB (pc := 37) F hg (by decide) (fun _ => rfl) ka_byte (capI hk hcap (by decide) (by decide)) dX7_init_37 ?_
  have K := K.nx (i := 1) (j := 4096) (a' := 4) (b' := 4132) rfl rfl (by decide) (by decide)
  generalize nx X 1 4096 = X at K ⊢
  obtain ⟨F, hAO, hr, hin, hR, hk, hcap⟩ := id K
  refine VI.ka (κ' := 89) rfl ?_
  refine i_putR (pc := 39) (c := 10) (ci := 7) (k := 5) (d := 23) F hg inX7 tyX7 tyX7_ok nmX7 rfl (by decide) (by decide) rfl (by decide) rfl (tbm (w := Cond.fieldLink RX7 25 "WorkOrders$Tree" "fewest" "[B") (List.mem_of_getElem? (i := 314) (by decide +kernel)) rfl) rfl hin rfl rfl rfl dX7_init_39 ?_
  refine VI.nu (ν' := nu44) rfl ?_
  exact i_vret (pc := 42) F hg (by decide) hAO hR hk hr dX7_init_42
def nu45 : Msk := wm nu44 0 9
theorem dfl9 (g : Wc) : ∀ j, j < 5 → defaultValue (tyX9 j) = vp_V (flds2 g.1 (nu0 1) (mu0 1) 0 [none, some 12, some 74, some 13, some 14]) j := by
  intro j hj
  have : j = 0 ∨ j = 1 ∨ j = 2 ∨ j = 3 ∨ j = 4 := by omega
  rcases this with rfl | rfl | rfl | rfl | rfl <;> rfl
theorem dfl6 (g : Wc) : ∀ j, j < 3 → defaultValue (tyX6 j) = vp_V (flds2 g.1 (nu5 2) (mu0 2) 0 [none, none, some 75]) j := by
  intro j hj
  have : j = 0 ∨ j = 1 ∨ j = 2 := by omega
  rcases this with rfl | rfl | rfl <;> rfl
theorem dfl2 (g : Wc) : ∀ j, j < 7 → defaultValue (tyX2 j) = vp_V (flds2 g.1 (nu7 3) (mu0 3) 0 [some 1, some 76, none, none, some 77, some 78, some 79]) j := by
  intro j hj
  have : j = 0 ∨ j = 1 ∨ j = 2 ∨ j = 3 ∨ j = 4 ∨ j = 5 ∨ j = 6 := by omega
  rcases this with rfl | rfl | rfl | rfl | rfl | rfl | rfl <;> rfl
theorem dfl0 (g : Wc) : ∀ j, j < 3 → defaultValue (tyX0 j) = vp_V (flds2 g.1 (nu13 4) (mu0 4) 0 [some 1, some 80, none]) j := by
  intro j hj
  have : j = 0 ∨ j = 1 ∨ j = 2 := by omega
  rcases this with rfl | rfl | rfl <;> rfl
theorem dfl3 (g : Wc) : ∀ j, j < 4 → defaultValue (tyX3 j) = vp_V (flds2 g.1 (nu16 5) (mu0 5) 0 [some 1, none, none, some 81]) j := by
  intro j hj
  have : j = 0 ∨ j = 1 ∨ j = 2 ∨ j = 3 := by omega
  rcases this with rfl | rfl | rfl | rfl <;> rfl
theorem dfl4 (g : Wc) : ∀ j, j < 5 → defaultValue (tyX4 j) = vp_V (flds2 g.1 (nu19 6) (mu0 6) 0 [some 1, none, some 82, some 15, some 16]) j := by
  intro j hj
  have : j = 0 ∨ j = 1 ∨ j = 2 ∨ j = 3 ∨ j = 4 := by omega
  rcases this with rfl | rfl | rfl | rfl | rfl <;> rfl
theorem dfl1 (g : Wc) : ∀ j, j < 7 → defaultValue (tyX1 j) = vp_V (flds2 g.1 (nu24 7) (mu5 7) 0 [some 1, some 6, some 83, none, none, some 84, some 17]) j := by
  intro j hj
  have : j = 0 ∨ j = 1 ∨ j = 2 ∨ j = 3 ∨ j = 4 ∨ j = 5 ∨ j = 6 := by omega
  rcases this with rfl | rfl | rfl | rfl | rfl | rfl | rfl <;> rfl
theorem dfl5 (g : Wc) : ∀ j, j < 2 → defaultValue (tyX5 j) = vp_V (flds2 g.1 (nu30 8) (mu5 8) 0 [some 1, some 85]) j := by
  intro j hj
  have : j = 0 ∨ j = 1 := by omega
  rcases this with rfl | rfl <;> rfl
theorem dfl8 (g : Wc) : ∀ j, j < 6 → defaultValue (tyX8 j) = vp_V (flds2 g.1 (nu33 9) (mu5 9) 0 [some 86, some 18, some 19, some 20, some 21, some 22]) j := by
  intro j hj
  have : j = 0 ∨ j = 1 ∨ j = 2 ∨ j = 3 ∨ j = 4 ∨ j = 5 := by omega
  rcases this with rfl | rfl | rfl | rfl | rfl | rfl <;> rfl
theorem dfl7 (g : Wc) : ∀ j, j < 6 → defaultValue (tyX7 j) = vp_V (flds2 g.1 (nu40 10) (mu5 10) 0 [none, none, some 87, some 88, some 89, some 23]) j := by
  intro j hj
  have : j = 0 ∨ j = 1 ∨ j = 2 ∨ j = 3 ∨ j = 4 ∨ j = 5 := by omega
  rcases this with rfl | rfl | rfl | rfl | rfl | rfl <;> rfl
set_option maxHeartbeats 4000000 in
set_option maxRecDepth 100000 in
theorem ci_X10_init {g : Wc} {B : Nat} {l : Launch} (hg : Gq g B) : MI g B l yX10_init cX10_init 1 2 88 6769 [Rv 0] nu0 mu0 1 nu45 mu6 89 := by
  refine i_enter (own := RX10) (by decide) rfl rfl (Nat.le_of_ble_eq_true rfl) (fun a ha => by simp at ha; rcases ha with rfl | ha <;> first | trivial | (rcases ha with rfl | rfl <;> trivial) | (subst ha; trivial)) rg0 (fun X hl F hAO hr hin hR hk hcap => ?_)
  subst hl
  have K : KI g B X cX10_init RX10 1 2 88 6769 0 0 (QN g B nu45 mu6 89) := ⟨F, hAO, hr, hin, hR, hk, hcap⟩
  show VI g B nu0 1 X 1 mu0 [(0, Rv 0)] 0 []
  refine i_aload_n (pc := 0) 0 F dX10_init_0 rfl rfl ?_
  refine i_objInit (pc := 1) F (by decide) (tbm (List.mem_of_getElem? (i := 69) (by decide +kernel)) rfl) km_obj.1 km_obj.2 (Nat.le_of_ble_eq_true rfl) dX10_init_1 ?_
  refine i_aload_n (pc := 4) 0 F dX10_init_4 rfl rfl ?_
  refine i_new (pc := 5) (c := 1) (ci := 9) F hg inX9 tyX9 tyX9_ok rfl (by decide) rfl (by decide) (dfl9 g) (tbm (List.mem_of_getElem? (i := 72) (by decide +kernel)) rfl) (tbm (List.mem_of_getElem? (i := 73) (by decide +kernel)) rfl) (tbm (List.mem_of_getElem? (i := 49) (by decide +kernel)) rfl) (capI hk hcap (by decide) (by decide)) dX10_init_5 ?_
  have K := K.nx (i := 1) (j := 5) (a' := 1) (b' := 5) rfl rfl (by decide) (by decide)
  generalize nx X 1 5 = X at K ⊢
  obtain ⟨F, hAO, hr, hin, hR, hk, hcap⟩ := id K
  refine VI.ka (κ' := 2) rfl ?_
  refine i_dup (pc := 8) F dX10_init_8 rfl ?_
  refine i_callN (pc := 9) (host := "WorkOrders") (avs := []) (st := [Rv 1, Rv 0]) (c := 1) F hg hAO (by decide) (ci_X9_init hg) (by decide) cal_X9_init rfl (tbm (List.mem_of_getElem? (i := 75) (by decide +kernel)) rfl) (tbm (List.mem_of_getElem? (i := 74) (by decide +kernel)) rfl) rfl rfl (Nat.le_of_ble_eq_true rfl) (capI hk hcap (by decide) (by decide)) rg0 dX10_init_9 ?_
  have K := K.nx (i := 20) (j := 105) (a' := 21) (b' := 110) rfl rfl (by decide) (by decide)
  generalize nx X 20 105 = X at K ⊢
  obtain ⟨F, hAO, hr, hin, hR, hk, hcap⟩ := id K
  refine i_putR (pc := 12) (c := 0) (ci := 10) (k := 0) (d := 1) F hg inX10 tyX10 tyX10_ok nmX10 rfl (by decide) (by decide) rfl (by decide) rfl (tbm (w := Cond.fieldLink RX10 10 "WorkOrders" "works" "LWorkOrders$Works;") (List.mem_of_getElem? (i := 329) (by decide +kernel)) rfl) rfl hin rfl rfl rfl dX10_init_12 ?_
  refine VI.nu (ν' := nu5) rfl ?_
  refine i_aload_n (pc := 15) 0 F dX10_init_15 rfl rfl ?_
  refine i_new (pc := 16) (c := 2) (ci := 6) F hg inX6 tyX6 tyX6_ok rfl (by decide) rfl (by decide) (dfl6 g) (tbm (List.mem_of_getElem? (i := 114) (by decide +kernel)) rfl) (tbm (List.mem_of_getElem? (i := 115) (by decide +kernel)) rfl) (tbm (List.mem_of_getElem? (i := 50) (by decide +kernel)) rfl) (capI hk hcap (by decide) (by decide)) dX10_init_16 ?_
  have K := K.nx (i := 1) (j := 3) (a' := 22) (b' := 113) rfl rfl (by decide) (by decide)
  generalize nx X 1 3 = X at K ⊢
  obtain ⟨F, hAO, hr, hin, hR, hk, hcap⟩ := id K
  refine VI.ka (κ' := 23) rfl ?_
  refine i_dup (pc := 19) F dX10_init_19 rfl ?_
  refine i_callN (pc := 20) (host := "WorkOrders") (avs := []) (st := [Rv 2, Rv 0]) (c := 2) F hg hAO (by decide) (ci_X6_init hg) (by decide) cal_X6_init rfl (tbm (List.mem_of_getElem? (i := 117) (by decide +kernel)) rfl) (tbm (List.mem_of_getElem? (i := 116) (by decide +kernel)) rfl) rfl rfl (Nat.le_of_ble_eq_true rfl) (capI hk hcap (by decide) (by decide)) rg0 dX10_init_20 ?_
  have K := K.nx (i := 1) (j := 8) (a' := 23) (b' := 121) rfl rfl (by decide) (by decide)
  generalize nx X 1 8 = X at K ⊢
  obtain ⟨F, hAO, hr, hin, hR, hk, hcap⟩ := id K
  refine i_putR (pc := 23) (c := 0) (ci := 10) (k := 1) (d := 2) F hg inX10 tyX10 tyX10_ok nmX10 rfl (by decide) (by decide) rfl (by decide) rfl (tbm (w := Cond.fieldLink RX10 19 "WorkOrders" "told" "LWorkOrders$ToldOrder;") (List.mem_of_getElem? (i := 330) (by decide +kernel)) rfl) rfl hin rfl rfl rfl dX10_init_23 ?_
  refine VI.nu (ν' := nu7) rfl ?_
  refine i_aload_n (pc := 26) 0 F dX10_init_26 rfl rfl ?_
  refine i_new (pc := 27) (c := 3) (ci := 2) F hg inX2 tyX2 tyX2_ok rfl (by decide) rfl (by decide) (dfl2 g) (tbm (List.mem_of_getElem? (i := 132) (by decide +kernel)) rfl) (tbm (List.mem_of_getElem? (i := 133) (by decide +kernel)) rfl) (tbm (List.mem_of_getElem? (i := 51) (by decide +kernel)) rfl) (capI hk hcap (by decide) (by decide)) dX10_init_27 ?_
  have K := K.nx (i := 1) (j := 7) (a' := 24) (b' := 128) rfl rfl (by decide) (by decide)
  generalize nx X 1 7 = X at K ⊢
  obtain ⟨F, hAO, hr, hin, hR, hk, hcap⟩ := id K
  refine VI.ka (κ' := 25) rfl ?_
  refine i_dup (pc := 30) F dX10_init_30 rfl ?_
  refine i_aload_n (pc := 31) 0 F dX10_init_31 rfl rfl ?_
  refine i_getR (pc := 32) (ci := 10) (k := 0) (d := 1) F inX10 rfl (by decide) (by decide) rfl (by decide) rfl rfl (tbm (w := Cond.fieldLink RX10 10 "WorkOrders" "works" "LWorkOrders$Works;") (List.mem_of_getElem? (i := 329) (by decide +kernel)) rfl) dX10_init_32 ?_
  refine i_call (pc := 35) (avs := [Rv 1]) (st := [Rv 3, Rv 0]) (c := 3) F hg hAO (by decide) (ci_X2_init hg) (by decide) cal_X2_init rfl (tbm (List.mem_of_getElem? (i := 135) (by decide +kernel)) rfl) (tbm (List.mem_of_getElem? (i := 134) (by decide +kernel)) rfl) rfl rfl (Nat.le_of_ble_eq_true rfl) (capI hk hcap (by decide) (by decide)) rg0 dX10_init_35 ?_
  have K := K.nx (i := 4) (j := 1552) (a' := 28) (b' := 1680) rfl rfl (by decide) (by decide)
  generalize nx X 4 1552 = X at K ⊢
  obtain ⟨F, hAO, hr, hin, hR, hk, hcap⟩ := id K
  refine i_putR (pc := 38) (c := 0) (ci := 10) (k := 2) (d := 3) F hg inX10 tyX10 tyX10_ok nmX10 rfl (by decide) (by decide) rfl (by decide) rfl (tbm (w := Cond.fieldLink RX10 28 "WorkOrders" "bestOrder" "LWorkOrders$BestOrder;") (List.mem_of_getElem? (i := 331) (by decide +kernel)) rfl) rfl hin rfl rfl rfl dX10_init_38 ?_
  refine VI.nu (ν' := nu13) rfl ?_
  refine i_aload_n (pc := 41) 0 F dX10_init_41 rfl rfl ?_
  refine i_new (pc := 42) (c := 4) (ci := 0) F hg inX0 tyX0 tyX0_ok rfl (by decide) rfl (by decide) (dfl0 g) (tbm (List.mem_of_getElem? (i := 162) (by decide +kernel)) rfl) (tbm (List.mem_of_getElem? (i := 163) (by decide +kernel)) rfl) (tbm (List.mem_of_getElem? (i := 52) (by decide +kernel)) rfl) (capI hk hcap (by decide) (by decide)) dX10_init_42 ?_
  have K := K.nx (i := 1) (j := 3) (a' := 29) (b' := 1683) rfl rfl (by decide) (by decide)
  generalize nx X 1 3 = X at K ⊢
  obtain ⟨F, hAO, hr, hin, hR, hk, hcap⟩ := id K
  refine VI.ka (κ' := 30) rfl ?_
  refine i_dup (pc := 45) F dX10_init_45 rfl ?_
  refine i_aload_n (pc := 46) 0 F dX10_init_46 rfl rfl ?_
  refine i_getR (pc := 47) (ci := 10) (k := 0) (d := 1) F inX10 rfl (by decide) (by decide) rfl (by decide) rfl rfl (tbm (w := Cond.fieldLink RX10 10 "WorkOrders" "works" "LWorkOrders$Works;") (List.mem_of_getElem? (i := 329) (by decide +kernel)) rfl) dX10_init_47 ?_
  refine i_call (pc := 50) (avs := [Rv 1]) (st := [Rv 4, Rv 0]) (c := 4) F hg hAO (by decide) (ci_X0_init hg) (by decide) cal_X0_init rfl (tbm (List.mem_of_getElem? (i := 165) (by decide +kernel)) rfl) (tbm (List.mem_of_getElem? (i := 164) (by decide +kernel)) rfl) rfl rfl (Nat.le_of_ble_eq_true rfl) (capI hk hcap (by decide) (by decide)) rg0 dX10_init_50 ?_
  have K := K.nx (i := 1) (j := 8) (a' := 30) (b' := 1691) rfl rfl (by decide) (by decide)
  generalize nx X 1 8 = X at K ⊢
  obtain ⟨F, hAO, hr, hin, hR, hk, hcap⟩ := id K
  refine i_putR (pc := 53) (c := 0) (ci := 10) (k := 3) (d := 4) F hg inX10 tyX10 tyX10_ok nmX10 rfl (by decide) (by decide) rfl (by decide) rfl (tbm (w := Cond.fieldLink RX10 35 "WorkOrders" "benchRules" "LWorkOrders$BenchRules;") (List.mem_of_getElem? (i := 332) (by decide +kernel)) rfl) rfl hin rfl rfl rfl dX10_init_53 ?_
  refine VI.nu (ν' := nu16) rfl ?_
  refine i_aload_n (pc := 56) 0 F dX10_init_56 rfl rfl ?_
  refine i_new (pc := 57) (c := 5) (ci := 3) F hg inX3 tyX3 tyX3_ok rfl (by decide) rfl (by decide) (dfl3 g) (tbm (List.mem_of_getElem? (i := 180) (by decide +kernel)) rfl) (tbm (List.mem_of_getElem? (i := 181) (by decide +kernel)) rfl) (tbm (List.mem_of_getElem? (i := 53) (by decide +kernel)) rfl) (capI hk hcap (by decide) (by decide)) dX10_init_57 ?_
  have K := K.nx (i := 1) (j := 4) (a' := 31) (b' := 1695) rfl rfl (by decide) (by decide)
  generalize nx X 1 4 = X at K ⊢
  obtain ⟨F, hAO, hr, hin, hR, hk, hcap⟩ := id K
  refine VI.ka (κ' := 32) rfl ?_
  refine i_dup (pc := 60) F dX10_init_60 rfl ?_
  refine i_aload_n (pc := 61) 0 F dX10_init_61 rfl rfl ?_
  refine i_getR (pc := 62) (ci := 10) (k := 0) (d := 1) F inX10 rfl (by decide) (by decide) rfl (by decide) rfl rfl (tbm (w := Cond.fieldLink RX10 10 "WorkOrders" "works" "LWorkOrders$Works;") (List.mem_of_getElem? (i := 329) (by decide +kernel)) rfl) dX10_init_62 ?_
  refine i_call (pc := 65) (avs := [Rv 1]) (st := [Rv 5, Rv 0]) (c := 5) F hg hAO (by decide) (ci_X3_init hg) (by decide) cal_X3_init rfl (tbm (List.mem_of_getElem? (i := 183) (by decide +kernel)) rfl) (tbm (List.mem_of_getElem? (i := 182) (by decide +kernel)) rfl) rfl rfl (Nat.le_of_ble_eq_true rfl) (capI hk hcap (by decide) (by decide)) rg0 dX10_init_65 ?_
  have K := K.nx (i := 1) (j := 8) (a' := 32) (b' := 1703) rfl rfl (by decide) (by decide)
  generalize nx X 1 8 = X at K ⊢
  obtain ⟨F, hAO, hr, hin, hR, hk, hcap⟩ := id K
  refine i_putR (pc := 68) (c := 0) (ci := 10) (k := 4) (d := 5) F hg inX10 tyX10 tyX10_ok nmX10 rfl (by decide) (by decide) rfl (by decide) rfl (tbm (w := Cond.fieldLink RX10 42 "WorkOrders" "brokenWork" "LWorkOrders$BrokenWork;") (List.mem_of_getElem? (i := 333) (by decide +kernel)) rfl) rfl hin rfl rfl rfl dX10_init_68 ?_
  refine VI.nu (ν' := nu19) rfl ?_
  refine i_aload_n (pc := 71) 0 F dX10_init_71 rfl rfl ?_
  refine i_new (pc := 72) (c := 6) (ci := 4) F hg inX4 tyX4 tyX4_ok rfl (by decide) rfl (by decide) (dfl4 g) (tbm (List.mem_of_getElem? (i := 201) (by decide +kernel)) rfl) (tbm (List.mem_of_getElem? (i := 202) (by decide +kernel)) rfl) (tbm (List.mem_of_getElem? (i := 54) (by decide +kernel)) rfl) (capI hk hcap (by decide) (by decide)) dX10_init_72 ?_
  have K := K.nx (i := 1) (j := 5) (a' := 33) (b' := 1708) rfl rfl (by decide) (by decide)
  generalize nx X 1 5 = X at K ⊢
  obtain ⟨F, hAO, hr, hin, hR, hk, hcap⟩ := id K
  refine VI.ka (κ' := 34) rfl ?_
  refine i_dup (pc := 75) F dX10_init_75 rfl ?_
  refine i_aload_n (pc := 76) 0 F dX10_init_76 rfl rfl ?_
  refine i_getR (pc := 77) (ci := 10) (k := 0) (d := 1) F inX10 rfl (by decide) (by decide) rfl (by decide) rfl rfl (tbm (w := Cond.fieldLink RX10 10 "WorkOrders" "works" "LWorkOrders$Works;") (List.mem_of_getElem? (i := 329) (by decide +kernel)) rfl) dX10_init_77 ?_
  refine i_call (pc := 80) (avs := [Rv 1]) (st := [Rv 6, Rv 0]) (c := 6) F hg hAO (by decide) (ci_X4_init hg) (by decide) cal_X4_init rfl (tbm (List.mem_of_getElem? (i := 204) (by decide +kernel)) rfl) (tbm (List.mem_of_getElem? (i := 203) (by decide +kernel)) rfl) rfl rfl (Nat.le_of_ble_eq_true rfl) (capI hk hcap (by decide) (by decide)) rg5 dX10_init_80 ?_
  have K := K.nx (i := 19) (j := 84) (a' := 52) (b' := 1792) rfl rfl (by decide) (by decide)
  generalize nx X 19 84 = X at K ⊢
  obtain ⟨F, hAO, hr, hin, hR, hk, hcap⟩ := id K
  refine i_putR (pc := 83) (c := 0) (ci := 10) (k := 5) (d := 6) F hg inX10 tyX10 tyX10_ok nmX10 rfl (by decide) (by decide) rfl (by decide) rfl (tbm (w := Cond.fieldLink RX10 49 "WorkOrders" "row" "LWorkOrders$Row;") (List.mem_of_getElem? (i := 334) (by decide +kernel)) rfl) rfl hin rfl rfl rfl dX10_init_83 ?_
  refine VI.nu (ν' := nu24) rfl ?_
  refine i_aload_n (pc := 86) 0 F dX10_init_86 rfl rfl ?_
  refine i_new (pc := 87) (c := 7) (ci := 1) F hg inX1 tyX1 tyX1_ok rfl (by decide) rfl (by decide) (dfl1 g) (tbm (List.mem_of_getElem? (i := 228) (by decide +kernel)) rfl) (tbm (List.mem_of_getElem? (i := 229) (by decide +kernel)) rfl) (tbm (List.mem_of_getElem? (i := 55) (by decide +kernel)) rfl) (capI hk hcap (by decide) (by decide)) dX10_init_87 ?_
  have K := K.nx (i := 1) (j := 7) (a' := 53) (b' := 1799) rfl rfl (by decide) (by decide)
  generalize nx X 1 7 = X at K ⊢
  obtain ⟨F, hAO, hr, hin, hR, hk, hcap⟩ := id K
  refine VI.ka (κ' := 54) rfl ?_
  refine i_dup (pc := 90) F dX10_init_90 rfl ?_
  refine i_aload_n (pc := 91) 0 F dX10_init_91 rfl rfl ?_
  refine i_getR (pc := 92) (ci := 10) (k := 0) (d := 1) F inX10 rfl (by decide) (by decide) rfl (by decide) rfl rfl (tbm (w := Cond.fieldLink RX10 10 "WorkOrders" "works" "LWorkOrders$Works;") (List.mem_of_getElem? (i := 329) (by decide +kernel)) rfl) dX10_init_92 ?_
  refine i_aload_n (pc := 95) 0 F dX10_init_95 rfl rfl ?_
  refine i_getR (pc := 96) (ci := 10) (k := 5) (d := 6) F inX10 rfl (by decide) (by decide) rfl (by decide) rfl rfl (tbm (w := Cond.fieldLink RX10 49 "WorkOrders" "row" "LWorkOrders$Row;") (List.mem_of_getElem? (i := 334) (by decide +kernel)) rfl) dX10_init_96 ?_
  refine i_call (pc := 99) (avs := [Rv 1, Rv 6]) (st := [Rv 7, Rv 0]) (c := 7) F hg hAO (by decide) (ci_X1_init hg) (by decide) cal_X1_init rfl (tbm (List.mem_of_getElem? (i := 231) (by decide +kernel)) rfl) (tbm (List.mem_of_getElem? (i := 230) (by decide +kernel)) rfl) rfl rfl (Nat.le_of_ble_eq_true rfl) (capI hk hcap (by decide) (by decide)) rg5 dX10_init_99 ?_
  have K := K.nx (i := 11) (j := 56) (a' := 64) (b' := 1855) rfl rfl (by decide) (by decide)
  generalize nx X 11 56 = X at K ⊢
  obtain ⟨F, hAO, hr, hin, hR, hk, hcap⟩ := id K
  refine i_putR (pc := 102) (c := 0) (ci := 10) (k := 6) (d := 7) F hg inX10 tyX10 tyX10_ok nmX10 rfl (by decide) (by decide) rfl (by decide) rfl (tbm (w := Cond.fieldLink RX10 58 "WorkOrders" "bestInRow" "LWorkOrders$BestInRow;") (List.mem_of_getElem? (i := 335) (by decide +kernel)) rfl) rfl hin rfl rfl rfl dX10_init_102 ?_
  refine VI.nu (ν' := nu30) rfl ?_
  refine i_aload_n (pc := 105) 0 F dX10_init_105 rfl rfl ?_
  refine i_new (pc := 106) (c := 8) (ci := 5) F hg inX5 tyX5 tyX5_ok rfl (by decide) rfl (by decide) (dfl5 g) (tbm (List.mem_of_getElem? (i := 259) (by decide +kernel)) rfl) (tbm (List.mem_of_getElem? (i := 260) (by decide +kernel)) rfl) (tbm (List.mem_of_getElem? (i := 56) (by decide +kernel)) rfl) (capI hk hcap (by decide) (by decide)) dX10_init_106 ?_
  have K := K.nx (i := 1) (j := 2) (a' := 65) (b' := 1857) rfl rfl (by decide) (by decide)
  generalize nx X 1 2 = X at K ⊢
  obtain ⟨F, hAO, hr, hin, hR, hk, hcap⟩ := id K
  refine VI.ka (κ' := 66) rfl ?_
  refine i_dup (pc := 109) F dX10_init_109 rfl ?_
  refine i_aload_n (pc := 110) 0 F dX10_init_110 rfl rfl ?_
  refine i_getR (pc := 111) (ci := 10) (k := 0) (d := 1) F inX10 rfl (by decide) (by decide) rfl (by decide) rfl rfl (tbm (w := Cond.fieldLink RX10 10 "WorkOrders" "works" "LWorkOrders$Works;") (List.mem_of_getElem? (i := 329) (by decide +kernel)) rfl) dX10_init_111 ?_
  refine i_call (pc := 114) (avs := [Rv 1]) (st := [Rv 8, Rv 0]) (c := 8) F hg hAO (by decide) (ci_X5_init hg) (by decide) cal_X5_init rfl (tbm (List.mem_of_getElem? (i := 262) (by decide +kernel)) rfl) (tbm (List.mem_of_getElem? (i := 261) (by decide +kernel)) rfl) rfl rfl (Nat.le_of_ble_eq_true rfl) (capI hk hcap (by decide) (by decide)) rg5 dX10_init_114 ?_
  have K := K.nx (i := 1) (j := 8) (a' := 66) (b' := 1865) rfl rfl (by decide) (by decide)
  generalize nx X 1 8 = X at K ⊢
  obtain ⟨F, hAO, hr, hin, hR, hk, hcap⟩ := id K
  refine i_putR (pc := 117) (c := 0) (ci := 10) (k := 7) (d := 8) F hg inX10 tyX10 tyX10_ok nmX10 rfl (by decide) (by decide) rfl (by decide) rfl (tbm (w := Cond.fieldLink RX10 65 "WorkOrders" "rowRule" "LWorkOrders$RowRule;") (List.mem_of_getElem? (i := 336) (by decide +kernel)) rfl) rfl hin rfl rfl rfl dX10_init_117 ?_
  refine VI.nu (ν' := nu33) rfl ?_
  refine i_aload_n (pc := 120) 0 F dX10_init_120 rfl rfl ?_
  refine i_new (pc := 121) (c := 9) (ci := 8) F hg inX8 tyX8 tyX8_ok rfl (by decide) rfl (by decide) (dfl8 g) (tbm (List.mem_of_getElem? (i := 273) (by decide +kernel)) rfl) (tbm (List.mem_of_getElem? (i := 274) (by decide +kernel)) rfl) (tbm (List.mem_of_getElem? (i := 57) (by decide +kernel)) rfl) (capI hk hcap (by decide) (by decide)) dX10_init_121 ?_
  have K := K.nx (i := 1) (j := 6) (a' := 67) (b' := 1871) rfl rfl (by decide) (by decide)
  generalize nx X 1 6 = X at K ⊢
  obtain ⟨F, hAO, hr, hin, hR, hk, hcap⟩ := id K
  refine VI.ka (κ' := 68) rfl ?_
  refine i_dup (pc := 124) F dX10_init_124 rfl ?_
  refine i_callN (pc := 125) (host := "WorkOrders") (avs := []) (st := [Rv 9, Rv 0]) (c := 9) F hg hAO (by decide) (ci_X8_init hg) (by decide) cal_X8_init rfl (tbm (List.mem_of_getElem? (i := 276) (by decide +kernel)) rfl) (tbm (List.mem_of_getElem? (i := 275) (by decide +kernel)) rfl) rfl rfl (Nat.le_of_ble_eq_true rfl) (capI hk hcap (by decide) (by decide)) rg5 dX10_init_125 ?_
  have K := K.nx (i := 16) (j := 760) (a' := 83) (b' := 2631) rfl rfl (by decide) (by decide)
  generalize nx X 16 760 = X at K ⊢
  obtain ⟨F, hAO, hr, hin, hR, hk, hcap⟩ := id K
  refine i_putR (pc := 128) (c := 0) (ci := 10) (k := 8) (d := 9) F hg inX10 tyX10 tyX10_ok nmX10 rfl (by decide) (by decide) rfl (by decide) rfl (tbm (w := Cond.fieldLink RX10 72 "WorkOrders" "twoWorks" "LWorkOrders$TwoWorks;") (List.mem_of_getElem? (i := 337) (by decide +kernel)) rfl) rfl hin rfl rfl rfl dX10_init_128 ?_
  refine VI.nu (ν' := nu40) rfl ?_
  refine i_aload_n (pc := 131) 0 F dX10_init_131 rfl rfl ?_
  refine i_new (pc := 132) (c := 10) (ci := 7) F hg inX7 tyX7 tyX7_ok rfl (by decide) rfl (by decide) (dfl7 g) (tbm (List.mem_of_getElem? (i := 300) (by decide +kernel)) rfl) (tbm (List.mem_of_getElem? (i := 301) (by decide +kernel)) rfl) (tbm (List.mem_of_getElem? (i := 58) (by decide +kernel)) rfl) (capI hk hcap (by decide) (by decide)) dX10_init_132 ?_
  have K := K.nx (i := 1) (j := 6) (a' := 84) (b' := 2637) rfl rfl (by decide) (by decide)
  generalize nx X 1 6 = X at K ⊢
  obtain ⟨F, hAO, hr, hin, hR, hk, hcap⟩ := id K
  refine VI.ka (κ' := 85) rfl ?_
  refine i_dup (pc := 135) F dX10_init_135 rfl ?_
  refine i_callN (pc := 136) (host := "WorkOrders") (avs := []) (st := [Rv 10, Rv 0]) (c := 10) F hg hAO (by decide) (ci_X7_init hg) (by decide) cal_X7_init rfl (tbm (List.mem_of_getElem? (i := 303) (by decide +kernel)) rfl) (tbm (List.mem_of_getElem? (i := 302) (by decide +kernel)) rfl) rfl rfl (Nat.le_of_ble_eq_true rfl) (capI hk hcap (by decide) (by decide)) rg6 dX10_init_136 ?_
  have K := K.nx (i := 4) (j := 4132) (a' := 88) (b' := 6769) rfl rfl (by decide) (by decide)
  generalize nx X 4 4132 = X at K ⊢
  obtain ⟨F, hAO, hr, hin, hR, hk, hcap⟩ := id K
  refine i_putR (pc := 139) (c := 0) (ci := 10) (k := 9) (d := 10) F hg inX10 tyX10 tyX10_ok nmX10 rfl (by decide) (by decide) rfl (by decide) rfl (tbm (w := Cond.fieldLink RX10 79 "WorkOrders" "tree" "LWorkOrders$Tree;") (List.mem_of_getElem? (i := 338) (by decide +kernel)) rfl) rfl hin rfl rfl rfl dX10_init_139 ?_
  refine VI.nu (ν' := nu45) rfl ?_
  exact i_vret (pc := 142) F hg (by decide) hAO hR hk hr dX10_init_142
def nu46 : Msk := wm nu45 11 1
def nu47 : Msk := wm nu46 11 2
def nu48 : Msk := wm nu47 11 3
def nu49 : Msk := wm nu48 11 4
def nu50 : Msk := wm nu49 11 5
def nu51 : Msk := wm nu50 11 6
def nu52 : Msk := wm nu51 11 7
def nu53 : Msk := wm nu52 11 8
def mu7 : Mem := wr mu6 11 9 2
theorem rg7 : RngM mu7 := wr_rng rg6 (inR_lit rfl)
def nu54 : Msk := wm nu53 11 10
def nu55 : Msk := wm nu54 11 11
def nu56 : Msk := wm nu55 11 13
def nu57 : Msk := wm nu56 11 14
def nu58 : Msk := wm nu57 11 16
def mu8 : Mem := wr mu7 11 17 2
theorem rg8 : RngM mu8 := wr_rng rg7 (inR_lit rfl)
def nu59 : Msk := wm nu58 11 18
def nu60 : Msk := wm nu59 11 19
def nu61 : Msk := wm nu60 11 20
def nu62 : Msk := wm nu61 11 21
def nu63 : Msk := wm nu62 11 22
def nu64 : Msk := wm nu63 11 23
def nu65 : Msk := wm nu64 11 24
def nu66 : Msk := wm nu65 11 25
def nu67 : Msk := wm nu66 11 26
def mu9 : Mem := wr mu8 98 0 9
theorem rg9 : RngM mu9 := wr_rng rg8 (inR_lit rfl)
def mu10 : Mem := wr mu9 98 1 9
theorem rg10 : RngM mu10 := wr_rng rg9 (inR_lit rfl)
def mu11 : Mem := wr mu10 98 2 9
theorem rg11 : RngM mu11 := wr_rng rg10 (inR_lit rfl)
def mu12 : Mem := wr mu11 98 3 9
theorem rg12 : RngM mu12 := wr_rng rg11 (inR_lit rfl)

set_option maxHeartbeats 4000000 in
set_option maxRecDepth 100000 in
theorem ci_X11_init {g : Wc} {B : Nat} {l : Launch} (hg : Gq g B) : MI g B l yX11_init cX11_init 2 1 22 19976 [Rv 11] nu45 mu6 90 nu67 mu12 112 := by
  refine i_enter (own := RX11) (by decide) rfl rfl (Nat.le_of_ble_eq_true rfl) (fun a ha => by simp at ha; rcases ha with rfl | ha <;> first | trivial | (rcases ha with rfl | rfl <;> trivial) | (subst ha; trivial)) rg6 (fun X hl F hAO hr hin hR hk hcap => ?_)
  subst hl
  have K : KI g B X cX11_init RX11 2 1 22 19976 0 0 (QN g B nu67 mu12 112) := ⟨F, hAO, hr, hin, hR, hk, hcap⟩
  show VI g B nu45 90 X 2 mu6 [(0, Rv 11)] 0 []
  refine i_aload_n (pc := 0) 0 F dX11_init_0 rfl rfl ?_
  refine i_objInit (pc := 1) F (by decide) (tbm (List.mem_of_getElem? (i := 849) (by decide +kernel)) rfl) km_obj.1 km_obj.2 (Nat.le_of_ble_eq_true rfl) dX11_init_1 ?_
  refine i_aload_n (pc := 4) 0 F dX11_init_4 rfl rfl ?_
  refine i_bipush (pc := 5) F dX11_init_5 (inR_lit rfl) (by decide) ?_
  refine i_newI (pc := 7) (c := 90) (n := 8) F hg (by decide) (by decide) (by decide) (by decide) (by decide) rfl (fun _ => rfl) ka_int (capI hk hcap (by decide) (by decide)) dX11_init_7 ?_
  have K := K.nx (i := 1) (j := 8) (a' := 1) (b' := 8) rfl rfl (by decide) (by decide)
  generalize nx X 1 8 = X at K ⊢
  obtain ⟨F, hAO, hr, hin, hR, hk, hcap⟩ := id K
  refine VI.ka (κ' := 91) rfl ?_
  refine i_putR (pc := 9) (c := 11) (ci := 11) (k := 1) (d := 90) F hg inX11 tyX11 tyX11_ok nmX11 rfl (by decide) (by decide) rfl (by decide) rfl (tbm (w := Cond.fieldLink RX11 7 "WorkOrdersModel" "longs" "[I") (List.mem_of_getElem? (i := 851) (by decide +kernel)) rfl) rfl hin rfl rfl rfl dX11_init_9 ?_
  refine VI.nu (ν' := nu46) rfl ?_
  refine i_aload_n (pc := 12) 0 F dX11_init_12 rfl rfl ?_
  refine i_bipush (pc := 13) F dX11_init_13 (inR_lit rfl) (by decide) ?_
  refine i_newI (pc := 15) (c := 91) (n := 8) F hg (by decide) (by decide) (by decide) (by decide) (by decide) rfl (fun _ => rfl) ka_int (capI hk hcap (by decide) (by decide)) dX11_init_15 ?_
  have K := K.nx (i := 1) (j := 8) (a' := 2) (b' := 16) rfl rfl (by decide) (by decide)
  generalize nx X 1 8 = X at K ⊢
  obtain ⟨F, hAO, hr, hin, hR, hk, hcap⟩ := id K
  refine VI.ka (κ' := 92) rfl ?_
  refine i_putR (pc := 17) (c := 11) (ci := 11) (k := 2) (d := 91) F hg inX11 tyX11 tyX11_ok nmX11 rfl (by decide) (by decide) rfl (by decide) rfl (tbm (w := Cond.fieldLink RX11 13 "WorkOrdersModel" "comes" "[I") (List.mem_of_getElem? (i := 852) (by decide +kernel)) rfl) rfl hin rfl rfl rfl dX11_init_17 ?_
  refine VI.nu (ν' := nu47) rfl ?_
  refine i_aload_n (pc := 20) 0 F dX11_init_20 rfl rfl ?_
  refine i_bipush (pc := 21) F dX11_init_21 (inR_lit rfl) (by decide) ?_
  refine i_newI (pc := 23) (c := 92) (n := 8) F hg (by decide) (by decide) (by decide) (by decide) (by decide) rfl (fun _ => rfl) ka_int (capI hk hcap (by decide) (by decide)) dX11_init_23 ?_
  have K := K.nx (i := 1) (j := 8) (a' := 3) (b' := 24) rfl rfl (by decide) (by decide)
  generalize nx X 1 8 = X at K ⊢
  obtain ⟨F, hAO, hr, hin, hR, hk, hcap⟩ := id K
  refine VI.ka (κ' := 93) rfl ?_
  refine i_putR (pc := 25) (c := 11) (ci := 11) (k := 3) (d := 92) F hg inX11 tyX11 tyX11_ok nmX11 rfl (by decide) (by decide) rfl (by decide) rfl (tbm (w := Cond.fieldLink RX11 16 "WorkOrdersModel" "dues" "[I") (List.mem_of_getElem? (i := 853) (by decide +kernel)) rfl) rfl hin rfl rfl rfl dX11_init_25 ?_
  refine VI.nu (ν' := nu48) rfl ?_
  refine i_aload_n (pc := 28) 0 F dX11_init_28 rfl rfl ?_
  refine i_bipush (pc := 29) F dX11_init_29 (inR_lit rfl) (by decide) ?_
  refine i_newI (pc := 31) (c := 93) (n := 8) F hg (by decide) (by decide) (by decide) (by decide) (by decide) rfl (fun _ => rfl) ka_int (capI hk hcap (by decide) (by decide)) dX11_init_31 ?_
  have K := K.nx (i := 1) (j := 8) (a' := 4) (b' := 32) rfl rfl (by decide) (by decide)
  generalize nx X 1 8 = X at K ⊢
  obtain ⟨F, hAO, hr, hin, hR, hk, hcap⟩ := id K
  refine VI.ka (κ' := 94) rfl ?_
  refine i_putR (pc := 33) (c := 11) (ci := 11) (k := 4) (d := 93) F hg inX11 tyX11 tyX11_ok nmX11 rfl (by decide) (by decide) rfl (by decide) rfl (tbm (w := Cond.fieldLink RX11 19 "WorkOrdersModel" "weights" "[I") (List.mem_of_getElem? (i := 854) (by decide +kernel)) rfl) rfl hin rfl rfl rfl dX11_init_33 ?_
  refine VI.nu (ν' := nu49) rfl ?_
  refine i_aload_n (pc := 36) 0 F dX11_init_36 rfl rfl ?_
  refine i_bipush (pc := 37) F dX11_init_37 (inR_lit rfl) (by decide) ?_
  refine i_newI (pc := 39) (c := 94) (n := 8) F hg (by decide) (by decide) (by decide) (by decide) (by decide) rfl (fun _ => rfl) ka_int (capI hk hcap (by decide) (by decide)) dX11_init_39 ?_
  have K := K.nx (i := 1) (j := 8) (a' := 5) (b' := 40) rfl rfl (by decide) (by decide)
  generalize nx X 1 8 = X at K ⊢
  obtain ⟨F, hAO, hr, hin, hR, hk, hcap⟩ := id K
  refine VI.ka (κ' := 95) rfl ?_
  refine i_putR (pc := 41) (c := 11) (ci := 11) (k := 5) (d := 94) F hg inX11 tyX11 tyX11_ok nmX11 rfl (by decide) (by decide) rfl (by decide) rfl (tbm (w := Cond.fieldLink RX11 22 "WorkOrdersModel" "tools" "[I") (List.mem_of_getElem? (i := 855) (by decide +kernel)) rfl) rfl hin rfl rfl rfl dX11_init_41 ?_
  refine VI.nu (ν' := nu50) rfl ?_
  refine i_aload_n (pc := 44) 0 F dX11_init_44 rfl rfl ?_
  refine i_bipush (pc := 45) F dX11_init_45 (inR_lit rfl) (by decide) ?_
  refine i_newI (pc := 47) (c := 95) (n := 8) F hg (by decide) (by decide) (by decide) (by decide) (by decide) rfl (fun _ => rfl) ka_int (capI hk hcap (by decide) (by decide)) dX11_init_47 ?_
  have K := K.nx (i := 1) (j := 8) (a' := 6) (b' := 48) rfl rfl (by decide) (by decide)
  generalize nx X 1 8 = X at K ⊢
  obtain ⟨F, hAO, hr, hin, hR, hk, hcap⟩ := id K
  refine VI.ka (κ' := 96) rfl ?_
  refine i_putR (pc := 49) (c := 11) (ci := 11) (k := 6) (d := 95) F hg inX11 tyX11 tyX11_ok nmX11 rfl (by decide) (by decide) rfl (by decide) rfl (tbm (w := Cond.fieldLink RX11 25 "WorkOrdersModel" "aheads" "[I") (List.mem_of_getElem? (i := 856) (by decide +kernel)) rfl) rfl hin rfl rfl rfl dX11_init_49 ?_
  refine VI.nu (ν' := nu51) rfl ?_
  refine i_aload_n (pc := 52) 0 F dX11_init_52 rfl rfl ?_
  refine i_bipush (pc := 53) F dX11_init_53 (inR_lit rfl) (by decide) ?_
  refine i_newI (pc := 55) (c := 96) (n := 9) F hg (by decide) (by decide) (by decide) (by decide) (by decide) rfl (fun _ => rfl) ka_int (capI hk hcap (by decide) (by decide)) dX11_init_55 ?_
  have K := K.nx (i := 1) (j := 9) (a' := 7) (b' := 57) rfl rfl (by decide) (by decide)
  generalize nx X 1 9 = X at K ⊢
  obtain ⟨F, hAO, hr, hin, hR, hk, hcap⟩ := id K
  refine VI.ka (κ' := 97) rfl ?_
  refine i_putR (pc := 57) (c := 11) (ci := 11) (k := 7) (d := 96) F hg inX11 tyX11 tyX11_ok nmX11 rfl (by decide) (by decide) rfl (by decide) rfl (tbm (w := Cond.fieldLink RX11 28 "WorkOrdersModel" "changes" "[I") (List.mem_of_getElem? (i := 857) (by decide +kernel)) rfl) rfl hin rfl rfl rfl dX11_init_57 ?_
  refine VI.nu (ν' := nu52) rfl ?_
  refine i_aload_n (pc := 60) 0 F dX11_init_60 rfl rfl ?_
  refine i_bipush (pc := 61) F dX11_init_61 (inR_lit rfl) (by decide) ?_
  refine i_newI (pc := 63) (c := 97) (n := 32) F hg (by decide) (by decide) (by decide) (by decide) (by decide) rfl (fun _ => rfl) ka_int (capI hk hcap (by decide) (by decide)) dX11_init_63 ?_
  have K := K.nx (i := 1) (j := 32) (a' := 8) (b' := 89) rfl rfl (by decide) (by decide)
  generalize nx X 1 32 = X at K ⊢
  obtain ⟨F, hAO, hr, hin, hR, hk, hcap⟩ := id K
  refine VI.ka (κ' := 98) rfl ?_
  refine i_putR (pc := 65) (c := 11) (ci := 11) (k := 8) (d := 97) F hg inX11 tyX11 tyX11_ok nmX11 rfl (by decide) (by decide) rfl (by decide) rfl (tbm (w := Cond.fieldLink RX11 31 "WorkOrdersModel" "needs" "[I") (List.mem_of_getElem? (i := 858) (by decide +kernel)) rfl) rfl hin rfl rfl rfl dX11_init_65 ?_
  refine VI.nu (ν' := nu53) rfl ?_
  refine i_aload_n (pc := 68) 0 F dX11_init_68 rfl rfl ?_
  refine i_iconst (pc := 69) F dX11_init_69 (inR_lit rfl) ?_
  refine i_putI (pc := 70) (c := 11) (ci := 11) (k := 9) F hg inX11 tyX11 tyX11_ok nmX11 rfl (by decide) (by decide) rfl (by decide) rfl (tbm (w := Cond.fieldLink RX11 34 "WorkOrdersModel" "benches" "I") (List.mem_of_getElem? (i := 859) (by decide +kernel)) rfl) rfl rfl dX11_init_70 ?_
  refine VI.mu (μ' := mu7) rfl ?_
  refine i_aload_n (pc := 73) 0 F dX11_init_73 rfl rfl ?_
  refine i_iconst (pc := 74) F dX11_init_74 (inR_lit rfl) ?_
  refine i_newI (pc := 75) (c := 98) (n := 4) F hg (by decide) (by decide) (by decide) (by decide) (by decide) rfl (fun _ => rfl) ka_int (capI hk hcap (by decide) (by decide)) dX11_init_75 ?_
  have K := K.nx (i := 1) (j := 4) (a' := 9) (b' := 93) rfl rfl (by decide) (by decide)
  generalize nx X 1 4 = X at K ⊢
  obtain ⟨F, hAO, hr, hin, hR, hk, hcap⟩ := id K
  refine VI.ka (κ' := 99) rfl ?_
  refine i_putR (pc := 77) (c := 11) (ci := 11) (k := 10) (d := 98) F hg inX11 tyX11 tyX11_ok nmX11 rfl (by decide) (by decide) rfl (by decide) rfl (tbm (w := Cond.fieldLink RX11 38 "WorkOrdersModel" "ways" "[I") (List.mem_of_getElem? (i := 860) (by decide +kernel)) rfl) rfl hin rfl rfl rfl dX11_init_77 ?_
  refine VI.nu (ν' := nu54) rfl ?_
  refine i_aload_n (pc := 80) 0 F dX11_init_80 rfl rfl ?_
  refine i_bipush (pc := 81) F dX11_init_81 (inR_lit rfl) (by decide) ?_
  refine i_newI (pc := 83) (c := 99) (n := 8) F hg (by decide) (by decide) (by decide) (by decide) (by decide) rfl (fun _ => rfl) ka_int (capI hk hcap (by decide) (by decide)) dX11_init_83 ?_
  have K := K.nx (i := 1) (j := 8) (a' := 10) (b' := 101) rfl rfl (by decide) (by decide)
  generalize nx X 1 8 = X at K ⊢
  obtain ⟨F, hAO, hr, hin, hR, hk, hcap⟩ := id K
  refine VI.ka (κ' := 100) rfl ?_
  refine i_putR (pc := 85) (c := 11) (ci := 11) (k := 11) (d := 99) F hg inX11 tyX11 tyX11_ok nmX11 rfl (by decide) (by decide) rfl (by decide) rfl (tbm (w := Cond.fieldLink RX11 41 "WorkOrdersModel" "told" "[I") (List.mem_of_getElem? (i := 861) (by decide +kernel)) rfl) rfl hin rfl rfl rfl dX11_init_85 ?_
  refine VI.nu (ν' := nu55) rfl ?_
  refine i_aload_n (pc := 88) 0 F dX11_init_88 rfl rfl ?_
  refine i_bipush (pc := 89) F dX11_init_89 (inR_lit rfl) (by decide) ?_
  refine i_newI (pc := 91) (c := 100) (n := 24) F hg (by decide) (by decide) (by decide) (by decide) (by decide) rfl (fun _ => rfl) ka_int (capI hk hcap (by decide) (by decide)) dX11_init_91 ?_
  have K := K.nx (i := 1) (j := 24) (a' := 11) (b' := 125) rfl rfl (by decide) (by decide)
  generalize nx X 1 24 = X at K ⊢
  obtain ⟨F, hAO, hr, hin, hR, hk, hcap⟩ := id K
  refine VI.ka (κ' := 101) rfl ?_
  refine i_putR (pc := 93) (c := 11) (ci := 11) (k := 13) (d := 100) F hg inX11 tyX11 tyX11_ok nmX11 rfl (by decide) (by decide) rfl (by decide) rfl (tbm (w := Cond.fieldLink RX11 44 "WorkOrdersModel" "steps" "[I") (List.mem_of_getElem? (i := 863) (by decide +kernel)) rfl) rfl hin rfl rfl rfl dX11_init_93 ?_
  refine VI.nu (ν' := nu56) rfl ?_
  refine i_aload_n (pc := 96) 0 F dX11_init_96 rfl rfl ?_
  refine i_iconst (pc := 97) F dX11_init_97 (inR_lit rfl) ?_
  refine i_newI (pc := 98) (c := 101) (n := 2) F hg (by decide) (by decide) (by decide) (by decide) (by decide) rfl (fun _ => rfl) ka_int (capI hk hcap (by decide) (by decide)) dX11_init_98 ?_
  have K := K.nx (i := 1) (j := 2) (a' := 12) (b' := 127) rfl rfl (by decide) (by decide)
  generalize nx X 1 2 = X at K ⊢
  obtain ⟨F, hAO, hr, hin, hR, hk, hcap⟩ := id K
  refine VI.ka (κ' := 102) rfl ?_
  refine i_putR (pc := 100) (c := 11) (ci := 11) (k := 14) (d := 101) F hg inX11 tyX11 tyX11_ok nmX11 rfl (by decide) (by decide) rfl (by decide) rfl (tbm (w := Cond.fieldLink RX11 47 "WorkOrdersModel" "stepMany" "[I") (List.mem_of_getElem? (i := 864) (by decide +kernel)) rfl) rfl hin rfl rfl rfl dX11_init_100 ?_
  refine VI.nu (ν' := nu57) rfl ?_
  refine i_aload_n (pc := 103) 0 F dX11_init_103 rfl rfl ?_
  refine i_bipush (pc := 104) F dX11_init_104 (inR_lit rfl) (by decide) ?_
  refine i_newI (pc := 106) (c := 102) (n := 12) F hg (by decide) (by decide) (by decide) (by decide) (by decide) rfl (fun _ => rfl) ka_int (capI hk hcap (by decide) (by decide)) dX11_init_106 ?_
  have K := K.nx (i := 1) (j := 12) (a' := 13) (b' := 139) rfl rfl (by decide) (by decide)
  generalize nx X 1 12 = X at K ⊢
  obtain ⟨F, hAO, hr, hin, hR, hk, hcap⟩ := id K
  refine VI.ka (κ' := 103) rfl ?_
  refine i_putR (pc := 108) (c := 11) (ci := 11) (k := 16) (d := 102) F hg inX11 tyX11 tyX11_ok nmX11 rfl (by decide) (by decide) rfl (by decide) rfl (tbm (w := Cond.fieldLink RX11 50 "WorkOrdersModel" "hangs" "[I") (List.mem_of_getElem? (i := 866) (by decide +kernel)) rfl) rfl hin rfl rfl rfl dX11_init_108 ?_
  refine VI.nu (ν' := nu58) rfl ?_
  refine i_aload_n (pc := 111) 0 F dX11_init_111 rfl rfl ?_
  refine i_iconst (pc := 112) F dX11_init_112 (inR_lit rfl) ?_
  refine i_putI (pc := 113) (c := 11) (ci := 11) (k := 17) F hg inX11 tyX11 tyX11_ok nmX11 rfl (by decide) (by decide) rfl (by decide) rfl (tbm (w := Cond.fieldLink RX11 53 "WorkOrdersModel" "likes" "I") (List.mem_of_getElem? (i := 867) (by decide +kernel)) rfl) rfl rfl dX11_init_113 ?_
  refine VI.mu (μ' := mu8) rfl ?_
  refine i_aload_n (pc := 116) 0 F dX11_init_116 rfl rfl ?_
  refine i_bipush (pc := 117) F dX11_init_117 (inR_lit rfl) (by decide) ?_
  refine i_newI (pc := 119) (c := 103) (n := 8) F hg (by decide) (by decide) (by decide) (by decide) (by decide) rfl (fun _ => rfl) ka_int (capI hk hcap (by decide) (by decide)) dX11_init_119 ?_
  have K := K.nx (i := 1) (j := 8) (a' := 14) (b' := 147) rfl rfl (by decide) (by decide)
  generalize nx X 1 8 = X at K ⊢
  obtain ⟨F, hAO, hr, hin, hR, hk, hcap⟩ := id K
  refine VI.ka (κ' := 104) rfl ?_
  refine i_putR (pc := 121) (c := 11) (ci := 11) (k := 18) (d := 103) F hg inX11 tyX11 tyX11_ok nmX11 rfl (by decide) (by decide) rfl (by decide) rfl (tbm (w := Cond.fieldLink RX11 56 "WorkOrdersModel" "order" "[I") (List.mem_of_getElem? (i := 868) (by decide +kernel)) rfl) rfl hin rfl rfl rfl dX11_init_121 ?_
  refine VI.nu (ν' := nu59) rfl ?_
  refine i_aload_n (pc := 124) 0 F dX11_init_124 rfl rfl ?_
  refine i_bipush (pc := 125) F dX11_init_125 (inR_lit rfl) (by decide) ?_
  refine i_newI (pc := 127) (c := 104) (n := 8) F hg (by decide) (by decide) (by decide) (by decide) (by decide) rfl (fun _ => rfl) ka_int (capI hk hcap (by decide) (by decide)) dX11_init_127 ?_
  have K := K.nx (i := 1) (j := 8) (a' := 15) (b' := 155) rfl rfl (by decide) (by decide)
  generalize nx X 1 8 = X at K ⊢
  obtain ⟨F, hAO, hr, hin, hR, hk, hcap⟩ := id K
  refine VI.ka (κ' := 105) rfl ?_
  refine i_putR (pc := 129) (c := 11) (ci := 11) (k := 19) (d := 104) F hg inX11 tyX11 tyX11_ok nmX11 rfl (by decide) (by decide) rfl (by decide) rfl (tbm (w := Cond.fieldLink RX11 59 "WorkOrdersModel" "best" "[I") (List.mem_of_getElem? (i := 869) (by decide +kernel)) rfl) rfl hin rfl rfl rfl dX11_init_129 ?_
  refine VI.nu (ν' := nu60) rfl ?_
  refine i_aload_n (pc := 132) 0 F dX11_init_132 rfl rfl ?_
  refine i_sipush (pc := 133) F dX11_init_133 (inR_lit rfl) (by decide) ?_
  refine i_newI (pc := 136) (c := 105) (n := 1000) F hg (by decide) (by decide) (by decide) (by decide) (by decide) rfl (fun _ => rfl) ka_int (capI hk hcap (by decide) (by decide)) dX11_init_136 ?_
  have K := K.nx (i := 1) (j := 1000) (a' := 16) (b' := 1155) rfl rfl (by decide) (by decide)
  generalize nx X 1 1000 = X at K ⊢
  obtain ⟨F, hAO, hr, hin, hR, hk, hcap⟩ := id K
  refine VI.ka (κ' := 106) rfl ?_
  refine i_putR (pc := 138) (c := 11) (ci := 11) (k := 20) (d := 105) F hg inX11 tyX11 tyX11_ok nmX11 rfl (by decide) (by decide) rfl (by decide) rfl (tbm (w := Cond.fieldLink RX11 62 "WorkOrdersModel" "minutes" "[I") (List.mem_of_getElem? (i := 870) (by decide +kernel)) rfl) rfl hin rfl rfl rfl dX11_init_138 ?_
  refine VI.nu (ν' := nu61) rfl ?_
  refine i_aload_n (pc := 141) 0 F dX11_init_141 rfl rfl ?_
  refine i_bipush (pc := 142) F dX11_init_142 (inR_lit rfl) (by decide) ?_
  refine i_newI (pc := 144) (c := 106) (n := 8) F hg (by decide) (by decide) (by decide) (by decide) (by decide) rfl (fun _ => rfl) ka_int (capI hk hcap (by decide) (by decide)) dX11_init_144 ?_
  have K := K.nx (i := 1) (j := 8) (a' := 17) (b' := 1163) rfl rfl (by decide) (by decide)
  generalize nx X 1 8 = X at K ⊢
  obtain ⟨F, hAO, hr, hin, hR, hk, hcap⟩ := id K
  refine VI.ka (κ' := 107) rfl ?_
  refine i_putR (pc := 146) (c := 11) (ci := 11) (k := 21) (d := 106) F hg inX11 tyX11 tyX11_ok nmX11 rfl (by decide) (by decide) rfl (by decide) rfl (tbm (w := Cond.fieldLink RX11 65 "WorkOrdersModel" "lefts" "[I") (List.mem_of_getElem? (i := 871) (by decide +kernel)) rfl) rfl hin rfl rfl rfl dX11_init_146 ?_
  refine VI.nu (ν' := nu62) rfl ?_
  refine i_aload_n (pc := 149) 0 F dX11_init_149 rfl rfl ?_
  refine i_bipush (pc := 150) F dX11_init_150 (inR_lit rfl) (by decide) ?_
  refine i_newI (pc := 152) (c := 107) (n := 32) F hg (by decide) (by decide) (by decide) (by decide) (by decide) rfl (fun _ => rfl) ka_int (capI hk hcap (by decide) (by decide)) dX11_init_152 ?_
  have K := K.nx (i := 1) (j := 32) (a' := 18) (b' := 1195) rfl rfl (by decide) (by decide)
  generalize nx X 1 32 = X at K ⊢
  obtain ⟨F, hAO, hr, hin, hR, hk, hcap⟩ := id K
  refine VI.ka (κ' := 108) rfl ?_
  refine i_putR (pc := 154) (c := 11) (ci := 11) (k := 22) (d := 107) F hg inX11 tyX11 tyX11_ok nmX11 rfl (by decide) (by decide) rfl (by decide) rfl (tbm (w := Cond.fieldLink RX11 68 "WorkOrdersModel" "begins" "[I") (List.mem_of_getElem? (i := 872) (by decide +kernel)) rfl) rfl hin rfl rfl rfl dX11_init_154 ?_
  refine VI.nu (ν' := nu63) rfl ?_
  refine i_aload_n (pc := 157) 0 F dX11_init_157 rfl rfl ?_
  refine i_bipush (pc := 158) F dX11_init_158 (inR_lit rfl) (by decide) ?_
  refine i_newI (pc := 160) (c := 108) (n := 32) F hg (by decide) (by decide) (by decide) (by decide) (by decide) rfl (fun _ => rfl) ka_int (capI hk hcap (by decide) (by decide)) dX11_init_160 ?_
  have K := K.nx (i := 1) (j := 32) (a' := 19) (b' := 1227) rfl rfl (by decide) (by decide)
  generalize nx X 1 32 = X at K ⊢
  obtain ⟨F, hAO, hr, hin, hR, hk, hcap⟩ := id K
  refine VI.ka (κ' := 109) rfl ?_
  refine i_putR (pc := 162) (c := 11) (ci := 11) (k := 23) (d := 108) F hg inX11 tyX11 tyX11_ok nmX11 rfl (by decide) (by decide) rfl (by decide) rfl (tbm (w := Cond.fieldLink RX11 71 "WorkOrdersModel" "left" "[I") (List.mem_of_getElem? (i := 873) (by decide +kernel)) rfl) rfl hin rfl rfl rfl dX11_init_162 ?_
  refine VI.nu (ν' := nu64) rfl ?_
  refine i_aload_n (pc := 165) 0 F dX11_init_165 rfl rfl ?_
  refine i_sipush (pc := 166) F dX11_init_166 (inR_lit rfl) (by decide) ?_
  refine i_newI (pc := 169) (c := 109) (n := 14641) F hg (by decide) (by decide) (by decide) (by decide) (by decide) rfl (fun _ => rfl) ka_int (capI hk hcap (by decide) (by decide)) dX11_init_169 ?_
  have K := K.nx (i := 1) (j := 14641) (a' := 20) (b' := 15868) rfl rfl (by decide) (by decide)
  generalize nx X 1 14641 = X at K ⊢
  obtain ⟨F, hAO, hr, hin, hR, hk, hcap⟩ := id K
  refine VI.ka (κ' := 110) rfl ?_
  refine i_putR (pc := 171) (c := 11) (ci := 11) (k := 24) (d := 109) F hg inX11 tyX11 tyX11_ok nmX11 rfl (by decide) (by decide) rfl (by decide) rfl (tbm (w := Cond.fieldLink RX11 74 "WorkOrdersModel" "walked" "[I") (List.mem_of_getElem? (i := 874) (by decide +kernel)) rfl) rfl hin rfl rfl rfl dX11_init_171 ?_
  refine VI.nu (ν' := nu65) rfl ?_
  refine i_aload_n (pc := 174) 0 F dX11_init_174 rfl rfl ?_
  refine i_bipush (pc := 175) F dX11_init_175 (inR_lit rfl) (by decide) ?_
  refine i_newI (pc := 177) (c := 110) (n := 12) F hg (by decide) (by decide) (by decide) (by decide) (by decide) rfl (fun _ => rfl) ka_int (capI hk hcap (by decide) (by decide)) dX11_init_177 ?_
  have K := K.nx (i := 1) (j := 12) (a' := 21) (b' := 15880) rfl rfl (by decide) (by decide)
  generalize nx X 1 12 = X at K ⊢
  obtain ⟨F, hAO, hr, hin, hR, hk, hcap⟩ := id K
  refine VI.ka (κ' := 111) rfl ?_
  refine i_putR (pc := 179) (c := 11) (ci := 11) (k := 25) (d := 110) F hg inX11 tyX11 tyX11_ok nmX11 rfl (by decide) (by decide) rfl (by decide) rfl (tbm (w := Cond.fieldLink RX11 77 "WorkOrdersModel" "minuteOf" "[I") (List.mem_of_getElem? (i := 875) (by decide +kernel)) rfl) rfl hin rfl rfl rfl dX11_init_179 ?_
  refine VI.nu (ν' := nu66) rfl ?_
  refine i_aload_n (pc := 182) 0 F dX11_init_182 rfl rfl ?_
  refine i_sipush (pc := 183) F dX11_init_183 (inR_lit rfl) (by decide) ?_
  refine i_newI (pc := 186) (c := 111) (n := 4096) F hg (by decide) (by decide) (by decide) (by decide) (by decide) rfl (fun _ => rfl) ka_int (capI hk hcap (by decide) (by decide)) dX11_init_186 ?_
  have K := K.nx (i := 1) (j := 4096) (a' := 22) (b' := 19976) rfl rfl (by decide) (by decide)
  generalize nx X 1 4096 = X at K ⊢
  obtain ⟨F, hAO, hr, hin, hR, hk, hcap⟩ := id K
  refine VI.ka (κ' := 112) rfl ?_
  refine i_putR (pc := 188) (c := 11) (ci := 11) (k := 26) (d := 111) F hg inX11 tyX11 tyX11_ok nmX11 rfl (by decide) (by decide) rfl (by decide) rfl (tbm (w := Cond.fieldLink RX11 80 "WorkOrdersModel" "soonest" "[I") (List.mem_of_getElem? (i := 876) (by decide +kernel)) rfl) rfl hin rfl rfl rfl dX11_init_188 ?_
  refine VI.nu (ν' := nu67) rfl ?_
  refine i_iconst (pc := 191) F dX11_init_191 (inR_lit rfl) ?_
  refine i_istore_n (pc := 192) (lv' := [(1, Iv 0), (0, Rv 11)]) F dX11_init_192 rfl (by decide) rfl ?_
  refine i_iload_n (pc := 193) 0 F dX11_init_193 rfl rfl ?_
  refine i_iconst (pc := 194) F dX11_init_194 (inR_lit rfl) ?_
  refine i_icmp_ge (pc := 195) (tgt := 212) F dX11_init_195 (by decide) (fun z => absurd z (by decide)) (fun _ => ?_)
  refine i_aload_n (pc := 198) 1 F dX11_init_198 rfl rfl ?_
  refine i_getR (pc := 199) (ci := 11) (k := 10) (d := 98) F inX11 rfl (by decide) (by decide) rfl (by decide) rfl rfl (tbm (w := Cond.fieldLink RX11 38 "WorkOrdersModel" "ways" "[I") (List.mem_of_getElem? (i := 860) (by decide +kernel)) rfl) dX11_init_199 ?_
  refine i_iload_n (pc := 202) 0 F dX11_init_202 rfl rfl ?_
  refine i_bipush (pc := 203) F dX11_init_203 (inR_lit rfl) (by decide) ?_
  refine i_iast (pc := 205) (c := 98) (n := 4) (k := 0) F hg (by decide) (by decide) (by decide) (by decide) rfl (by decide) dX11_init_205 ?_
  refine VI.mu (μ' := mu9) rfl ?_
  refine i_iinc (pc := 206) (lv' := [(1, Iv 1), (0, Rv 11)]) 0 F dX11_init_206 rfl (by decide) (by decide) ?_
  refine i_goto (pc := 209) (tgt := 193) F dX11_init_209 (by decide) ?_
  refine i_iload_n (pc := 193) 0 F dX11_init_193 rfl rfl ?_
  refine i_iconst (pc := 194) F dX11_init_194 (inR_lit rfl) ?_
  refine i_icmp_ge (pc := 195) (tgt := 212) F dX11_init_195 (by decide) (fun z => absurd z (by decide)) (fun _ => ?_)
  refine i_aload_n (pc := 198) 1 F dX11_init_198 rfl rfl ?_
  refine i_getR (pc := 199) (ci := 11) (k := 10) (d := 98) F inX11 rfl (by decide) (by decide) rfl (by decide) rfl rfl (tbm (w := Cond.fieldLink RX11 38 "WorkOrdersModel" "ways" "[I") (List.mem_of_getElem? (i := 860) (by decide +kernel)) rfl) dX11_init_199 ?_
  refine i_iload_n (pc := 202) 0 F dX11_init_202 rfl rfl ?_
  refine i_bipush (pc := 203) F dX11_init_203 (inR_lit rfl) (by decide) ?_
  refine i_iast (pc := 205) (c := 98) (n := 4) (k := 1) F hg (by decide) (by decide) (by decide) (by decide) rfl (by decide) dX11_init_205 ?_
  refine VI.mu (μ' := mu10) rfl ?_
  refine i_iinc (pc := 206) (lv' := [(1, Iv 2), (0, Rv 11)]) 0 F dX11_init_206 rfl (by decide) (by decide) ?_
  refine i_goto (pc := 209) (tgt := 193) F dX11_init_209 (by decide) ?_
  refine i_iload_n (pc := 193) 0 F dX11_init_193 rfl rfl ?_
  refine i_iconst (pc := 194) F dX11_init_194 (inR_lit rfl) ?_
  refine i_icmp_ge (pc := 195) (tgt := 212) F dX11_init_195 (by decide) (fun z => absurd z (by decide)) (fun _ => ?_)
  refine i_aload_n (pc := 198) 1 F dX11_init_198 rfl rfl ?_
  refine i_getR (pc := 199) (ci := 11) (k := 10) (d := 98) F inX11 rfl (by decide) (by decide) rfl (by decide) rfl rfl (tbm (w := Cond.fieldLink RX11 38 "WorkOrdersModel" "ways" "[I") (List.mem_of_getElem? (i := 860) (by decide +kernel)) rfl) dX11_init_199 ?_
  refine i_iload_n (pc := 202) 0 F dX11_init_202 rfl rfl ?_
  refine i_bipush (pc := 203) F dX11_init_203 (inR_lit rfl) (by decide) ?_
  refine i_iast (pc := 205) (c := 98) (n := 4) (k := 2) F hg (by decide) (by decide) (by decide) (by decide) rfl (by decide) dX11_init_205 ?_
  refine VI.mu (μ' := mu11) rfl ?_
  refine i_iinc (pc := 206) (lv' := [(1, Iv 3), (0, Rv 11)]) 0 F dX11_init_206 rfl (by decide) (by decide) ?_
  refine i_goto (pc := 209) (tgt := 193) F dX11_init_209 (by decide) ?_
  refine i_iload_n (pc := 193) 0 F dX11_init_193 rfl rfl ?_
  refine i_iconst (pc := 194) F dX11_init_194 (inR_lit rfl) ?_
  refine i_icmp_ge (pc := 195) (tgt := 212) F dX11_init_195 (by decide) (fun z => absurd z (by decide)) (fun _ => ?_)
  refine i_aload_n (pc := 198) 1 F dX11_init_198 rfl rfl ?_
  refine i_getR (pc := 199) (ci := 11) (k := 10) (d := 98) F inX11 rfl (by decide) (by decide) rfl (by decide) rfl rfl (tbm (w := Cond.fieldLink RX11 38 "WorkOrdersModel" "ways" "[I") (List.mem_of_getElem? (i := 860) (by decide +kernel)) rfl) dX11_init_199 ?_
  refine i_iload_n (pc := 202) 0 F dX11_init_202 rfl rfl ?_
  refine i_bipush (pc := 203) F dX11_init_203 (inR_lit rfl) (by decide) ?_
  refine i_iast (pc := 205) (c := 98) (n := 4) (k := 3) F hg (by decide) (by decide) (by decide) (by decide) rfl (by decide) dX11_init_205 ?_
  refine VI.mu (μ' := mu12) rfl ?_
  refine i_iinc (pc := 206) (lv' := [(1, Iv 4), (0, Rv 11)]) 0 F dX11_init_206 rfl (by decide) (by decide) ?_
  refine i_goto (pc := 209) (tgt := 193) F dX11_init_209 (by decide) ?_
  refine i_iload_n (pc := 193) 0 F dX11_init_193 rfl rfl ?_
  refine i_iconst (pc := 194) F dX11_init_194 (inR_lit rfl) ?_
  refine i_icmp_ge (pc := 195) (tgt := 212) F dX11_init_195 (by decide) (fun _ => ?_) (fun z => absurd (by decide) z)
  exact i_vret (pc := 212) F hg (by decide) hAO hR hk hr dX11_init_212
theorem dfl10 (g : Wc) : ∀ j, j < 10 → defaultValue (tyX10 j) = vp_V (flds2 g.1 (nu0 0) (mu0 0) 0 [some 1, some 2, some 3, some 4, some 5, some 6, some 7, some 8, some 9, some 10]) j := by
  intro j hj
  have : j = 0 ∨ j = 1 ∨ j = 2 ∨ j = 3 ∨ j = 4 ∨ j = 5 ∨ j = 6 ∨ j = 7 ∨ j = 8 ∨ j = 9 := by omega
  rcases this with rfl | rfl | rfl | rfl | rfl | rfl | rfl | rfl | rfl | rfl <;> rfl
theorem dfl11 (g : Wc) : ∀ j, j < 27 → defaultValue (tyX11 j) = vp_V (flds2 g.1 (nu45 11) (mu6 11) 0 [none, some 90, some 91, some 92, some 93, some 94, some 95, some 96, some 97, none, some 98, some 99, none, some 100, some 101, none, some 102, none, some 103, some 104, some 105, some 106, some 107, some 108, some 109, some 110, some 111]) j := by
  intro j hj
  have : j = 0 ∨ j = 1 ∨ j = 2 ∨ j = 3 ∨ j = 4 ∨ j = 5 ∨ j = 6 ∨ j = 7 ∨ j = 8 ∨ j = 9 ∨ j = 10 ∨ j = 11 ∨ j = 12 ∨ j = 13 ∨ j = 14 ∨ j = 15 ∨ j = 16 ∨ j = 17 ∨ j = 18 ∨ j = 19 ∨ j = 20 ∨ j = 21 ∨ j = 22 ∨ j = 23 ∨ j = 24 ∨ j = 25 ∨ j = 26 := by omega
  rcases this with rfl | rfl | rfl | rfl | rfl | rfl | rfl | rfl | rfl | rfl | rfl | rfl | rfl | rfl | rfl | rfl | rfl | rfl | rfl | rfl | rfl | rfl | rfl | rfl | rfl | rfl | rfl <;> rfl
set_option maxHeartbeats 4000000 in
set_option maxRecDepth 100000 in
/-- the law from its entry to its loop: both objects are made -/
theorem law_made {g : Wc} {B : Nat} {X : Cx} (hg : Gq g B) (F : Fx g X cL_law RL 4 17) (hAO : AOv X.2.1.1) (hk : X.2.2.2 = (0, 0)) (hcap : X.1.2.2.2.cells = 600000 ∧ X.1.2.2.2.slots = 7302249) (kk : VI g B nu67 112 (nx (nx (nx (nx X 1 10) 88 6769) 1 27) 22 19976) 4 mu12 [(3, Iv 0), (2, Rv 11), (1, Rv 0), (0, Rv 115)] 18 []) : VI g B nu0 0 X 4 mu0 [(0, Rv 115)] 0 [] := by
  refine i_new (pc := 0) (c := 0) (ci := 10) F hg inX10 tyX10 tyX10_ok rfl (by decide) rfl (by decide) (dfl10 g) (tbm (List.mem_of_getElem? (i := 64) (by decide +kernel)) rfl) (tbm (List.mem_of_getElem? (i := 65) (by decide +kernel)) rfl) (tbm (List.mem_of_getElem? (i := 48) (by decide +kernel)) rfl) (capI hk hcap (by decide) (by decide)) dL_law_0 ?_
  have F := F.nx (capI (i := 1) (j := 10) hk hcap (by decide) (by decide))
  have hk := nx_k (i := 1) (j := 10) (a' := 1) (b' := 10) hk rfl rfl
  refine VI.ka (κ' := 1) rfl ?_
  refine i_dup (pc := 3) F dL_law_3 rfl ?_
  refine i_call (pc := 4) (avs := []) (st := [Rv 0]) (c := 0) F hg hAO (by decide) (ci_X10_init hg) (by decide) cal_X10_init rfl (tbm (List.mem_of_getElem? (i := 67) (by decide +kernel)) rfl) (tbm (List.mem_of_getElem? (i := 66) (by decide +kernel)) rfl) rfl rfl (Nat.le_of_ble_eq_true rfl) (capI hk hcap (by decide) (by decide)) rg6 dL_law_4 ?_
  have F := F.nx (capI (i := 88) (j := 6769) hk hcap (by decide) (by decide))
  have hk := nx_k (i := 88) (j := 6769) (a' := 89) (b' := 6779) hk rfl rfl
  refine i_astore_n (pc := 7) (lv' := [(1, Rv 0), (0, Rv 115)]) F dL_law_7 rfl (by decide) rfl ?_
  refine i_new (pc := 8) (c := 11) (ci := 11) F hg inX11 tyX11 tyX11_ok rfl (by decide) rfl (by decide) (dfl11 g) (tbm (List.mem_of_getElem? (i := 844) (by decide +kernel)) rfl) (tbm (List.mem_of_getElem? (i := 845) (by decide +kernel)) rfl) (tbm (List.mem_of_getElem? (i := 59) (by decide +kernel)) rfl) (capI hk hcap (by decide) (by decide)) dL_law_8 ?_
  have F := F.nx (capI (i := 1) (j := 27) hk hcap (by decide) (by decide))
  have hk := nx_k (i := 1) (j := 27) (a' := 90) (b' := 6806) hk rfl rfl
  refine VI.ka (κ' := 90) rfl ?_
  refine i_dup (pc := 11) F dL_law_11 rfl ?_
  refine i_call (pc := 12) (avs := []) (st := [Rv 11]) (c := 11) F hg hAO (by decide) (ci_X11_init hg) (by decide) cal_X11_init rfl (tbm (List.mem_of_getElem? (i := 847) (by decide +kernel)) rfl) (tbm (List.mem_of_getElem? (i := 846) (by decide +kernel)) rfl) rfl rfl (Nat.le_of_ble_eq_true rfl) (capI hk hcap (by decide) (by decide)) rg12 dL_law_12 ?_
  have F := F.nx (capI (i := 22) (j := 19976) hk hcap (by decide) (by decide))
  have hk := nx_k (i := 22) (j := 19976) (a' := 112) (b' := 26782) hk rfl rfl
  refine i_astore_n (pc := 15) (lv' := [(2, Rv 11), (1, Rv 0), (0, Rv 115)]) F dL_law_15 rfl (by decide) rfl ?_
  refine i_iconst (pc := 16) F dL_law_16 (inR_lit rfl) ?_
  refine i_istore_n (pc := 17) (lv' := [(3, Iv 0), (2, Rv 11), (1, Rv 0), (0, Rv 115)]) F dL_law_17 rfl (by decide) rfl ?_
  exact kk
