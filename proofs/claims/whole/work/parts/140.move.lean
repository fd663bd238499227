/-! Moving the tables' words, the statics; statics and constants as rows. -/
def onW : Cond → Bool
  | .arrayClass _ => true
  | w => w.onTables
theorem lw_on : tb.all onW = true := by decide +kernel
theorem word_any {w : Cond} (hw : w ∈ tb) {A : Array Value} {U : State} (h : w.before A U = true) (B : Array Value) : w.before B U = true := by
  have h1 := List.all_eq_true.mp lw_on w hw
  cases w <;> first | exact va_any (by exact h1) h | exact h
theorem word_mv {w : Cond} (hw : w ∈ tb) {s U : State} (hW : s.WarmedH U.vm) (h : ∀ A : Array Value, w.before A s = true) : ∀ A : Array Value, w.before A U = true := by
  have h1 := (List.mem_filter.mp hw).2
  intro A
  cases w
  case methodLinkNest => exact va_Nw.use rfl (va_Nw.warmM hW (h #[]))
  case fieldLinkNest => exact va_Nw.use rfl (va_Nw.warmF hW (h #[]))
  all_goals exact word_at hW (good_of_word h1) (h #[])
theorem Zs.mv {g : Wc} {s U : State} {H : Heap} (hvm : s.vm.Alike U.vm) (hS : ∀ q, q < s.heap.size → ¬ Aq g q → H[q]? = s.heap[q]?) (h : Zs g s s.heap) : Zs g U H := by
  obtain ⟨⟨a1, a2⟩, ⟨b1, b2⟩, c1, c2⟩ := h
  exact ⟨⟨(a1.kept hS).moved hvm, (a2.kept hS).moved hvm⟩, ⟨(b1.kept hS).moved hvm, (b2.kept hS).moved hvm⟩, (c1.kept hS).moved hvm, (c2.kept hS).moved hvm⟩
theorem Sd.mv {g : Wc} {s U : State} {H : Heap} {locs : List Loc} (hW : s.WarmedH U.vm) (hS : va_S (Aq g) s.heap H locs) (hU : U.heap = H) (h : Sd g s) : Sd g U :=
  ⟨fun w hw => word_mv hw hW (h.1 w hw), va_K.moved hW.alike h.2.1, by rw [hU]; exact Zs.mv hW.alike hS.2.1 h.2.2⟩
