/-! EXCEPTIONS: what a throw needs of the state, kept along a walk; the words of the five throws. -/
def px_q : Cond → Bool
  | .castable _ _ => true
  | .declares _ => true
  | _ => false
def px_ok (w : Cond) : Bool := pw_ok w || px_q w
def px_LG : List Cond := lw_tbl.filter px_ok
def px_T (U : State) : Prop := ∀ w ∈ px_LG, w.before #[] U = true
theorem px_warm {s U : State} (hW : s.WarmedH U.vm) {w : Cond} (hk : px_ok w = true) {a a' : Array Value} (h : w.before a s = true) : w.before a' U = true := by
  unfold px_ok at hk
  rcases Bool.or_eq_true_iff.mp hk with h1 | h1
  · exact pw_warm hW h1 h
  · cases w <;> first | exact absurd h1 Bool.false_ne_true | exact va_Nw.use rfl (va_Nw.warmC hW (va_Nw.of rfl h)) | exact va_Nw.use rfl (va_Nw.warmD hW (va_Nw.of rfl h))
theorem px_T.warm {s U : State} (hW : s.WarmedH U.vm) (h : px_T s) : px_T U := fun w hw => px_warm hW (List.mem_filter.mp hw).2 (h w hw)
theorem px_T.at {s : State} {a : Array Value} (h : px_T s) : ∀ w ∈ px_LG, w.before a s = true := fun w hw => px_warm (State.WarmedH.refl s) (List.mem_filter.mp hw).2 (h w hw)
theorem px_T.of {s : State} {a : Array Value} (h : ∀ w ∈ lw_tbl, w.before a s = true) : px_T s := fun w hw => px_warm (State.WarmedH.refl s) (List.mem_filter.mp hw).2 (h w (List.mem_filter.mp hw).1)
def px_UOE : String := "java/lang/UnsupportedOperationException"
def px_IAE : String := "java/lang/IllegalArgumentException"
def px_ISE : String := "java/lang/IllegalStateException"
def px_N : List String := ["java/lang/RuntimeException", "java/lang/Exception"]
/-- what a throw needs of the state and of the heap -/
def px_E (G : pw_G) (U : State) (H : Heap) : Prop := px_T U ∧ vx_Zq Bundle.tN "UNASSIGNED_STACK" Bundle.steD (pw_A G) U H ∧ vx_Zq Bundle.tN "SUPPRESSED_SENTINEL" Bundle.listD (pw_A G) U H ∧
  (∃ a, vk_R RX3 23 "twins" a U) ∧ (∃ a, vk_R RX3 30 "a marriage" a U) ∧ (∃ a, vk_R RX3 35 "a band" a U) ∧ (∃ a, vk_R RX10 349 "no such shelf" a U) ∧ (∃ a, vk_R RX10 356 "no row, or no such place in it" a U) ∧
  va_Nc px_IAE px_UOE U ∧ va_Nc px_ISE px_UOE U ∧ va_Nc px_ISE px_IAE U
theorem px_E.move {G : pw_G} {s U : State} {H H1 : Heap} (hW : s.WarmedH U.vm) (hk : ∀ q : Nat, q < H.size → ¬ pw_A G q → H1[q]? = H[q]?) (h : px_E G s H) : px_E G U H1 := by
  obtain ⟨h1, h2, h3, ⟨a4, h4⟩, ⟨a5, h5⟩, ⟨a6, h6⟩, ⟨a7, h7⟩, ⟨a8, h8⟩, h9, h10, h11⟩ := h
  exact ⟨h1.warm hW, vx_Zq.moved hW.alike (h2.kept hk), vx_Zq.moved hW.alike (h3.kept hk), ⟨a4, vk_R.warm hW h4⟩, ⟨a5, vk_R.warm hW h5⟩, ⟨a6, vk_R.warm hW h6⟩, ⟨a7, vk_R.warm hW h7⟩, ⟨a8, vk_R.warm hW h8⟩, va_Nc.moved hW.alike h9, va_Nc.moved hW.alike h10, va_Nc.moved hW.alike h11⟩
theorem px_E.calling {G : pw_G} {U : State} {H : Heap} {g : JFrame} {mk : MethodId} {a : Array Value} (h : px_E G U H) : px_E G (U.calling g mk a) H := h.move (State.WarmedH.refl U) (fun _ _ _ => rfl)
theorem px_in {L : List Cond} (h : ∀ w ∈ L, w ∈ lw_tbl ∧ px_ok w = true) : ∀ w ∈ L, w ∈ px_LG := fun w hw => List.mem_filter.mpr (h w hw)
set_option maxRecDepth 100000 in
theorem px_w0 : ∀ w ∈ vx_atS RX3 25 px_UOE px_N, w ∈ px_LG := px_in (by decide +kernel)
set_option maxRecDepth 100000 in
theorem px_w1 : ∀ w ∈ vx_atS RX3 32 px_IAE px_N, w ∈ px_LG := px_in (by decide +kernel)
set_option maxRecDepth 100000 in
theorem px_w2 : ∀ w ∈ vx_atS RX3 37 px_ISE px_N, w ∈ px_LG := px_in (by decide +kernel)
set_option maxRecDepth 100000 in
theorem px_w3 : ∀ w ∈ vx_atS RX10 351 px_IAE px_N, w ∈ px_LG := px_in (by decide +kernel)
set_option maxRecDepth 100000 in
theorem px_w4 : ∀ w ∈ vx_atS RX10 358 px_ISE px_N, w ∈ px_LG := px_in (by decide +kernel)
