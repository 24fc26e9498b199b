/-! THE RULES OF A WALK THAT MAY THROW -/
set_option maxRecDepth 100000
def px_rm (d : Nat) : Room := { frames := d, cells := 1, slots := 6, locals := 60 * d }
def px_Pc (G : pw_G) (μ : pw_Mem) (U : State) : Prop := pw_WA G μ U ∧ px_E G U U.heap
theorem px_blind {av : List Value} {G : pw_G} {μ : pw_Mem} : FrameBlind (va_Pc av (px_Pc G μ)) := fun a U g mk h => ⟨h.1, ⟨h.2.1.1, va_K.moved (u := U) (U := U.calling g mk a) (Vm.Alike.refl U.vm) h.2.1.2.1, h.2.1.2.2.1.warm (s := U) (U := U.calling g mk a) (State.WarmedH.refl U), h.2.1.2.2.2⟩, h.2.2.calling⟩
/-- what came of it: a value and the memory; or thrown, by its class's name -/
abbrev px_R : Type := (Option Value × pw_Mem) ⊕ (String × pw_Mem)
def px_Qc (G : pw_G) (r : px_R) : Array Value → State → Outcome → State → Prop := match r with
  | .inl q => pw_Q G q.1 q.2
  | .inr _ => fun _ _ _ _ => False
def px_XC (G : pw_G) (r : px_R) : String → State → State → Prop := match r with
  | .inl _ => fun _ _ _ => False
  | .inr q => fun E st t => E = q.1 ∧ pw_Wd G q.2 t.heap ∧ va_F (pw_A G) st t
def XMet {τ : Type} (l : Launch) (G : pw_G) (y : MethodName) (w0 : Cond) (d : Nat) (av : List Value) (μ : pw_Mem) (P : τ → px_R) (x : Option τ) : Prop :=
  ∀ r : τ, x = some r → vx_Met l y [w0] (px_rm d) (va_Pc av (px_Pc G μ)) (px_Qc G (P r)) (px_XC G (P r)) 1 6 (pw_A G)
def px_MQ {τ : Type} (K : pw_K) (G : pw_G) (P : τ → px_R) (r : τ) : State → Prop := vx_MQ K.2.2.2.2.2.2.2.1 (px_Qc G (P r)) (px_XC G (P r)) K.2.2.2.2.2.2.1 K.2.2.2.2.1 1 6 (pw_A G)
/-- what holds of a walk that may throw, at its start -/
def px_S (K : pw_K) (G : pw_G) : Prop := K.2.2.2.2.2.2.2.2.2.2.2.2 = K.2.2.2.2.1.heap ∧ px_E G K.2.2.2.2.1 K.2.2.2.2.1.heap ∧ (K.2.2.2.2.2.2.2.2.2.2.1 = 0 ∧ K.2.2.2.2.2.2.2.2.2.2.2.1 = 0) ∧ (1 ≤ K.2.2.2.1.cells ∧ 6 ≤ K.2.2.2.1.slots) ∧ K.2.1.stackTraces = false
def px_up (K : pw_K) : pw_K := (K.1, K.2.1, K.2.2.1, K.2.2.2.1, K.2.2.2.2.1, K.2.2.2.2.2.1, K.2.2.2.2.2.2.1, K.2.2.2.2.2.2.2.1, K.2.2.2.2.2.2.2.2.1, K.2.2.2.2.2.2.2.2.2.1, K.2.2.2.2.2.2.2.2.2.2.1 + 1, K.2.2.2.2.2.2.2.2.2.2.2.1 + 6, K.2.2.2.2.2.2.2.2.2.2.2.2)
theorem px_iret {τ : Type} {K : pw_K} {G : pw_G} {own : String} {cc : ByteArray} {nL : Nat} {d : Nat} {P : τ → px_R} {v : τ} {pc : Nat} {l : List (Nat × Value)} {μ : pw_Mem} {a : Int32} (hH : K.2.2.2.2.2.2.2.2.2.2.2.2 = K.2.2.2.2.1.heap) (hn : K.2.2.2.2.2.2.2.2.2.2.1 ≤ 1 ∧ K.2.2.2.2.2.2.2.2.2.2.2.1 ≤ 6) (hp : P v = .inl (some (.int a), μ)) (dg : decode cc pc = .ok (.ireturn, 1)) : PW K G own cc nL (some .int) d (px_MQ K G P) (some v) pc l ([.int a]) μ := by
  intro r hr C H locs ls hl hW hS
  cases hr
  have hS2 := hS
  rw [hH] at hS2
  unfold px_MQ
  rw [hp]
  exact W.widen hn.1 hn.2 (vx_ret (W.iret C.1 C.2.1 C.2.2.2.2.2.2.2.2.1 (fun t ht hWm => ⟨rfl, by rw [ht]; exact hW, hS2.F ht⟩) hS.2.2 dg C.2.2.2.2.2.2.2.1))
theorem px_lret {τ : Type} {K : pw_K} {G : pw_G} {own : String} {cc : ByteArray} {nL : Nat} {d : Nat} {P : τ → px_R} {v : τ} {pc : Nat} {l : List (Nat × Value)} {μ : pw_Mem} {a : Int64} (hH : K.2.2.2.2.2.2.2.2.2.2.2.2 = K.2.2.2.2.1.heap) (hn : K.2.2.2.2.2.2.2.2.2.2.1 ≤ 1 ∧ K.2.2.2.2.2.2.2.2.2.2.2.1 ≤ 6) (hp : P v = .inl (some (.long a), μ)) (dg : decode cc pc = .ok (.lreturn, 1)) : PW K G own cc nL (some .long) d (px_MQ K G P) (some v) pc l ([.long a]) μ := by
  intro r hr C H locs ls hl hW hS
  cases hr
  have hS2 := hS
  rw [hH] at hS2
  unfold px_MQ
  rw [hp]
  exact W.widen hn.1 hn.2 (vx_ret (W.lret C.1 C.2.1 C.2.2.2.2.2.2.2.2.1 (fun t ht hWm => ⟨rfl, by rw [ht]; exact hW, hS2.F ht⟩) hS.2.2 dg C.2.2.2.2.2.2.2.1))
theorem px_vret {τ : Type} {K : pw_K} {G : pw_G} {own : String} {cc : ByteArray} {nL : Nat} {d : Nat} {P : τ → px_R} {v : τ} {pc : Nat} {l : List (Nat × Value)} {μ : pw_Mem} (hH : K.2.2.2.2.2.2.2.2.2.2.2.2 = K.2.2.2.2.1.heap) (hn : K.2.2.2.2.2.2.2.2.2.2.1 ≤ 1 ∧ K.2.2.2.2.2.2.2.2.2.2.2.1 ≤ 6) (hp : P v = .inl (none, μ)) (dg : decode cc pc = .ok (.return_, 1)) : PW K G own cc nL (none) d (px_MQ K G P) (some v) pc l ([]) μ := by
  intro r hr C H locs ls hl hW hS
  cases hr
  have hS2 := hS
  rw [hH] at hS2
  unfold px_MQ
  rw [hp]
  exact W.widen hn.1 hn.2 (vx_ret (W.vret C.1 C.2.1 C.2.2.2.2.2.2.2.2.1 (fun t ht hWm => ⟨rfl, by rw [ht]; exact hW, hS2.F ht⟩) hS.2.2 dg C.2.2.2.2.2.2.2.1))
theorem px_grow {G : pw_G} {μ : pw_Mem} {H H1 : Heap} (h : pw_Wd G μ H) (hk : ∀ q : Nat, q < H.size → H1[q]? = H[q]?) : pw_Wd G μ H1 := va_P.kept h (fun k q hq => hk q.1 (vx_lt h hq))
/-- throw new E("text") -/
theorem px_thr {τ : Type} {K : pw_K} {G : pw_G} {own : String} {cc : ByteArray} {nL : Nat} {ret : Option FieldType} {d : Nat} {P : τ → px_R} {r : τ} {pc : Nat} {l : List (Nat × Value)} {st : List Value} {μ : pw_Mem} {cls text : String} {ik is ic : Nat} (hX : px_S K G) (hcls : Bundle.fit cls = true) (hstr : ∃ a, vk_R own is text a K.2.2.2.2.1) (hk : Cond.classLink own ik cls ∈ pw_LG) (hini : Cond.initialized cls ∈ pw_LG) (hat : ∀ w ∈ vx_atS own ic cls px_N, w ∈ px_LG) (hot : (vx_atS own ic cls px_N).all vx_ot = true) (hp : P r = .inr (cls, μ))
    (d0 : decode cc pc = .ok (.new ik, 3)) (d3 : decode cc (pc + 3) = .ok (.dup, 1)) (d4 : decode cc (pc + 4) = .ok (.ldc is, 2)) (d6 : decode cc (pc + 6) = .ok (.invokespecial ic, 3)) (d9 : decode cc (pc + 9) = .ok (.athrow, 1))
    (hout : ∀ x ∈ K.2.2.2.2.2.2.2.2.2.1.exceptionTable.toList, covers x (pc + 9) = false) (hd : 6 ≤ d) (hw : (st.map fun v => v.category).sum ≤ 8) : PW K G own cc nL ret d (px_MQ K G P) (some r) pc l st μ := by
  intro r2 hr C H locs ls hl hW hS
  cases hr
  obtain ⟨hH, hE, hn, hR, hl0⟩ := hX
  rw [hH] at hS
  obtain ⟨sa, hstr⟩ := hstr
  have hfl := C.2.2.2.2.2.2.2.2.2.1
  unfold px_MQ
  rw [hp]
  refine vx_throwS (own := own) (cls := cls) (text := text) (names := px_N) (A := pw_A G) C.1 C.2.1 hl0 C.2.2.2.1 hcls (by decide) (C.2.2.2.2.1.at _ hk) (C.2.2.2.2.1.at _ hini) hstr (fun w hw => hE.1.at _ (hat w hw)) ?_ hE.2.1 hE.2.2.1 hS (hl.1.trans C.2.2.1.symm) d0 d3 d4 d6 d9 hout (Nat.lt_of_lt_of_le (show 2 + 3 < 6 by decide) (Nat.le_trans hd hfl.1)) ?_ (by rw [hn.1]; exact hR.1) (by rw [hn.2]; exact hR.2) C.2.2.2.2.2.2.2.1 (fun t hA h1 h2 => ⟨rfl, px_grow hW h2, ?_⟩) hS.2.2 (by rw [hn.1]; exact Nat.le_refl _) (by rw [hn.2]; exact Nat.le_refl _)
  · intro w hw2
    rcases List.mem_cons.mp hw2 with rfl | hw2
    · rfl
    · rcases List.mem_cons.mp hw2 with rfl | hw2
      · rfl
      · exact List.all_eq_true.mp hot w hw2
  · show _ + (13 * (2 + 1) + 43) ≤ _
    omega
  · exact ⟨Nat.le_trans hS.1 h1, fun q q1 q2 => (h2 q (Nat.lt_of_lt_of_le q1 hS.1)).trans (hS.2.1 q q1 q2)⟩
/-- .. the text by a wide index -/
theorem px_thrW {τ : Type} {K : pw_K} {G : pw_G} {own : String} {cc : ByteArray} {nL : Nat} {ret : Option FieldType} {d : Nat} {P : τ → px_R} {r : τ} {pc : Nat} {l : List (Nat × Value)} {st : List Value} {μ : pw_Mem} {cls text : String} {ik is ic : Nat} (hX : px_S K G) (hcls : Bundle.fit cls = true) (hstr : ∃ a, vk_R own is text a K.2.2.2.2.1) (hk : Cond.classLink own ik cls ∈ pw_LG) (hini : Cond.initialized cls ∈ pw_LG) (hat : ∀ w ∈ vx_atS own ic cls px_N, w ∈ px_LG) (hot : (vx_atS own ic cls px_N).all vx_ot = true) (hp : P r = .inr (cls, μ))
    (d0 : decode cc pc = .ok (.new ik, 3)) (d3 : decode cc (pc + 3) = .ok (.dup, 1)) (d4 : decode cc (pc + 4) = .ok (.ldc_w is, 3)) (d7 : decode cc (pc + 7) = .ok (.invokespecial ic, 3)) (d10 : decode cc (pc + 10) = .ok (.athrow, 1))
    (hout : ∀ x ∈ K.2.2.2.2.2.2.2.2.2.1.exceptionTable.toList, covers x (pc + 10) = false) (hd : 6 ≤ d) (hw : (st.map fun v => v.category).sum ≤ 8) : PW K G own cc nL ret d (px_MQ K G P) (some r) pc l st μ := by
  intro r2 hr C H locs ls hl hW hS
  cases hr
  obtain ⟨hH, hE, hn, hR, hl0⟩ := hX
  rw [hH] at hS
  obtain ⟨sa, hstr⟩ := hstr
  have hfl := C.2.2.2.2.2.2.2.2.2.1
  unfold px_MQ
  rw [hp]
  refine vx_throwSW (own := own) (cls := cls) (text := text) (names := px_N) (A := pw_A G) C.1 C.2.1 hl0 C.2.2.2.1 hcls (by decide) (C.2.2.2.2.1.at _ hk) (C.2.2.2.2.1.at _ hini) hstr (fun w hw => hE.1.at _ (hat w hw)) ?_ hE.2.1 hE.2.2.1 hS (hl.1.trans C.2.2.1.symm) d0 d3 d4 d7 d10 hout (Nat.lt_of_lt_of_le (show 2 + 3 < 6 by decide) (Nat.le_trans hd hfl.1)) ?_ (by rw [hn.1]; exact hR.1) (by rw [hn.2]; exact hR.2) C.2.2.2.2.2.2.2.1 (fun t hA h1 h2 => ⟨rfl, px_grow hW h2, ?_⟩) hS.2.2 (by rw [hn.1]; exact Nat.le_refl _) (by rw [hn.2]; exact Nat.le_refl _)
  · intro w hw2
    rcases List.mem_cons.mp hw2 with rfl | hw2
    · rfl
    · rcases List.mem_cons.mp hw2 with rfl | hw2
      · rfl
      · exact List.all_eq_true.mp hot w hw2
  · show _ + (13 * (2 + 1) + 43) ≤ _
    omega
  · exact ⟨Nat.le_trans hS.1 h1, fun q q1 q2 => (h2 q (Nat.lt_of_lt_of_le q1 hS.1)).trans (hS.2.1 q q1 q2)⟩
/-- something thrown, seen from the frame -/
def PX {τ : Type} (K : pw_K) (G : pw_G) (own : String) (cc : ByteArray) (nL : Nat) (ret : Option FieldType) (d : Nat) (Q : τ → State → Prop) (x : Option τ) (pc : Nat) (l : List (Nat × Value)) (rest : List Value) (E : String) (μ : pw_Mem) : Prop :=
  ∀ r : τ, x = some r → pw_C K G own cc nL ret d → ∀ (H : Heap) (locs : List Loc) (ls : Array Slot) (q : Nat) (ce : Cell), lv_has ls nL l → pw_Wd G μ H → va_S (pw_A G) K.2.2.2.2.2.2.2.2.2.2.2.2 H locs → H[q]? = some ce → ce.vm = .none → K.2.2.2.2.1.vm.findClass E = some ce.cls →
    vx_W K.1 K.2.1 K.2.2.1 K.2.2.2.1 K.2.2.2.2.1 K.2.2.2.2.2.1 K.2.2.2.2.2.2.1 K.2.2.2.2.2.2.2.1 K.2.2.2.2.2.2.2.2.1 K.2.2.2.2.2.2.2.2.2.1 H locs K.2.2.2.2.2.2.2.2.2.2.1 K.2.2.2.2.2.2.2.2.2.2.2.1 (Q r) (F0 K.2.2.2.2.2.1 pc ls rest) q
/-- behind a call that may throw -/
theorem px_back {K : pw_K} {G : pw_G} {Q : State → Prop} {pc : Nat} {st0 rest : List Value} {H : Heap} {locs : List Loc} {ls : Array Slot} {r : px_R} {a : Array Value}
    (hS : va_S (pw_A G) K.2.2.2.2.2.2.2.2.2.2.2.2 H locs) (hr : vx_Run K.1 K.2.1 K.2.2.1 K.2.2.2.1 K.2.2.2.2.1 K.2.2.2.2.2.1 K.2.2.2.2.2.2.1 K.2.2.2.2.2.2.2.1 K.2.2.2.2.2.2.2.2.1 K.2.2.2.2.2.2.2.2.2.1 H locs K.2.2.2.2.2.2.2.2.2.2.1 K.2.2.2.2.2.2.2.2.2.2.2.1 1 6 (F0 K.2.2.2.2.2.1 pc ls st0) rest (px_Qc G r a) (px_XC G r) (pw_A G))
    (kk : ∀ (v : Option Value) (μ' : pw_Mem), r = .inl (v, μ') → ∀ (H1 : Heap) (locs1 : List Loc), pw_Wd G μ' H1 → va_S (pw_A G) K.2.2.2.2.2.2.2.2.2.2.2.2 H1 locs1 → pw_W (px_up K) H1 locs1 Q (F0 K.2.2.2.2.2.1 (pc + 3) ls (v.toList ++ rest)))
    (kx : ∀ (E : String) (μ' : pw_Mem), r = .inr (E, μ') → ∀ (H1 : Heap) (locs1 : List Loc) (q : Nat) (ce : Cell), pw_Wd G μ' H1 → va_S (pw_A G) K.2.2.2.2.2.2.2.2.2.2.2.2 H1 locs1 → H1[q]? = some ce → ce.vm = .none → K.2.2.2.2.1.vm.findClass E = some ce.cls → vx_W K.1 K.2.1 K.2.2.1 K.2.2.2.1 K.2.2.2.2.1 K.2.2.2.2.2.1 K.2.2.2.2.2.2.1 K.2.2.2.2.2.2.2.1 K.2.2.2.2.2.2.2.2.1 K.2.2.2.2.2.2.2.2.2.1 H1 locs1 (K.2.2.2.2.2.2.2.2.2.2.1 + 1) (K.2.2.2.2.2.2.2.2.2.2.2.1 + 6) Q (F0 K.2.2.2.2.2.1 pc ls rest) q) : pw_W K H locs Q (F0 K.2.2.2.2.2.1 pc ls st0) := by
  have key : ∀ {st₀ t T' : State} {L : List Loc}, st₀.heap = H → T'.heap = t.heap → (∀ q ∈ L, pw_A G q.base) → va_F (pw_A G) st₀ t → va_S (pw_A G) K.2.2.2.2.2.2.2.2.2.2.2.2 T'.heap (locs ++ L) := by
    intro st₀ t T' L h0 e1 hL ⟨hz, hk⟩
    rw [h0] at hz hk
    exact ⟨Nat.le_trans hS.1 (by rw [e1]; exact hz), fun q h1 h2 => by rw [e1, hk q (Nat.lt_of_lt_of_le h1 hS.1) h2]; exact hS.2.1 q h1 h2, fun q hq => by
      rcases List.mem_append.mp hq with h | h
      · exact hS.2.2 q h
      · exact hL q h⟩
  intro T hT X
  rcases hr T hT X with ⟨v2, st₀, t, T', L, h0, X', hL, e1, e2, hq, st⟩ | ⟨q, st₀, t, T', L, E, ce, h0, X', hL, e1, e2, hx, hce, hcv, hcl, st⟩
  · match r, hq with
    | .inl (v, μ'), ⟨hv, hwd, hF⟩ =>
      cases hv
      obtain ⟨t2, a1, b1⟩ := kk v μ' rfl T'.heap (locs ++ L) (by rw [e1]; exact hwd) (key h0 e1 hL hF) T' rfl X'
      exact ⟨t2, st t2 a1, b1⟩
  · match r, hx with
    | .inr (E2, μ'), ⟨hE, hwd, hF⟩ =>
      cases hE
      obtain ⟨t2, a1, b1⟩ := kx E2 μ' rfl T'.heap (locs ++ L) q ce (by rw [e1]; exact hwd) (key h0 e1 hL hF) (by rw [e1]; exact hce) hcv hcl T' rfl X'
      exact ⟨t2, st.trans a1, b1⟩
theorem px_upC {K : pw_K} {G : pw_G} {own : String} {cc : ByteArray} {nL : Nat} {ret : Option FieldType} {d : Nat} (C : pw_C K G own cc nL ret d) (hR : K.2.2.2.2.2.2.2.2.2.2.1 + 1 ≤ K.2.2.2.1.cells ∧ K.2.2.2.2.2.2.2.2.2.2.2.1 + 6 ≤ K.2.2.2.1.slots) : pw_C (px_up K) G own cc nL ret d := ⟨C.1, C.2.1, C.2.2.1, C.2.2.2.1, C.2.2.2.2.1, C.2.2.2.2.2.1, C.2.2.2.2.2.2.1, C.2.2.2.2.2.2.2.1, C.2.2.2.2.2.2.2.2.1, C.2.2.2.2.2.2.2.2.2.1, hR.1, hR.2⟩

theorem px_callS {τ : Type} {K : pw_K} {G : pw_G} {own : String} {cc : ByteArray} {nL : Nat} {ret : Option FieldType} {d : Nat} {Q : τ → State → Prop} {pc : Nat} {l : List (Nat × Value)} {st : List Value} {μ : pw_Mem} {α : Type} {cy : ByteArray} {nLy : Nat} {rety : Option FieldType} {dy : Nat}  {rest av : List Value} {Py : α → px_R} {y : MethodName} {x1 : Option α} {k : α → Option τ} {n i : Nat} (hE : px_E G K.2.2.2.2.1 K.2.2.2.2.2.2.2.2.2.2.2.2) (hR : K.2.2.2.2.2.2.2.2.2.2.1 + 1 ≤ K.2.2.2.1.cells ∧ K.2.2.2.2.2.2.2.2.2.2.2.1 + 6 ≤ K.2.2.2.1.slots) (hM : XMet K.2.1 G y (.code y cy nLy rety) dy av μ Py x1) (mi : Cond.code y cy nLy rety ∈ pw_LG ∧ Cond.initialized y.cls ∈ pw_LG ∧ (y.cls ≠ "java/lang/invoke/MethodHandle" ∧ y.cls ≠ "java/lang/invoke/VarHandle") ∧ (parseMethodDescriptor y.desc).map (fun d => d.parameters.length) = some n ∧ Cond.static y ∈ pw_LG) (hL : Cond.methodLink own i y ∈ pw_LG) (dg : decode cc pc = .ok (.invokestatic i, 3)) (hst : st = av.reverse ++ rest) (hn : av.length = n) (hd : dy + 1 ≤ d ∧ nLy ≤ 40) (hw : (rest.map fun v => v.category).sum ≤ 8)
    (h : ∀ (v : α) (u : Option Value) (μ' : pw_Mem), Py v = .inl (u, μ') → PW (px_up K) G own cc nL ret d Q (k v) (pc + 3) l (u.toList ++ rest) μ') (hx : ∀ (v : α) (E : String) (μ' : pw_Mem), Py v = .inr (E, μ') → PX (px_up K) G own cc nL ret d Q (k v) pc l rest E μ') : PW K G own cc nL ret d Q (bd x1 k) pc l st μ := by
  intro r hr C H locs ls hl hW hS
  obtain ⟨v, hv, hkv⟩ := Option.bind_eq_some_iff.mp hr
  subst hst
  have hat := fun (w : Cond) (hw : w ∈ pw_LG) => C.2.2.2.2.1.at (a := K.2.2.2.2.2.2.1) w hw
  refine px_back (r := Py v) hS (vx_runS (Ts := pw_LG) (As := av) (n := n) (bytes := cy) (maxL := nLy) (ret := rety) (y := y) ⟨C.1, C.2.1, C.2.2.1, C.2.2.2.1, hat⟩ (hM v hv) ⟨⟨rfl, rfl, Nat.le_trans hd.1 C.2.2.2.2.2.2.2.2.2.1.1, ?_, ?_, List.mem_singleton.mpr rfl, hat _ mi.1, hat _ mi.2.1, mi.2.2.1, pw_len mi.2.2.2.1, hat _ hL⟩, hat _ mi.2.2.2.2⟩ ⟨px_blind, fun U hU hWm => ⟨rfl, ⟨by rw [hU]; exact hW, va_K.moved hWm.alike C.2.2.2.2.2.1, C.2.2.2.2.1.warm hWm, C.2.2.2.2.2.2.1⟩, by rw [hU]; exact hE.move hWm hS.2.1⟩⟩ rfl hn hl.1 rfl (lv_room hw) dg hR)
    (fun u μ' hu H1 locs1 hW1 hS1 => h v u μ' hu r hkv (px_upC C hR) H1 locs1 ls hl hW1 hS1)
    (fun E μ' hu H1 locs1 q ce hW1 hS1 h1 h2 h3 => hx v E μ' hu r hkv (px_upC C hR) H1 locs1 ls q ce hl hW1 hS1 h1 h2 h3)
  · show 8 + (nLy + 11) + 60 * dy ≤ K.2.2.2.1.locals
    have := C.2.2.2.2.2.2.2.2.2.1.2
    omega
  · intro w hw a' U hWm
    rw [List.mem_singleton.mp hw]
    exact pw_warm hWm (List.mem_filter.mp mi.1).2 (hat _ mi.1)

theorem px_callV {τ : Type} {K : pw_K} {G : pw_G} {own : String} {cc : ByteArray} {nL : Nat} {ret : Option FieldType} {d : Nat} {Q : τ → State → Prop} {pc : Nat} {l : List (Nat × Value)} {st : List Value} {μ : pw_Mem} {α : Type} {cy : ByteArray} {nLy : Nat} {rety : Option FieldType} {dy : Nat} {o ci N : Nat} {fs : List (Option Nat)} {C9 : String} {T9 : u_T} {ty9 : Nat → FieldType} {rest av : List Value} {Py : α → px_R} {y : MethodName} {x1 : Option α} {k : α → Option τ} {n i : Nat} (hE : px_E G K.2.2.2.2.1 K.2.2.2.2.2.2.2.2.2.2.2.2) (hR : K.2.2.2.2.2.2.2.2.2.2.1 + 1 ≤ K.2.2.2.1.cells ∧ K.2.2.2.2.2.2.2.2.2.2.2.1 + 6 ≤ K.2.2.2.1.slots) (hM : XMet K.2.1 G y (.code y cy nLy rety) dy (.ref (pw_ad G o) :: av) μ Py x1) (hs : pw_SH o = some (.inl (ci, fs))) (hc : pw_CF ci C9 T9 N ty9) (hy : y.cls = C9) (mi : Cond.code y cy nLy rety ∈ pw_LG ∧ Cond.initialized y.cls ∈ pw_LG ∧ (y.cls ≠ "java/lang/invoke/MethodHandle" ∧ y.cls ≠ "java/lang/invoke/VarHandle") ∧ (parseMethodDescriptor y.desc).map (fun d => d.parameters.length) = some n ∧ Cond.instanceMethod y ∈ pw_LG ∧ Cond.selects y.cls y y ∈ pw_LG) (hL : Cond.methodLink own i y ∈ pw_LG) (dg : decode cc pc = .ok (.invokevirtual i, 3)) (hst : st = av.reverse ++ .ref (pw_ad G o) :: rest) (hn : av.length = n) (hd : dy + 1 ≤ d ∧ nLy ≤ 40) (hw : (rest.map fun v => v.category).sum ≤ 8)
    (h : ∀ (v : α) (u : Option Value) (μ' : pw_Mem), Py v = .inl (u, μ') → PW (px_up K) G own cc nL ret d Q (k v) (pc + 3) l (u.toList ++ rest) μ') (hx : ∀ (v : α) (E : String) (μ' : pw_Mem), Py v = .inr (E, μ') → PX (px_up K) G own cc nL ret d Q (k v) pc l rest E μ') : PW K G own cc nL ret d Q (bd x1 k) pc l st μ := by
  intro r hr C H locs ls hl hW hS
  obtain ⟨v, hv, hkv⟩ := Option.bind_eq_some_iff.mp hr
  subst hst
  subst hy
  have hat := fun (w : Cond) (hw : w ∈ pw_LG) => C.2.2.2.2.1.at (a := K.2.2.2.2.2.2.1) w hw
  refine px_back (r := Py v) hS (vx_runV (Ts := pw_LG) (As := av) (n := n) (bytes := cy) (maxL := nLy) (ret := rety) (y := y) (C := y.cls) (b := pw_ad G o) ⟨C.1, C.2.1, C.2.2.1, C.2.2.2.1, hat⟩ (hM v hv) ⟨⟨rfl, rfl, Nat.le_trans hd.1 C.2.2.2.2.2.2.2.2.2.1.1, ?_, ?_, List.mem_singleton.mpr rfl, hat _ mi.1, hat _ mi.2.1, mi.2.2.1, pw_len mi.2.2.2.1, hat _ hL⟩, hat _ mi.2.2.2.2.1, hat _ mi.2.2.2.2.2⟩ ⟨px_blind, va_recv C.2.2.2.2.2.1 hW hc.1 (pw_at G μ hs), fun U hU hWm => ⟨rfl, ⟨by rw [hU]; exact hW, va_K.moved hWm.alike C.2.2.2.2.2.1, C.2.2.2.2.1.warm hWm, C.2.2.2.2.2.2.1⟩, by rw [hU]; exact hE.move hWm hS.2.1⟩⟩ rfl hn hl.1 rfl (lv_room hw) dg hR)
    (fun u μ' hu H1 locs1 hW1 hS1 => h v u μ' hu r hkv (px_upC C hR) H1 locs1 ls hl hW1 hS1)
    (fun E μ' hu H1 locs1 q ce hW1 hS1 h1 h2 h3 => hx v E μ' hu r hkv (px_upC C hR) H1 locs1 ls q ce hl hW1 hS1 h1 h2 h3)
  · show 8 + (nLy + 11) + 60 * dy ≤ K.2.2.2.1.locals
    have := C.2.2.2.2.2.2.2.2.2.1.2
    omega
  · intro w hw a' U hWm
    rw [List.mem_singleton.mp hw]
    exact pw_warm hWm (List.mem_filter.mp mi.1).2 (hat _ mi.1)

theorem px_callSX {τ : Type} {K : pw_K} {G : pw_G} {own : String} {cc : ByteArray} {nL : Nat} {ret : Option FieldType} {d : Nat} {Q : τ → State → Prop} {pc : Nat} {l : List (Nat × Value)} {st : List Value} {μ : pw_Mem} {α : Type} {cy : ByteArray} {nLy : Nat} {rety : Option FieldType} {dy : Nat} {hh : List (Nat × Nat × Nat × Nat)}  {rest av : List Value} {Py : α → px_R} {y : MethodName} {x1 : Option α} {k : α → Option τ} {n i : Nat} (hE : px_E G K.2.2.2.2.1 K.2.2.2.2.2.2.2.2.2.2.2.2) (hR : K.2.2.2.2.2.2.2.2.2.2.1 + 1 ≤ K.2.2.2.1.cells ∧ K.2.2.2.2.2.2.2.2.2.2.2.1 + 6 ≤ K.2.2.2.1.slots) (hM : XMet K.2.1 G y (.codeWith y cy nLy rety hh) dy av μ Py x1) (mi : Cond.codeWith y cy nLy rety hh ∈ pw_LG ∧ Cond.initialized y.cls ∈ pw_LG ∧ (y.cls ≠ "java/lang/invoke/MethodHandle" ∧ y.cls ≠ "java/lang/invoke/VarHandle") ∧ (parseMethodDescriptor y.desc).map (fun d => d.parameters.length) = some n ∧ Cond.static y ∈ pw_LG) (hL : Cond.methodLink own i y ∈ pw_LG) (dg : decode cc pc = .ok (.invokestatic i, 3)) (hst : st = av.reverse ++ rest) (hn : av.length = n) (hd : dy + 1 ≤ d ∧ nLy ≤ 40) (hw : (rest.map fun v => v.category).sum ≤ 8)
    (h : ∀ (v : α) (u : Option Value) (μ' : pw_Mem), Py v = .inl (u, μ') → PW (px_up K) G own cc nL ret d Q (k v) (pc + 3) l (u.toList ++ rest) μ') (hx : ∀ (v : α) (E : String) (μ' : pw_Mem), Py v = .inr (E, μ') → PX (px_up K) G own cc nL ret d Q (k v) pc l rest E μ') : PW K G own cc nL ret d Q (bd x1 k) pc l st μ := by
  intro r hr C H locs ls hl hW hS
  obtain ⟨v, hv, hkv⟩ := Option.bind_eq_some_iff.mp hr
  subst hst
  have hat := fun (w : Cond) (hw : w ∈ pw_LG) => C.2.2.2.2.1.at (a := K.2.2.2.2.2.2.1) w hw
  refine px_back (r := Py v) hS (vx_runSX (Ts := pw_LG) (As := av) (n := n) (bytes := cy) (maxL := nLy) (ret := rety) (y := y) (hh := hh) ⟨C.1, C.2.1, C.2.2.1, C.2.2.2.1, hat⟩ (hM v hv) ⟨⟨rfl, rfl, Nat.le_trans hd.1 C.2.2.2.2.2.2.2.2.2.1.1, ?_, ?_, List.mem_singleton.mpr rfl⟩, hat _ mi.1, hat _ mi.2.1, mi.2.2.1, pw_len mi.2.2.2.1, hat _ hL, hat _ mi.2.2.2.2⟩ ⟨px_blind, fun U hU hWm => ⟨rfl, ⟨by rw [hU]; exact hW, va_K.moved hWm.alike C.2.2.2.2.2.1, C.2.2.2.2.1.warm hWm, C.2.2.2.2.2.2.1⟩, by rw [hU]; exact hE.move hWm hS.2.1⟩⟩ rfl hn hl.1 rfl (lv_room hw) dg hR)
    (fun u μ' hu H1 locs1 hW1 hS1 => h v u μ' hu r hkv (px_upC C hR) H1 locs1 ls hl hW1 hS1)
    (fun E μ' hu H1 locs1 q ce hW1 hS1 h1 h2 h3 => hx v E μ' hu r hkv (px_upC C hR) H1 locs1 ls q ce hl hW1 hS1 h1 h2 h3)
  · show 8 + (nLy + 11) + 60 * dy ≤ K.2.2.2.1.locals
    have := C.2.2.2.2.2.2.2.2.2.1.2
    omega
  · intro w hw a' U hWm
    rw [List.mem_singleton.mp hw]
    exact pw_warm hWm (List.mem_filter.mp mi.1).2 (hat _ mi.1)

theorem px_callVX {τ : Type} {K : pw_K} {G : pw_G} {own : String} {cc : ByteArray} {nL : Nat} {ret : Option FieldType} {d : Nat} {Q : τ → State → Prop} {pc : Nat} {l : List (Nat × Value)} {st : List Value} {μ : pw_Mem} {α : Type} {cy : ByteArray} {nLy : Nat} {rety : Option FieldType} {dy : Nat} {hh : List (Nat × Nat × Nat × Nat)} {o ci N : Nat} {fs : List (Option Nat)} {C9 : String} {T9 : u_T} {ty9 : Nat → FieldType} {rest av : List Value} {Py : α → px_R} {y : MethodName} {x1 : Option α} {k : α → Option τ} {n i : Nat} (hE : px_E G K.2.2.2.2.1 K.2.2.2.2.2.2.2.2.2.2.2.2) (hR : K.2.2.2.2.2.2.2.2.2.2.1 + 1 ≤ K.2.2.2.1.cells ∧ K.2.2.2.2.2.2.2.2.2.2.2.1 + 6 ≤ K.2.2.2.1.slots) (hM : XMet K.2.1 G y (.codeWith y cy nLy rety hh) dy (.ref (pw_ad G o) :: av) μ Py x1) (hs : pw_SH o = some (.inl (ci, fs))) (hc : pw_CF ci C9 T9 N ty9) (hy : y.cls = C9) (mi : Cond.codeWith y cy nLy rety hh ∈ pw_LG ∧ Cond.initialized y.cls ∈ pw_LG ∧ (y.cls ≠ "java/lang/invoke/MethodHandle" ∧ y.cls ≠ "java/lang/invoke/VarHandle") ∧ (parseMethodDescriptor y.desc).map (fun d => d.parameters.length) = some n ∧ Cond.instanceMethod y ∈ pw_LG ∧ Cond.selects y.cls y y ∈ pw_LG) (hL : Cond.methodLink own i y ∈ pw_LG) (dg : decode cc pc = .ok (.invokevirtual i, 3)) (hst : st = av.reverse ++ .ref (pw_ad G o) :: rest) (hn : av.length = n) (hd : dy + 1 ≤ d ∧ nLy ≤ 40) (hw : (rest.map fun v => v.category).sum ≤ 8)
    (h : ∀ (v : α) (u : Option Value) (μ' : pw_Mem), Py v = .inl (u, μ') → PW (px_up K) G own cc nL ret d Q (k v) (pc + 3) l (u.toList ++ rest) μ') (hx : ∀ (v : α) (E : String) (μ' : pw_Mem), Py v = .inr (E, μ') → PX (px_up K) G own cc nL ret d Q (k v) pc l rest E μ') : PW K G own cc nL ret d Q (bd x1 k) pc l st μ := by
  intro r hr C H locs ls hl hW hS
  obtain ⟨v, hv, hkv⟩ := Option.bind_eq_some_iff.mp hr
  subst hst
  subst hy
  have hat := fun (w : Cond) (hw : w ∈ pw_LG) => C.2.2.2.2.1.at (a := K.2.2.2.2.2.2.1) w hw
  refine px_back (r := Py v) hS (vx_runVX (Ts := pw_LG) (As := av) (n := n) (bytes := cy) (maxL := nLy) (ret := rety) (y := y) (hh := hh) (C := y.cls) (b := pw_ad G o) ⟨C.1, C.2.1, C.2.2.1, C.2.2.2.1, hat⟩ (hM v hv) ⟨⟨rfl, rfl, Nat.le_trans hd.1 C.2.2.2.2.2.2.2.2.2.1.1, ?_, ?_, List.mem_singleton.mpr rfl⟩, hat _ mi.1, hat _ mi.2.1, mi.2.2.1, pw_len mi.2.2.2.1, hat _ hL, hat _ mi.2.2.2.2.1, hat _ mi.2.2.2.2.2⟩ ⟨px_blind, va_recv C.2.2.2.2.2.1 hW hc.1 (pw_at G μ hs), fun U hU hWm => ⟨rfl, ⟨by rw [hU]; exact hW, va_K.moved hWm.alike C.2.2.2.2.2.1, C.2.2.2.2.1.warm hWm, C.2.2.2.2.2.2.1⟩, by rw [hU]; exact hE.move hWm hS.2.1⟩⟩ rfl hn hl.1 rfl (lv_room hw) dg hR)
    (fun u μ' hu H1 locs1 hW1 hS1 => h v u μ' hu r hkv (px_upC C hR) H1 locs1 ls hl hW1 hS1)
    (fun E μ' hu H1 locs1 q ce hW1 hS1 h1 h2 h3 => hx v E μ' hu r hkv (px_upC C hR) H1 locs1 ls q ce hl hW1 hS1 h1 h2 h3)
  · show 8 + (nLy + 11) + 60 * dy ≤ K.2.2.2.1.locals
    have := C.2.2.2.2.2.2.2.2.2.1.2
    omega
  · intro w hw a' U hWm
    rw [List.mem_singleton.mp hw]
    exact pw_warm hWm (List.mem_filter.mp mi.1).2 (hat _ mi.1)
