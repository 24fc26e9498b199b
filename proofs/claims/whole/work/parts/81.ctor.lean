/-! CONSTRUCTORS: the cells made lie one behind the other, from N0 on -/
set_option maxRecDepth 100000
def aoF (comp : ClassId) : Class → Bool := fun x => match x.kind with
  | .array component _ => component == comp
  | _ => false
theorem aoF_bare (vm : Vm) (comp : ClassId) : (vm.bare.classes.findIdx? (aoF comp)) = (vm.classes.findIdx? (aoF comp)) := by
  simp only [Vm.bare, Array.findIdx?_map]
  rfl
theorem aoa_moved {t : FieldType} {u U : State} (hvm : u.vm.Alike U.vm) (h : va_AOA t u) : va_AOA t U := by
  obtain ⟨comp, c, k, h1, h2, h3, h4, h5⟩ := arrayOver_specB h
  obtain ⟨k', hk', he⟩ := hvm.2.2 _ _ h3
  have hi : U.vm.classes.findIdx? (aoF comp) = some c := by
    rw [← aoF_bare]
    first | rw [hvm.bare_eq] | rw [← hvm.bare_eq]
    rw [aoF_bare]
    exact h2
  have hkind : k'.kind = .array comp (.array t) := by rw [he]; exact h4
  have f1 : U.vm.findClass (FieldType.array t).toString = some comp := by rw [hvm.findClass]; exact h1
  have f2 : U.vm.findClass ("[" ++ (FieldType.array t).toString) = some c := by rw [hvm.findClass]; exact h5
  unfold va_AOA Cond.before Cond.holds
  simp only [Cond.value]
  rw [f1, Option.bind_some]
  refine (congrArg (fun o : Option Nat => (o.bind (fun c => (U.vm.classes[c]?).map fun (k : Class) => match k.kind with | .array _ ty => decide (ty = FieldType.array t) && decide (U.vm.findClass ("[" ++ (FieldType.array t).toString) = some c) | _ => false) == some true)) hi).trans ?_
  simp [hk', hkind, f2]
def hw (N0 : Nat) (es : List va_E) : va_W := es.mapIdx fun k e => (N0 + k, e)
theorem hw_get (N0 : Nat) (es : List va_E) (k : Nat) : (hw N0 es)[k]? = (es[k]?).map fun e => (N0 + k, e) := by
  unfold hw
  rw [List.getElem?_mapIdx]
theorem hw_at {N0 : Nat} {es : List va_E} {k : Nat} {e : va_E} (h : es[k]? = some e) : (hw N0 es)[k]? = some (N0 + k, e) := by rw [hw_get, h]; rfl
theorem hw_of {N0 : Nat} {es : List va_E} {k : Nat} {q : Nat × va_E} (h : (hw N0 es)[k]? = some q) : q.1 = N0 + k ∧ es[k]? = some q.2 := by
  rw [hw_get] at h
  cases he : es[k]? with
  | none => rw [he] at h; cases h
  | some e => rw [he] at h; cases h; exact ⟨rfl, rfl⟩
theorem hw_D (N0 : Nat) (es : List va_E) : va_D (fun q => N0 ≤ q) (hw N0 es) := by
  refine ⟨fun i j p q h1 h2 e => ?_, fun k q h => ?_⟩
  · have a1 := (hw_of h1).1
    have a2 := (hw_of h2).1
    omega
  · have a1 := (hw_of h).1
    show N0 ≤ q.1
    omega
def cP (G : pw_G) (N0 : Nat) (es : List va_E) (H : Heap) : Prop := H.size = N0 + es.length ∧ va_P G.1 vwCl (hw N0 es) H
/-- cells added at the end -/
theorem cP_app {G : pw_G} {N0 : Nat} {es es2 : List va_E} {H H1 : Heap} (h : cP G N0 es H) (hz : H1.size = H.size + es2.length) (hk : ∀ q : Nat, q < H.size → H1[q]? = H[q]?) (hn : ∀ (k : Nat) (e : va_E), es2[k]? = some e → va_at G.1 vwCl (H.size + k, e) H1) : cP G N0 (es ++ es2) H1 := by
  obtain ⟨hsz, hP⟩ := h
  refine ⟨by rw [hz, hsz, List.length_append]; omega, fun k q hq => ?_⟩
  obtain ⟨a1, a2⟩ := hw_of hq
  obtain ⟨q1, q2⟩ := q
  dsimp only at a1 a2
  subst a1
  by_cases c : k < es.length
  · rw [List.getElem?_append_left c] at a2
    have hlt : N0 + k < H.size := by omega
    exact (hP k _ (hw_at a2)).kept (hk _ hlt)
  · rw [List.getElem?_append_right (by omega)] at a2
    have := hn _ _ a2
    rw [show H.size + (k - es.length) = N0 + k by omega] at this
    exact this
/-- one cell changed -/
theorem cP_set {G : pw_G} {N0 : Nat} {es : List va_E} {k : Nat} {e0 e : va_E} {H H1 : Heap} (h : cP G N0 es H) (hk : es[k]? = some e0) (hz : H1.size = H.size) (he : va_at G.1 vwCl (N0 + k, e) H1) (oq : ∀ q : Nat, q ≠ N0 + k → H1[q]? = H[q]?) : cP G N0 (es.set k e) H1 := by
  obtain ⟨hsz, hP⟩ := h
  refine ⟨by rw [hz, hsz, List.length_set], fun i q hq => ?_⟩
  obtain ⟨a1, a2⟩ := hw_of hq
  obtain ⟨q1, q2⟩ := q
  dsimp only at a1 a2
  subst a1
  by_cases c : i = k
  · subst c
    have hl : i < es.length := (List.getElem?_eq_some_iff.mp hk).1
    rw [List.getElem?_set_self hl] at a2
    cases a2
    exact he
  · rw [List.getElem?_set_ne (Ne.symm c)] at a2
    exact (hP i _ (hw_at a2)).kept (oq _ (by omega))
theorem pw_ao1 : Cond.arrayOver (.object RX5) ∈ tables_1 := List.mem_of_getElem? (i := 222) (by decide +kernel)
theorem pw_ao2 : Cond.arrayOver (.array .int) ∈ tables_1 := List.mem_of_getElem? (i := 139) (by decide +kernel)
