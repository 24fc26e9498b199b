/-! THE PURE LAYER: what the cells hold is a function of (cell number, place); a method's run is told by an Option-valued function. -/
set_option maxRecDepth 100000
def pw_nestM : Cond → Bool
  | .methodLinkNest _ _ _ _ => true
  | _ => false
def pw_ok (w : Cond) : Bool := goodWord w || pw_nestM w
def pw_LG : List Cond := lw_tbl.filter pw_ok
def pw_T (U : State) : Prop := ∀ w ∈ pw_LG, w.before #[] U = true
theorem pw_inLG {w : Cond} (h : w ∈ lw_tbl) (g : pw_ok w = true) : w ∈ pw_LG := List.mem_filter.mpr ⟨h, g⟩
theorem pw_inT {w : Cond} (i : Nat) (h : tables_1[i]? = some w) (g : pw_ok w = true) : w ∈ pw_LG := pw_inLG (List.mem_append_right _ (List.mem_of_getElem? h)) g
theorem pw_inS {w : Cond} (i : Nat) (h : (k2_sels lw_privs)[i]? = some w) (g : pw_ok w = true) : w ∈ pw_LG := pw_inLG (List.mem_append_left _ (List.mem_of_getElem? h)) g
theorem pw_warm {s U : State} (hW : s.WarmedH U.vm) {w : Cond} (hk : pw_ok w = true) {a a' : Array Value} (h : w.before a s = true) : w.before a' U = true := by
  unfold pw_ok at hk
  rcases Bool.or_eq_true_iff.mp hk with h1 | h1
  · exact word_at hW (good_of_word h1) h
  · cases w <;> first | exact absurd h1 Bool.false_ne_true | exact va_Nw.use rfl (va_Nw.warmM hW (va_Nw.of rfl h))
theorem pw_T.warm {s U : State} (hW : s.WarmedH U.vm) (h : pw_T s) : pw_T U := fun w hw => pw_warm hW (List.mem_filter.mp hw).2 (h w hw)
theorem pw_T.at {s : State} {a : Array Value} (h : pw_T s) : ∀ w ∈ pw_LG, w.before a s = true := fun w hw => pw_warm (State.WarmedH.refl s) (List.mem_filter.mp hw).2 (h w hw)
theorem pw_T.of {s : State} {a : Array Value} (h : ∀ w ∈ lw_tbl, w.before a s = true) : pw_T s := fun w hw => pw_warm (State.WarmedH.refl s) (List.mem_filter.mp hw).2 (h w (List.mem_filter.mp hw).1)
-- the shape of the world: what each cell is
abbrev pw_Mem : Type := Nat → Nat → Int32
abbrev pw_G : Type := va_G × ClassId × ClassId × ClassId × (Nat → Nat)
abbrev pw_K : Type := Program × Launch × Env × Room × State × MethodId × Array Value × List Frame × Method × Code × Nat × Nat × Heap
def pw_tys (G : pw_G) : List (ClassId × FieldType) := [(G.2.1, .int), (G.2.2.1, .object RX5), (G.2.2.2.1, .array .int)]
def pw_ad (G : pw_G) : Nat → Nat := G.2.2.2.2
/-- an object: its class, of each field the cell that it refers to, or none: a number; an int array's length; an array of references: 0 of shelves, 1 of rows -/
abbrev pw_Sc : Type := (Nat × List (Option Nat)) ⊕ (Nat ⊕ (Nat × List Nat))
def pw_fTown (o : Nat) : List (Option Nat) := [some (o + 1), some (o + 2), some (o + 3), some (o + 4), some (o + 5), some (o + 6), some (o + 7), some (o + 8), some (o + 9), some (o + 10), some (o + 11), none, none, none, none, none]
def pw_fShelf (o : Nat) : List (Option Nat) := [some (o + 1), none, none, none, none, none]
def pw_sTown (o : Nat) : List pw_Sc := [.inl (6, pw_fTown o), .inr (.inl 7), .inr (.inl 7), .inr (.inl 7), .inr (.inl 10), .inr (.inl 10), .inr (.inl 10), .inr (.inl 10), .inr (.inl 10), .inr (.inl 10), .inr (.inl 10), .inr (.inl 10)]
def pw_sShelf (o : Nat) : List pw_Sc := [.inl (4, pw_fShelf o), .inr (.inl 100)]
def pw_SHl : List pw_Sc := [.inl (8, [some 1, some 13, some 25, some 37, some 47, some 48, some 50, some 51, some 53, some 54, none])] ++ pw_sTown 1 ++ pw_sTown 13 ++ pw_sTown 25 ++ [.inl (3, [some 1, some 13, some 38, some 46]), .inr (.inr (1, [39, 40, 41, 42, 43, 44, 45])), .inr (.inl 7), .inr (.inl 7), .inr (.inl 7), .inr (.inl 7), .inr (.inl 7), .inr (.inl 7), .inr (.inl 7), .inr (.inl 128), .inl (7, [some 1, some 13]), .inl (5, [some 1, some 49]), .inr (.inl 10), .inl (0, [some 1]), .inl (2, [some 1, some 13, some 52]), .inr (.inl 10), .inl (1, [some 1, some 13, none]), .inr (.inr (0, [55, 57, 59, 61, 63, 65, 67, 69]))] ++ pw_sShelf 55 ++ pw_sShelf 57 ++ pw_sShelf 59 ++ pw_sShelf 61 ++ pw_sShelf 63 ++ pw_sShelf 65 ++ pw_sShelf 67 ++ pw_sShelf 69 ++ [.inl (9, [some 72, some 73, some 74, some 75, some 76, none, none, none, none, some 77, some 78, some 79, none, none, none, some 80, some 81, some 82, some 83, some 84, some 85, none]), .inr (.inl 78), .inr (.inl 78), .inr (.inl 78), .inr (.inl 78), .inr (.inl 78), .inr (.inl 4), .inr (.inl 7), .inr (.inl 7), .inr (.inl 8), .inr (.inl 8), .inr (.inl 8), .inr (.inl 8), .inr (.inl 8), .inr (.inl 800)]
def pw_NC : Nat := 86
def pw_SH (k : Nat) : Option pw_Sc := pw_SHl[k]?
theorem pw_SHlen : pw_SHl.length = pw_NC := by decide +kernel
theorem pw_lt {k : Nat} {s : pw_Sc} (h : pw_SH k = some s) : k < pw_NC := by
  rw [← pw_SHlen]
  exact (List.getElem?_eq_some_iff.mp h).1
def pw_fv (ad : Nat → Nat) (f : Nat → Int32) : Nat → List (Option Nat) → List Value
  | _, [] => []
  | j, none :: r => .int (f j) :: pw_fv ad f (j + 1) r
  | j, some t :: r => .ref (ad t) :: pw_fv ad f (j + 1) r
theorem pw_fv_len (ad : Nat → Nat) (f : Nat → Int32) : ∀ (l : List (Option Nat)) (j : Nat), (pw_fv ad f j l).length = l.length
  | [], _ => rfl
  | none :: r, j => by simp [pw_fv, pw_fv_len ad f r (j + 1)]
  | some t :: r, j => by simp [pw_fv, pw_fv_len ad f r (j + 1)]
theorem pw_fv_I (ad : Nat → Nat) (f : Nat → Int32) : ∀ (l : List (Option Nat)) (j k : Nat), l[k]? = some none → (pw_fv ad f j l)[k]? = some (.int (f (j + k)))
  | [], _, _, h => by simp at h
  | x :: r, j, 0, h => by
    have e : x = none := by simpa using h
    subst e
    rfl
  | x :: r, j, k + 1, h => by
    have h2 : r[k]? = some none := by simpa using h
    have ih := pw_fv_I ad f r (j + 1) k h2
    have e : j + 1 + k = j + (k + 1) := by omega
    rw [e] at ih
    cases x <;> simpa [pw_fv] using ih
theorem pw_fv_R (ad : Nat → Nat) (f : Nat → Int32) : ∀ (l : List (Option Nat)) (j k t : Nat), l[k]? = some (some t) → (pw_fv ad f j l)[k]? = some (.ref (ad t))
  | [], _, _, _, h => by simp at h
  | x :: r, j, 0, t, h => by
    have e : x = some t := by simpa using h
    subst e
    rfl
  | x :: r, j, k + 1, t, h => by
    have h2 : r[k]? = some (some t) := by simpa using h
    have ih := pw_fv_R ad f r (j + 1) k t h2
    cases x <;> simpa [pw_fv] using ih
theorem pw_fv_same (ad : Nat → Nat) {f g : Nat → Int32} : ∀ (l : List (Option Nat)) (j : Nat), (∀ i, j ≤ i → f i = g i) → pw_fv ad f j l = pw_fv ad g j l
  | [], _, _ => rfl
  | none :: r, j, h => by simp only [pw_fv, h j (Nat.le_refl j), pw_fv_same ad r (j + 1) (fun i hi => h i (by omega))]
  | some t :: r, j, h => by simp only [pw_fv, pw_fv_same ad r (j + 1) (fun i hi => h i (by omega))]
theorem pw_fv_set (ad : Nat → Nat) (f : Nat → Int32) (v : Int32) : ∀ (l : List (Option Nat)) (j k : Nat), l[k]? = some none → (pw_fv ad f j l).set k (.int v) = pw_fv ad (upd f (j + k) v) j l
  | [], _, _, h => by simp at h
  | x :: r, j, 0, h => by
    have e : x = none := by simpa using h
    subst e
    have e2 : pw_fv ad f (j + 1) r = pw_fv ad (upd f (j + 0) v) (j + 1) r := pw_fv_same ad r (j + 1) (fun i hi => by simp [upd, show ¬ i = j by omega])
    simp [pw_fv, upd, List.set, e2]
  | x :: r, j, k + 1, h => by
    have h2 : r[k]? = some none := by simpa using h
    have ih := pw_fv_set ad f v r (j + 1) k h2
    have e : j + 1 + k = j + (k + 1) := by omega
    rw [e] at ih
    cases x with
    | none => simp [pw_fv, List.set, ih, upd]
    | some t => simp [pw_fv, List.set, ih]
def pw_ent (G : pw_G) (f : Nat → Int32) (sc : pw_Sc) : va_E := match sc with
  | .inl (ci, l) => .inr (ci, pw_fv (pw_ad G) f 0 l)
  | .inr (.inl n) => .inl (G.2.1, n, .inl f)
  | .inr (.inr (t, l)) => .inl (if t = 0 then G.2.2.1 else G.2.2.2.1, l.length, .inr (.inr (.inr (.inr (fun j => (l[j]?).map (pw_ad G))))))
def pw_wl (G : pw_G) (μ : pw_Mem) : va_W := (List.range pw_NC).map (fun k => (pw_ad G k, pw_ent G (μ k) ((pw_SH k).getD (.inr (.inl 0)))))
def pw_inj (G : pw_G) : Prop := ∀ i j, i < pw_NC → j < pw_NC → pw_ad G i = pw_ad G j → i = j
def pw_A (G : pw_G) : Nat → Prop := fun q => ∃ k, k < pw_NC ∧ q = pw_ad G k
def pw_Wd (G : pw_G) (μ : pw_Mem) (H : Heap) : Prop := va_P G.1 vwCl (pw_wl G μ) H
def pw_up (μ : pw_Mem) (k j : Nat) (v : Int32) : pw_Mem := fun a => if a = k then upd (μ k) j v else μ a
def pw_upA (μ : pw_Mem) (k : Nat) (f : Nat → Int32) : pw_Mem := fun a => if a = k then f else μ a
theorem pw_up_eq (μ : pw_Mem) (k j : Nat) (v : Int32) : pw_up μ k j v = pw_upA μ k (upd (μ k) j v) := rfl
theorem pw_at (G : pw_G) (μ : pw_Mem) {k : Nat} {sc : pw_Sc} (h : pw_SH k = some sc) : (pw_wl G μ)[k]? = some (pw_ad G k, pw_ent G (μ k) sc) := by
  have hk := pw_lt h
  unfold pw_wl
  rw [List.getElem?_map, List.getElem?_range hk]
  simp [h]
theorem pw_set (G : pw_G) (μ : pw_Mem) {k : Nat} {sc : pw_Sc} (h : pw_SH k = some sc) (f : Nat → Int32) : (pw_wl G μ).set k (pw_ad G k, pw_ent G f sc) = pw_wl G (pw_upA μ k f) := by
  have hk := pw_lt h
  apply List.ext_getElem?
  intro i
  have hlen : (pw_wl G μ).length = pw_NC := by simp [pw_wl]
  by_cases e : i = k
  · subst e
    rw [List.getElem?_set_self (by rw [hlen]; exact hk), pw_at G _ h]
    simp [pw_upA]
  · rw [List.getElem?_set_ne (Ne.symm e)]
    unfold pw_wl
    rw [List.getElem?_map, List.getElem?_map]
    by_cases h2 : i < pw_NC
    · rw [List.getElem?_range h2]
      simp [pw_upA, e]
    · rw [List.getElem?_eq_none (by rw [List.length_range]; omega)]
      rfl
theorem pw_DD {G : pw_G} {μ : pw_Mem} (hi : pw_inj G) : va_D (pw_A G) (pw_wl G μ) := by
  have key : ∀ (k : Nat) (q : Nat × va_E), (pw_wl G μ)[k]? = some q → k < pw_NC ∧ q.1 = pw_ad G k := by
    intro k q h
    have hk : k < pw_NC := by
      have := (List.getElem?_eq_some_iff.mp h).1
      simpa [pw_wl] using this
    unfold pw_wl at h
    rw [List.getElem?_map, List.getElem?_range hk] at h
    cases h
    exact ⟨hk, rfl⟩
  refine ⟨fun i j p q h1 h2 e => ?_, fun k q h => ?_⟩
  · obtain ⟨a1, b1⟩ := key i p h1
    obtain ⟨a2, b2⟩ := key j q h2
    exact hi i j a1 a2 (by rw [← b1, ← b2]; exact e)
  · obtain ⟨a1, b1⟩ := key k q h
    exact ⟨k, a1, b1⟩
def pw_WA (G : pw_G) (μ : pw_Mem) (U : State) : Prop := pw_Wd G μ U.heap ∧ va_K G.1 vwCl (pw_tys G) U ∧ pw_T U ∧ pw_inj G
def pw_Q (G : pw_G) (v : Option Value) (μ : pw_Mem) : Array Value → State → Outcome → State → Prop := fun _ st oc t => oc = .returned v ∧ pw_Wd G μ t.heap ∧ va_F (pw_A G) st t
def pw_rm (d : Nat) : Room := { frames := d, cells := 0, slots := 0, locals := 60 * d }
def PMet {τ : Type} (l : Launch) (G : pw_G) (y : MethodName) (cc : ByteArray) (nL : Nat) (ret : Option FieldType) (d : Nat) (av : List Value) (μ : pw_Mem) (P : τ → Option Value × pw_Mem) (x : Option τ) : Prop :=
  ∀ r : τ, x = some r → Met l y [.code y cc nL ret] (pw_rm d) (va_Pc av (pw_WA G μ)) (pw_Q G (P r).1 (P r).2) 0 0 (pw_A G)
/-- what holds of the walk's own frame -/
def pw_C (K : pw_K) (G : pw_G) (own : String) (cc : ByteArray) (nL : Nat) (ret : Option FieldType) (d : Nat) : Prop :=
  K.1.tables.exec = Jvm.exec ∧ K.2.2.2.2.2.2.2.2.2.1.code = cc ∧ K.2.2.2.2.2.2.2.2.2.1.maxLocals = nL ∧ K.2.2.2.2.1.vm.findClass own = some K.2.2.2.2.2.1.cls ∧ pw_T K.2.2.2.2.1 ∧ va_K G.1 vwCl (pw_tys G) K.2.2.2.2.1 ∧ pw_inj G ∧
  K.2.2.2.2.2.2.2.2.1.locks = false ∧ K.2.2.2.2.2.2.2.2.1.sig.returnType = ret ∧ (d ≤ K.2.2.2.1.frames ∧ 60 * d ≤ K.2.2.2.1.locals) ∧ K.2.2.2.2.2.2.2.2.2.2.1 ≤ K.2.2.2.1.cells ∧ K.2.2.2.2.2.2.2.2.2.2.2.1 ≤ K.2.2.2.1.slots
def pw_W (K : pw_K) (H : Heap) (locs : List Loc) (Q : State → Prop) (g : JFrame) : Prop :=
  W K.1 K.2.1 K.2.2.1 K.2.2.2.1 K.2.2.2.2.1 K.2.2.2.2.2.1 K.2.2.2.2.2.2.1 K.2.2.2.2.2.2.2.1 K.2.2.2.2.2.2.2.2.1 K.2.2.2.2.2.2.2.2.2.1 H locs K.2.2.2.2.2.2.2.2.2.2.1 K.2.2.2.2.2.2.2.2.2.2.2.1 Q g
def PW {τ : Type} (K : pw_K) (G : pw_G) (own : String) (cc : ByteArray) (nL : Nat) (ret : Option FieldType) (d : Nat) (Q : τ → State → Prop) (x : Option τ) (pc : Nat) (l : List (Nat × Value)) (st : List Value) (μ : pw_Mem) : Prop :=
  ∀ r : τ, x = some r → pw_C K G own cc nL ret d → ∀ (H : Heap) (locs : List Loc) (ls : Array Slot), lv_has ls nL l → pw_Wd G μ H → va_S (pw_A G) K.2.2.2.2.2.2.2.2.2.2.2.2 H locs → pw_W K H locs (Q r) (F0 K.2.2.2.2.2.1 pc ls st)
-- how the functions are written
def gd {τ : Type} (c : Prop) [Decidable c] (x : Option τ) : Option τ := if c then x else none
def lt {α τ : Type} (a : α) (k : α → Option τ) : Option τ := k a
def bd {α τ : Type} (x : Option α) (k : α → Option τ) : Option τ := x.bind k
def bd2 {α β τ : Type} (x : Option (α × β)) (k : α → β → Option τ) : Option τ := x.bind fun r => k r.1 r.2
def jn {κ τ : Type} (k : κ) (b : κ → Option τ) : Option τ := b k
def lp {κ : Type} (z : κ) (b : κ → κ) : Nat → κ
  | 0 => z
  | n + 1 => b (lp z b n)
def FU : Nat := 100000
abbrev ix (i : Int32) (n : Nat) : Prop := ¬ (i < 0 ∨ n ≤ i.toNatClampNeg)
def bI (b : Bool) : Int32 := if b then 1 else 0
def jmax (a b : Int32) : Int32 := if a < b then b else a
def jmin (a b : Int32) : Int32 := if b < a then b else a
def jabs (a : Int32) : Int32 := if 0 ≤ a then a else 0 - a

def pw_Ri (μ : pw_Mem) : Int32 → Option Value × pw_Mem := fun v => (some (.int v), μ)
def pw_Rz (μ : pw_Mem) : Bool → Option Value × pw_Mem := fun v => (some (.int (bI v)), μ)
def pw_Rl (μ : pw_Mem) : Int64 → Option Value × pw_Mem := fun v => (some (.long v), μ)
def pw_Wi : Int32 × pw_Mem → Option Value × pw_Mem := fun v => (some (.int v.1), v.2)
def pw_Wz : Bool × pw_Mem → Option Value × pw_Mem := fun v => (some (.int (bI v.1)), v.2)
def pw_Wl : Int64 × pw_Mem → Option Value × pw_Mem := fun v => (some (.long v.1), v.2)
def pw_Wv : pw_Mem → Option Value × pw_Mem := fun v => (none, v)
def pw_Wr (a : Nat) : pw_Mem → Option Value × pw_Mem := fun v => (some (.ref a), v)
-- cells of a kind
def pw_isTown (o : Nat) : Prop := o = 1 ∨ o = 13 ∨ o = 25
def pw_isShelf (o : Nat) : Prop := ∃ k, k < 8 ∧ o = 55 + 2 * k
def pw_isFB (o : Nat) : Prop := ∃ k, k < 7 ∧ o = 39 + k
def pw_isRow (o : Nat) : Prop := o = 72 ∨ o = 73 ∨ o = 74 ∨ o = 75 ∨ o = 76
theorem pw_t1 : pw_isTown 1 := Or.inl rfl
theorem pw_t13 : pw_isTown 13 := Or.inr (Or.inl rfl)
theorem pw_t25 : pw_isTown 25 := Or.inr (Or.inr rfl)
theorem pw_r72 : pw_isRow 72 := Or.inl rfl
theorem pw_r73 : pw_isRow 73 := Or.inr (Or.inl rfl)
theorem pw_r74 : pw_isRow 74 := Or.inr (Or.inr (Or.inl rfl))
theorem pw_r75 : pw_isRow 75 := Or.inr (Or.inr (Or.inr (Or.inl rfl)))
theorem pw_r76 : pw_isRow 76 := Or.inr (Or.inr (Or.inr (Or.inr rfl)))
theorem pw_shTown {o : Nat} (h : pw_isTown o) : pw_SH o = some (.inl (6, pw_fTown o)) := by rcases h with rfl | rfl | rfl <;> rfl
theorem pw_shTown0 {o : Nat} (h : pw_isTown o) : pw_SH (o + 1) = some (.inr (.inl 7)) := by rcases h with rfl | rfl | rfl <;> rfl
theorem pw_shTown1 {o : Nat} (h : pw_isTown o) : pw_SH (o + 2) = some (.inr (.inl 7)) := by rcases h with rfl | rfl | rfl <;> rfl
theorem pw_shTown2 {o : Nat} (h : pw_isTown o) : pw_SH (o + 3) = some (.inr (.inl 7)) := by rcases h with rfl | rfl | rfl <;> rfl
theorem pw_shTown3 {o : Nat} (h : pw_isTown o) : pw_SH (o + 4) = some (.inr (.inl 10)) := by rcases h with rfl | rfl | rfl <;> rfl
theorem pw_shTown4 {o : Nat} (h : pw_isTown o) : pw_SH (o + 5) = some (.inr (.inl 10)) := by rcases h with rfl | rfl | rfl <;> rfl
theorem pw_shTown5 {o : Nat} (h : pw_isTown o) : pw_SH (o + 6) = some (.inr (.inl 10)) := by rcases h with rfl | rfl | rfl <;> rfl
theorem pw_shTown6 {o : Nat} (h : pw_isTown o) : pw_SH (o + 7) = some (.inr (.inl 10)) := by rcases h with rfl | rfl | rfl <;> rfl
theorem pw_shTown7 {o : Nat} (h : pw_isTown o) : pw_SH (o + 8) = some (.inr (.inl 10)) := by rcases h with rfl | rfl | rfl <;> rfl
theorem pw_shTown8 {o : Nat} (h : pw_isTown o) : pw_SH (o + 9) = some (.inr (.inl 10)) := by rcases h with rfl | rfl | rfl <;> rfl
theorem pw_shTown9 {o : Nat} (h : pw_isTown o) : pw_SH (o + 10) = some (.inr (.inl 10)) := by rcases h with rfl | rfl | rfl <;> rfl
theorem pw_shTown10 {o : Nat} (h : pw_isTown o) : pw_SH (o + 11) = some (.inr (.inl 10)) := by rcases h with rfl | rfl | rfl <;> rfl
theorem pw_shShelf {o : Nat} (h : pw_isShelf o) : pw_SH o = some (.inl (4, pw_fShelf o)) := by
  obtain ⟨k, hk, rfl⟩ := h
  rcases (show k = 0 ∨ k = 1 ∨ k = 2 ∨ k = 3 ∨ k = 4 ∨ k = 5 ∨ k = 6 ∨ k = 7 by omega) with rfl | rfl | rfl | rfl | rfl | rfl | rfl | rfl <;> rfl
theorem pw_shShelfE {o : Nat} (h : pw_isShelf o) : pw_SH (o + 1) = some (.inr (.inl 100)) := by
  obtain ⟨k, hk, rfl⟩ := h
  rcases (show k = 0 ∨ k = 1 ∨ k = 2 ∨ k = 3 ∨ k = 4 ∨ k = 5 ∨ k = 6 ∨ k = 7 by omega) with rfl | rfl | rfl | rfl | rfl | rfl | rfl | rfl <;> rfl
theorem pw_shFB {o : Nat} (h : pw_isFB o) : pw_SH o = some (.inr (.inl 7)) := by
  obtain ⟨k, hk, rfl⟩ := h
  rcases (show k = 0 ∨ k = 1 ∨ k = 2 ∨ k = 3 ∨ k = 4 ∨ k = 5 ∨ k = 6 by omega) with rfl | rfl | rfl | rfl | rfl | rfl | rfl <;> rfl
theorem pw_shRow {o : Nat} (h : pw_isRow o) : pw_SH o = some (.inr (.inl 78)) := by rcases h with rfl | rfl | rfl | rfl | rfl <;> rfl
def pw_MQ {τ : Type} (K : pw_K) (G : pw_G) (P : τ → Option Value × pw_Mem) (r : τ) : State → Prop := MQ K.2.2.2.2.2.2.2.1 (pw_Q G (P r).1 (P r).2) K.2.2.2.2.2.2.1 K.2.2.2.2.1 K.2.2.2.2.2.2.2.2.2.2.1 K.2.2.2.2.2.2.2.2.2.2.2.1 (pw_A G)
theorem pw_met {τ : Type} {l : Launch} {G : pw_G} {y : MethodName} {own : String} {cc : ByteArray} {nL : Nat} {ret : Option FieldType} {d : Nat} {av : List Value} {μ : pw_Mem} {P : τ → Option Value × pw_Mem} {x : Option τ} {l0 : List (Nat × Value)}
    (hown : y.cls = own) (hpl : plainName y.cls = true) (hl0 : lv_args 0 av = l0) (hsl : (lg_sl av).length ≤ nL)
    (h : ∀ K : pw_K, K.2.1 = l → K.2.2.2.2.2.2.2.2.2.2.2.2 = K.2.2.2.2.1.heap → PW (τ := τ) K G own cc nL ret d (pw_MQ (τ := τ) K G P) x 0 l0 [] μ) : PMet (τ := τ) l G y cc nL ret d av μ P x := by
  intro r hr
  refine Met.ofW (cc := cc) (maxL := nL) (ret := ret) hpl rfl ?_
  intro p e s m args below meth c s₁ B hml hv
  obtain ⟨rfl, hW, hK, hT, hI⟩ := hv
  have hC : pw_C (p, l, e, pw_rm d, s, m, av.toArray, below, meth, c, 0, 0, s.heap) G own cc nL ret d :=
    ⟨B.exec, B.bytes, hml, by rw [← hown]; exact findClass_of_methodNamed B.named, hT, hK, hI, B.notSynchronized, B.returns, ⟨Nat.le_refl _, Nat.le_refl _⟩, Nat.le_refl _, Nat.le_refl _⟩
  have hl := lv_entry av (n := nL) hsl
  rw [hl0] at hl
  rw [lg_entry_eq]
  exact h (p, l, e, pw_rm d, s, m, av.toArray, below, meth, c, 0, 0, s.heap) rfl rfl r hr hC s.heap [] _ hl hW va_S.rf
def pw_CF (ci : Nat) (C : String) (T : u_T) (N : Nat) (ty : Nat → FieldType) : Prop := vwCl[ci]? = some (C, T, N) ∧ (∀ w ∈ u_ws C T N, w ∈ pw_LG) ∧ (∀ k, k < N → parseFieldDescriptor (T k).2.2.1 = some (ty k)) ∧ (∀ a, a < N → ∀ b, b < N → a ≠ b → (T a).2.1 ≠ (T b).2.1)
def pw_FL (own : String) (i : Nat) (T : u_T) (k : Nat) : Prop := Cond.fieldLink own i (T k).1 (T k).2.1 (T k).2.2.1 ∈ pw_LG
def pw_MS (y : MethodName) (cy : ByteArray) (nLy : Nat) (rety : Option FieldType) (n : Nat) : Prop := Cond.code y cy nLy rety ∈ pw_LG ∧ Cond.initialized y.cls ∈ pw_LG ∧ (y.cls ≠ "java/lang/invoke/MethodHandle" ∧ y.cls ≠ "java/lang/invoke/VarHandle") ∧ (parseMethodDescriptor y.desc).map (fun d => d.parameters.length) = some n ∧ Cond.static y ∈ pw_LG
def pw_MV (y : MethodName) (cy : ByteArray) (nLy : Nat) (rety : Option FieldType) (n : Nat) : Prop := Cond.code y cy nLy rety ∈ pw_LG ∧ Cond.initialized y.cls ∈ pw_LG ∧ (y.cls ≠ "java/lang/invoke/MethodHandle" ∧ y.cls ≠ "java/lang/invoke/VarHandle") ∧ (parseMethodDescriptor y.desc).map (fun d => d.parameters.length) = some n ∧ Cond.instanceMethod y ∈ pw_LG ∧ Cond.selects y.cls y y ∈ pw_LG
