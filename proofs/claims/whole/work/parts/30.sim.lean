/-! BOTH SIDES hold the same: the town, the image, the shelves -/
set_option maxRecDepth 100000
abbrev ShT : Type := Nat × Nat × Nat × Nat × Nat × (Nat → Int)
def hH (h : ShT) : Nat := h.1
def hK (h : ShT) : Nat := h.2.1
def hF (h : ShT) : Nat := h.2.2.1
def hS (h : ShT) : Nat := h.2.2.2.1
def hL (h : ShT) : Nat := h.2.2.2.2.1
def hE (h : ShT) : Nat → Int := h.2.2.2.2.2
abbrev SS : Type := TT × Option TT × (Nat → ShT)
def CSh (m : pw_Mem) (d : Nat) (h : ShT) : Prop := m (55 + 2 * d) 1 = iI (hH h) ∧ (hH h = 1 → m (55 + 2 * d) 2 = iI (hK h) ∧ m (55 + 2 * d) 3 = iI (hF h)) ∧ (hH h = 2 → m (55 + 2 * d) 4 = iI (hS h) ∧ m (55 + 2 * d) 5 = iI (hL h) ∧ ∀ i, i < hL h → m (55 + 2 * d + 1) i = iI (hE h i))
def MSh (m : pw_Mem) (d : Nat) (h : ShT) : Prop := m 80 d = iI (hH h) ∧ (hH h = 1 → m 81 d = iI (hK h) ∧ m 82 d = iI (hF h)) ∧ (hH h = 2 → m 83 d = iI (hS h) ∧ m 84 d = iI (hL h) ∧ ∀ i, i < hL h → m 85 (100 * d + i) = iI (hE h i))
def WSh (h : ShT) : Prop := hH h ≤ 2 ∧ (hH h = 1 → hK h ≤ 7 ∧ hF h ≤ 9) ∧ (hH h = 2 → hS h ≤ 2 ∧ hL h ≤ 100 ∧ ∀ i, i < hL h → (-2147483648 ≤ hE h i ∧ hE h i < 2147483648) ∧ (hS h = 0 → -128 ≤ hE h i ∧ hE h i ≤ 127))
def CS (m : pw_Mem) (s : SS) : Prop := CT m 1 s.1 ∧ m 0 10 = iI (if s.2.1.isSome then 1 else 0) ∧ (∀ ti, s.2.1 = some ti → CT m 25 ti) ∧ ∀ d, d < 8 → CSh m d (s.2.2 d)
def MS (m : pw_Mem) (s : SS) : Prop := RT m 72 s.1 ∧ m 71 5 = iI (if s.2.1.isSome then 1 else 0) ∧ (∀ ti, s.2.1 = some ti → RT m 74 ti) ∧ ∀ d, d < 8 → MSh m d (s.2.2 d)
def WU (t : TT) : Prop := WT t ∧ tY t ≤ 999 ∧ Calm t
def WS (s : SS) : Prop := WU s.1 ∧ (∀ ti, s.2.1 = some ti → WU ti) ∧ ∀ d, d < 8 → WSh (s.2.2 d)
def Sim (m : pw_Mem) : Prop := ∃ s, CS m s ∧ MS m s ∧ WS s
theorem CSh_f {m m' : pw_Mem} {d : Nat} {h : ShT} (hc : CSh m d h) (h1 : m' (55 + 2 * d) = m (55 + 2 * d)) (h2 : m' (55 + 2 * d + 1) = m (55 + 2 * d + 1)) : CSh m' d h := by
  unfold CSh
  rw [h1, h2]
  exact hc
theorem CS_f {m m' : pw_Mem} {s : SS} (h : CS m s) (hf : ∀ c, (c ≤ 12 ∨ (25 ≤ c ∧ c ≤ 36) ∨ (55 ≤ c ∧ c < 71)) → m' c = m c) : CS m' s := by
  refine ⟨CT_frame h.1 (fun c h1 h2 => hf c (by omega)), ?_, fun ti hti => CT_frame (h.2.2.1 ti hti) (fun c h1 h2 => hf c (by omega)), fun d hd => CSh_f (h.2.2.2 d hd) (hf _ (by omega)) (hf _ (by omega))⟩
  rw [hf 0 (by omega)]
  exact h.2.1
theorem MS_f {m m' : pw_Mem} {s : SS} (h : MS m s) (h5 : m' 71 5 = m 71 5) (hf : ∀ c, (c = 72 ∨ c = 74 ∨ (80 ≤ c ∧ c ≤ 85)) → m' c = m c) : MS m' s := by
  refine ⟨RT_frame h.1 (hf 72 (by omega)), by rw [h5]; exact h.2.1, fun ti hti => RT_frame (h.2.2.1 ti hti) (hf 74 (by omega)), fun d hd => ?_⟩
  unfold MSh
  rw [hf 80 (by omega), hf 81 (by omega), hf 82 (by omega), hf 83 (by omega), hf 84 (by omega), hf 85 (by omega)]
  exact h.2.2.2 d hd
theorem MS_c {m m' : pw_Mem} {s : SS} (h : MS m s) (hf : ∀ c, 71 ≤ c → m' c = m c) : MS m' s := MS_f h (by rw [hf 71 (by omega)]) (fun c hc => hf c (by omega))
theorem CS_m {m m' : pw_Mem} {s : SS} (h : CS m s) (hf : ∀ c, c < 71 → m' c = m c) : CS m' s := CS_f h (fun c hc => hf c (by omega))
-- what a call is on both sides
def OpRR {α : Type} (f g : pw_Mem → Option α) (m : pw_Mem) : Prop := ∃ r, f m = some r ∧ g m = some r
def OpWR {α : Type} (f : pw_Mem → Option (α × pw_Mem)) (g : pw_Mem → Option α) (m : pw_Mem) : Prop := ∃ r m1, f m = some (r, m1) ∧ g m1 = some r ∧ Sim m1
def OpRW {α : Type} (f : pw_Mem → Option α) (g : pw_Mem → Option (α × pw_Mem)) (m : pw_Mem) : Prop := ∃ r m1, f m = some r ∧ g m = some (r, m1) ∧ Sim m1
def OpWW {α : Type} (f g : pw_Mem → Option (α × pw_Mem)) (m : pw_Mem) : Prop := ∃ r m1 m2, f m = some (r, m1) ∧ g m1 = some (r, m2) ∧ Sim m2
theorem rg (x : Int32) : ∃ z : Int, x = iI z ∧ -2147483648 ≤ z ∧ z < 2147483648 := ⟨x.toInt, iI_of x, Int32.le_toInt x, Int32.toInt_lt x⟩
-- looks at an argument
theorem c_isUpTo {z k : Int} (m : pw_Mem) (h1 : -2147483648 ≤ z) (h2 : z < 2147483648) (h3 : 0 ≤ k) (h4 : k < 2147483648) : fX10_isUpTo (iI z) (iI k) m = some (decide (0 ≤ z ∧ z ≤ k)) := by
  unfold fX10_isUpTo
  simp (disch := omega) only [i0, iI_lt]
  split
  · rw [decide_eq_false (by omega)]
  · split
    · rw [decide_eq_false (by omega)]
    · rw [decide_eq_true (by omega)]
theorem c_isShelf {z : Int} (m : pw_Mem) (h1 : -2147483648 ≤ z) (h2 : z < 2147483648) : fX10_isShelf (iI z) m = some (decide (0 ≤ z ∧ z < 8)) := by
  unfold fX10_isShelf
  simp (disch := omega) only [iN_lit, iI_lt, iI_le]
  split
  · rw [decide_eq_false (by omega)]
  · split
    · rw [decide_eq_false (by omega)]
    · rw [decide_eq_true (by omega)]
theorem r_isShelf {z : Int} (m : pw_Mem) (h1 : -2147483648 ≤ z) (h2 : z < 2147483648) : fX11_isShelf (iI z) m = some (decide (0 ≤ z ∧ z < 8)) := by
  unfold fX11_isShelf
  simp (disch := omega) only [iN_lit, r_isIn, bd_some]
  exact congrArg some (decide_eq_decide.mpr (by omega))
theorem r_isPlace {z : Int} (m : pw_Mem) (h1 : -2147483648 ≤ z) (h2 : z < 2147483648) : fX11_isPlace (iI z) m = some (decide (0 ≤ z ∧ z ≤ 30)) := by
  unfold fX11_isPlace
  simp (disch := omega) only [iN_lit, r_isIn, bd_some]
  rfl
theorem c_isPerson {m : pw_Mem} {o : Nat} {t : TT} (h : CT m o t) (w : WT t) {z : Int} (h1 : -2147483648 ≤ z) (h2 : z < 2147483648) : fX7_isPerson o (iI z) m = some (decide (0 ≤ z ∧ z < tN t)) := by
  have h7 := w.1.1
  unfold fX7_isPerson
  simp (disch := omega) only [i0, iI_lt, iI_le, h.1.1]
  split
  · rw [decide_eq_false (by omega)]
  · split
    · rw [decide_eq_false (by omega)]
    · rw [decide_eq_true (by omega)]
theorem c_isBand {m : pw_Mem} {o : Nat} {t : TT} (h : CT m o t) (w : WT t) {z : Int} (h1 : -2147483648 ≤ z) (h2 : z < 2147483648) : fX7_isBand o (iI z) m = some (decide (0 ≤ z ∧ z < tK t)) := by
  have h7 := w.1.2.1
  unfold fX7_isBand
  simp (disch := omega) only [i0, iI_lt, iI_le, h.1.2.1]
  split
  · rw [decide_eq_false (by omega)]
  · split
    · rw [decide_eq_false (by omega)]
    · rw [decide_eq_true (by omega)]
theorem r_isPerson {m : pw_Mem} {t : TT} (h : RT m 72 t) (w : WT t) {z : Int} (h1 : -2147483648 ≤ z) (h2 : z < 2147483648) : fX11_isPerson (iI z) m = some (decide (0 ≤ z ∧ z < tN t)) := by
  have h7 := w.1.1
  unfold fX11_isPerson
  simp (disch := omega) only [iN_lit, gd_ix, iI_clN, h.1.1, iI_sub, r_isIn, bd_some]
  exact congrArg some (decide_eq_decide.mpr (by omega))
theorem r_isBand {m : pw_Mem} {t : TT} (h : RT m 72 t) (w : WT t) {z : Int} (h1 : -2147483648 ≤ z) (h2 : z < 2147483648) : fX11_isBand (iI z) m = some (decide (0 ≤ z ∧ z < tK t)) := by
  have h7 := w.1.2.1
  unfold fX11_isBand
  simp (disch := omega) only [iN_lit, gd_ix, iI_clN, h.1.2.1, iI_sub, r_isIn, bd_some]
  exact congrArg some (decide_eq_decide.mpr (by omega))
theorem ite_dec {τ : Type} {p : Prop} {hp : Decidable p} {x y : τ} : (if decide p = true then x else y) = if p then x else y := by
  by_cases h : p <;> simp [h]
theorem c_areTwo {m : pw_Mem} {o : Nat} {t : TT} (h : CT m o t) (w : WT t) {y z : Int} (h1 : -2147483648 ≤ y) (h2 : y < 2147483648) (h3 : -2147483648 ≤ z) (h4 : z < 2147483648) : fX7_areTwo o (iI y) (iI z) m = some (decide ((0 ≤ y ∧ y < tN t) ∧ (0 ≤ z ∧ z < tN t) ∧ y ≠ z)) := by
  unfold fX7_areTwo
  simp (disch := omega) only [c_isPerson h w, bd_some, ite_dec, iI_eq]
  split
  · split
    · split
      · rw [decide_eq_false (by omega)]
      · rw [decide_eq_true (by omega)]
    · rw [decide_eq_false (by omega)]
  · rw [decide_eq_false (by omega)]
theorem r_areTwo {m : pw_Mem} {t : TT} (h : RT m 72 t) (w : WT t) {y z : Int} (h1 : -2147483648 ≤ y) (h2 : y < 2147483648) (h3 : -2147483648 ≤ z) (h4 : z < 2147483648) : fX11_areTwo (iI y) (iI z) m = some (decide ((0 ≤ y ∧ y < tN t) ∧ (0 ≤ z ∧ z < tN t) ∧ y ≠ z)) := by
  unfold fX11_areTwo
  simp (disch := omega) only [r_isPerson h w, bd_some, ite_dec, iI_eq]
  split
  · split
    · split
      · rw [decide_eq_false (by omega)]
      · rw [decide_eq_true (by omega)]
    · rw [decide_eq_false (by omega)]
  · rw [decide_eq_false (by omega)]
/-- why a shelf does not hold a row, of sort q if q is not below 0; a kind -/
def noRow (s : SS) (z q : Int) : Int := if 0 ≤ z ∧ z < 8 then (if hH (s.2.2 z.toNat) = 0 then -11 else if hH (s.2.2 z.toNat) = 2 then (if q < 0 ∨ (hS (s.2.2 z.toNat) : Int) = q then 0 else -12) else -12) else -1
def noKind (s : SS) (z : Int) : Int := if 0 ≤ z ∧ z < 8 then (if hH (s.2.2 z.toNat) = 0 then -11 else if hH (s.2.2 z.toNat) = 2 then -12 else 0) else -1
theorem c_rowRef {m : pw_Mem} {s : SS} (h : CS m s) (w : WS s) {z : Int} (h1 : -2147483648 ≤ z) (h2 : z < 2147483648) : fX10_rowRefusal (iI z) m = some (iI (noRow s z (-1))) := by
  unfold fX10_rowRefusal fX10_heldRefusal noRow
  simp (disch := omega) only [c_isShelf, bd_some, ite_dec]
  by_cases c : 0 ≤ z ∧ z < 8
  · rw [if_pos c, if_pos c]
    obtain ⟨n, rfl⟩ := Int.eq_ofNat_of_zero_le c.1
    have hd : n < 8 := by omega
    have e := (h.2.2.2 n hd).1
    have b := (w.2.2 n hd).1
    simp (disch := omega) only [iN_lit, gd_ix, iI_clN, e, iI_eq, Int.toNat_natCast]
    by_cases c0 : hH (s.2.2 n) = 0
    · rw [if_pos (by omega), if_pos c0]
      rfl
    · rw [if_neg (by omega), if_neg c0]
      by_cases c2 : hH (s.2.2 n) = 2
      · rw [if_pos (by omega), if_pos c2]
        rfl
      · rw [if_neg (by omega), if_neg c2]
        rfl
  · rw [if_neg c, if_neg c]
    rfl
theorem r_wrongRow {m : pw_Mem} {s : SS} (h : MS m s) (w : WS s) {z q : Int} (h1 : -2147483648 ≤ z) (h2 : z < 2147483648) (h3 : -100 ≤ q) (h4 : q ≤ 100) : fX11_wrongRow (iI z) (iI q) m = some (iI (noRow s z q)) := by
  unfold fX11_wrongRow noRow
  simp (disch := omega) only [r_isShelf, bd_some, ite_dec]
  by_cases c : 0 ≤ z ∧ z < 8
  · rw [if_pos c, if_pos c]
    obtain ⟨n, rfl⟩ := Int.eq_ofNat_of_zero_le c.1
    have hd : n < 8 := by omega
    have e := (h.2.2.2 n hd).1
    have b := (w.2.2 n hd).1
    simp (disch := omega) only [iN_lit, gd_ix, iI_clN, e, iI_eq, iI_lt, Int.toNat_natCast]
    by_cases c0 : hH (s.2.2 n) = 0
    · rw [if_pos (by omega), if_pos c0]
      rfl
    · rw [if_neg (by omega), if_neg c0]
      by_cases c2 : hH (s.2.2 n) = 2
      · have e3 := ((h.2.2.2 n hd).2.2 c2).1
        have b3 := ((w.2.2 n hd).2.2 c2).1
        simp (disch := omega) only [e3, iI_eq]
        rw [if_pos (by omega), if_pos c2]
        by_cases cq : q < 0
        · rw [if_pos (by omega), if_pos (Or.inl cq)]
          rfl
        · rw [if_neg (by omega)]
          by_cases cs : (hS (s.2.2 n) : Int) = q
          · rw [if_pos cs, if_pos (Or.inr cs)]
            rfl
          · rw [if_neg cs, if_neg (by omega)]
            rfl
      · rw [if_neg (by omega), if_neg c2]
        rfl
  · rw [if_neg c, if_neg c]
    rfl
theorem c_kindRef {m : pw_Mem} {s : SS} (h : CS m s) (w : WS s) {z : Int} (h1 : -2147483648 ≤ z) (h2 : z < 2147483648) : fX10_kindRefusal (iI z) m = some (iI (noKind s z)) := by
  unfold fX10_kindRefusal fX10_heldRefusal noKind
  simp (disch := omega) only [c_isShelf, bd_some, ite_dec]
  by_cases c : 0 ≤ z ∧ z < 8
  · rw [if_pos c, if_pos c]
    obtain ⟨n, rfl⟩ := Int.eq_ofNat_of_zero_le c.1
    have hd : n < 8 := by omega
    have e := (h.2.2.2 n hd).1
    have b := (w.2.2 n hd).1
    simp (disch := omega) only [iN_lit, gd_ix, iI_clN, e, iI_eq, Int.toNat_natCast]
    by_cases c0 : hH (s.2.2 n) = 0
    · rw [if_pos (by omega), if_pos c0]
      rfl
    · rw [if_neg (by omega), if_neg c0]
      by_cases c2 : hH (s.2.2 n) = 2
      · rw [if_neg (by omega), if_pos c2]
        rfl
      · rw [if_pos (by omega), if_neg c2]
        rfl
  · rw [if_neg c, if_neg c]
    rfl
theorem r_wrongKept {m : pw_Mem} {s : SS} (h : MS m s) (w : WS s) {z : Int} (h1 : -2147483648 ≤ z) (h2 : z < 2147483648) : fX11_wrongKept (iI z) m = some (iI (noKind s z)) := by
  unfold fX11_wrongKept noKind
  simp (disch := omega) only [r_isShelf, bd_some, ite_dec]
  by_cases c : 0 ≤ z ∧ z < 8
  · rw [if_pos c, if_pos c]
    obtain ⟨n, rfl⟩ := Int.eq_ofNat_of_zero_le c.1
    have hd : n < 8 := by omega
    have e := (h.2.2.2 n hd).1
    have b := (w.2.2 n hd).1
    simp (disch := omega) only [iN_lit, gd_ix, iI_clN, e, iI_eq, Int.toNat_natCast]
    by_cases c0 : hH (s.2.2 n) = 0
    · rw [if_pos (by omega), if_pos c0]
      rfl
    · rw [if_neg (by omega), if_neg c0]
      by_cases c2 : hH (s.2.2 n) = 2
      · rw [if_pos (by omega), if_pos c2]
        rfl
      · rw [if_neg (by omega), if_neg c2]
        rfl
  · rw [if_neg c, if_neg c]
    rfl
