/-! THE TOWN as numbers, and how both sides hold it -/
set_option maxRecDepth 100000
/-- people, bands, cold, year; places, stung; kind, figure, one end, the other, age, snapped -/
abbrev TT : Type := Nat × Nat × Nat × Nat × (Nat → Nat) × (Nat → Nat) × (Nat → Nat) × (Nat → Nat) × (Nat → Nat) × (Nat → Nat) × (Nat → Nat) × (Nat → Bool)
def tN (t : TT) : Nat := t.1
def tK (t : TT) : Nat := t.2.1
def tC (t : TT) : Nat := t.2.2.1
def tY (t : TT) : Nat := t.2.2.2.1
def tP (t : TT) : Nat → Nat := t.2.2.2.2.1
def tS (t : TT) : Nat → Nat := t.2.2.2.2.2.1
def tI (t : TT) : Nat → Nat := t.2.2.2.2.2.2.1
def tF (t : TT) : Nat → Nat := t.2.2.2.2.2.2.2.1
def tO (t : TT) : Nat → Nat := t.2.2.2.2.2.2.2.2.1
def tQ (t : TT) : Nat → Nat := t.2.2.2.2.2.2.2.2.2.1
def tA (t : TT) : Nat → Nat := t.2.2.2.2.2.2.2.2.2.2.1
def tX (t : TT) : Nat → Bool := t.2.2.2.2.2.2.2.2.2.2.2
def sC (t : TT) (c : Nat) : TT := (t.1, t.2.1, c, t.2.2.2)
def sY (t : TT) (y : Nat) : TT := (t.1, t.2.1, t.2.2.1, y, t.2.2.2.2)
def sP (t : TT) (f : Nat → Nat) : TT := (t.1, t.2.1, t.2.2.1, t.2.2.2.1, f, t.2.2.2.2.2)
def sS (t : TT) (f : Nat → Nat) : TT := (t.1, t.2.1, t.2.2.1, t.2.2.2.1, t.2.2.2.2.1, f, t.2.2.2.2.2.2)
def sA (t : TT) (f : Nat → Nat) : TT := (t.1, t.2.1, t.2.2.1, t.2.2.2.1, t.2.2.2.2.1, t.2.2.2.2.2.1, t.2.2.2.2.2.2.1, t.2.2.2.2.2.2.2.1, t.2.2.2.2.2.2.2.2.1, t.2.2.2.2.2.2.2.2.2.1, f, t.2.2.2.2.2.2.2.2.2.2.2)
def sX (t : TT) (f : Nat → Bool) : TT := (t.1, t.2.1, t.2.2.1, t.2.2.2.1, t.2.2.2.2.1, t.2.2.2.2.2.1, t.2.2.2.2.2.2.1, t.2.2.2.2.2.2.2.1, t.2.2.2.2.2.2.2.2.1, t.2.2.2.2.2.2.2.2.2.1, t.2.2.2.2.2.2.2.2.2.2.1, f)
/-- what a field is behind a change -/
theorem tset (t : TT) : (∀ c, tN (sC t c) = tN t ∧ tK (sC t c) = tK t ∧ tC (sC t c) = c ∧ tY (sC t c) = tY t ∧ tP (sC t c) = tP t ∧ tS (sC t c) = tS t ∧ tI (sC t c) = tI t ∧ tF (sC t c) = tF t ∧ tO (sC t c) = tO t ∧ tQ (sC t c) = tQ t ∧ tA (sC t c) = tA t ∧ tX (sC t c) = tX t) ∧
    (∀ c, tN (sY t c) = tN t ∧ tK (sY t c) = tK t ∧ tC (sY t c) = tC t ∧ tY (sY t c) = c ∧ tP (sY t c) = tP t ∧ tS (sY t c) = tS t ∧ tI (sY t c) = tI t ∧ tF (sY t c) = tF t ∧ tO (sY t c) = tO t ∧ tQ (sY t c) = tQ t ∧ tA (sY t c) = tA t ∧ tX (sY t c) = tX t) ∧
    (∀ c, tN (sP t c) = tN t ∧ tK (sP t c) = tK t ∧ tC (sP t c) = tC t ∧ tY (sP t c) = tY t ∧ tP (sP t c) = c ∧ tS (sP t c) = tS t ∧ tI (sP t c) = tI t ∧ tF (sP t c) = tF t ∧ tO (sP t c) = tO t ∧ tQ (sP t c) = tQ t ∧ tA (sP t c) = tA t ∧ tX (sP t c) = tX t) ∧
    (∀ c, tN (sS t c) = tN t ∧ tK (sS t c) = tK t ∧ tC (sS t c) = tC t ∧ tY (sS t c) = tY t ∧ tP (sS t c) = tP t ∧ tS (sS t c) = c ∧ tI (sS t c) = tI t ∧ tF (sS t c) = tF t ∧ tO (sS t c) = tO t ∧ tQ (sS t c) = tQ t ∧ tA (sS t c) = tA t ∧ tX (sS t c) = tX t) ∧
    (∀ c, tN (sA t c) = tN t ∧ tK (sA t c) = tK t ∧ tC (sA t c) = tC t ∧ tY (sA t c) = tY t ∧ tP (sA t c) = tP t ∧ tS (sA t c) = tS t ∧ tI (sA t c) = tI t ∧ tF (sA t c) = tF t ∧ tO (sA t c) = tO t ∧ tQ (sA t c) = tQ t ∧ tA (sA t c) = c ∧ tX (sA t c) = tX t) ∧
    (∀ c, tN (sX t c) = tN t ∧ tK (sX t c) = tK t ∧ tC (sX t c) = tC t ∧ tY (sX t c) = tY t ∧ tP (sX t c) = tP t ∧ tS (sX t c) = tS t ∧ tI (sX t c) = tI t ∧ tF (sX t c) = tF t ∧ tO (sX t c) = tO t ∧ tQ (sX t c) = tQ t ∧ tA (sX t c) = tA t ∧ tX (sX t c) = c) :=
  ⟨fun _ => ⟨rfl, rfl, rfl, rfl, rfl, rfl, rfl, rfl, rfl, rfl, rfl, rfl⟩, fun _ => ⟨rfl, rfl, rfl, rfl, rfl, rfl, rfl, rfl, rfl, rfl, rfl, rfl⟩, fun _ => ⟨rfl, rfl, rfl, rfl, rfl, rfl, rfl, rfl, rfl, rfl, rfl, rfl⟩, fun _ => ⟨rfl, rfl, rfl, rfl, rfl, rfl, rfl, rfl, rfl, rfl, rfl, rfl⟩, fun _ => ⟨rfl, rfl, rfl, rfl, rfl, rfl, rfl, rfl, rfl, rfl, rfl, rfl⟩, fun _ => ⟨rfl, rfl, rfl, rfl, rfl, rfl, rfl, rfl, rfl, rfl, rfl, rfl⟩⟩
-- the kinds
def slk (k f : Nat) : Nat := if k = 1 then (f + 2) / 2 else if k = 2 then (f + 2) / 2 + 1 else if k = 3 then f else if k = 4 then f + 1 else if k = 5 then 0 else if k = 6 then f + 6 else if k = 7 then 2 * f else f + 2
def gau (k : Nat) : Nat := if k = 1 then 2 else if k = 2 then 3 else if k = 4 then 3 else if k = 5 then 2 else if k = 7 then 4 else 1
def hld (k f : Nat) : Nat := if k = 1 then f + 12 else if k = 2 then 2 * (f + 12) else if k = 3 then 3 else if k = 4 then (f + 8) / 2 else if k = 5 then 30 else if k = 7 then 5 else f + 8
def cst (k f : Nat) : Nat := if k = 1 then 2 + f else if k = 2 then 4 + 2 * f else if k = 3 then 1 else if k = 4 then 5 else if k = 5 then f else if k = 6 then 7 else if k = 7 then 1 + f else 2
def dst (a b : Nat) : Nat := (a - b) + (b - a)
def strt (t : TT) (b : Nat) : Nat := dst (tP t (tO t b)) (tP t (tQ t b)) - slk (tI t b) (tF t b)
def pul (t : TT) (b : Nat) : Nat := if tX t b then 0 else strt t b * gau (tI t b)
def hnow (t : TT) (b : Nat) : Nat := hld (tI t b) (tF t b) - tA t b / 5 - tC t / 2
def ovr (t : TT) (b : Nat) : Bool := !tX t b && decide (hnow t b < strt t b)
-- how the class's town holds it; how a row holds it; what is so of every town
def CT (m : pw_Mem) (o : Nat) (t : TT) : Prop :=
  (m o 11 = iI (tN t) ∧ m o 12 = iI (tK t) ∧ m o 13 = iI (msk (tX t) (tK t) : Nat) ∧ m o 14 = iI (tC t) ∧ m o 15 = iI (tY t)) ∧ (∀ p, p < tN t → m (o + 1) p = iI (tP t p) ∧ m (o + 2) p = iI (tS t p)) ∧
  ∀ b, b < tK t → m (o + 4) b = iI (tI t b) ∧ m (o + 5) b = iI (tF t b) ∧ m (o + 6) b = iI (tO t b) ∧ m (o + 7) b = iI (tQ t b) ∧ m (o + 8) b = iI (tA t b) ∧ m (o + 9) b = iI (slk (tI t b) (tF t b) : Nat) ∧ m (o + 10) b = iI (gau (tI t b) : Nat) ∧ m (o + 11) b = iI (hld (tI t b) (tF t b) : Nat)
def RT (m : pw_Mem) (o : Nat) (t : TT) : Prop :=
  (m o 0 = iI (tN t) ∧ m o 1 = iI (tK t) ∧ m o 2 = iI (tY t) ∧ m o 3 = iI (tC t)) ∧ (∀ p, p < tN t → m o (4 + p) = iI (tP t p) ∧ m o (11 + p) = iI (tS t p)) ∧
  ∀ b, b < tK t → m o (18 + 6 * b + 0) = iI (tI t b) ∧ m o (18 + 6 * b + 1) = iI (tF t b) ∧ m o (18 + 6 * b + 2) = iI (tO t b) ∧ m o (18 + 6 * b + 3) = iI (tQ t b) ∧ m o (18 + 6 * b + 4) = iI (tA t b) ∧ m o (18 + 6 * b + 5) = iI (if tX t b then 1 else 0)
def WT (t : TT) : Prop := (tN t ≤ 7 ∧ tK t ≤ 10 ∧ tC t ≤ 9 ∧ tY t ≤ 5000) ∧ (∀ p, p < tN t → tP t p ≤ 30 ∧ tS t p ≤ 99) ∧ ∀ b, b < tK t → tI t b ≤ 7 ∧ tF t b ≤ 9 ∧ tO t b < tN t ∧ tQ t b < tN t ∧ tO t b ≠ tQ t b ∧ tA t b ≤ 99
/-- no band is stretched too far -/
def Calm (t : TT) : Prop := ∀ b, b < tK t → ovr t b = false
theorem slk_le {k f : Nat} (hf : f ≤ 9) : slk k f ≤ 18 := by
  unfold slk
  repeat' split
  all_goals omega
theorem gau_le {k : Nat} : gau k ≤ 4 ∧ 1 ≤ gau k := by
  unfold gau
  repeat' split
  all_goals omega
theorem hld_le {k f : Nat} (hf : f ≤ 9) : hld k f ≤ 42 := by
  unfold hld
  repeat' split
  all_goals omega
theorem dst_le {a b : Nat} (ha : a ≤ 30) (hb : b ≤ 30) : dst a b ≤ 30 := by
  unfold dst
  omega
theorem strt_le {t : TT} (h : WT t) {b : Nat} (hb : b < tK t) : strt t b ≤ 30 := by
  obtain ⟨-, -, h1, h2, -, -⟩ := h.2.2 b hb
  have := dst_le (h.2.1 _ h1).1 (h.2.1 _ h2).1
  unfold strt
  omega
theorem pul_le {t : TT} (h : WT t) {b : Nat} (hb : b < tK t) : pul t b ≤ 120 := by
  have h1 := strt_le h hb
  have h2 := (gau_le (k := tI t b)).1
  unfold pul
  split
  · omega
  · exact Nat.mul_le_mul h1 h2
theorem hnow_le {t : TT} (h : WT t) {b : Nat} (hb : b < tK t) : hnow t b ≤ 42 := by
  have := hld_le (k := tI t b) (h.2.2 b hb).2.1
  unfold hnow
  omega
