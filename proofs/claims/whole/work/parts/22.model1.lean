/-! THE REFERENCE: its leaves -/
set_option maxRecDepth 100000
theorem r_isIn (a b c : Int) (m : pw_Mem) (h1 : -2147483648 ≤ a ∧ a < 2147483648) (h2 : -2147483648 ≤ b ∧ b < 2147483648) (h3 : -2147483648 ≤ c ∧ c < 2147483648) : fX11_isIn (iI a) (iI b) (iI c) m = some (decide (b ≤ a ∧ a ≤ c)) := by
  unfold fX11_isIn
  rw [if_lt h1.1 h1.2 h2.1 h2.2, if_lt h3.1 h3.2 h1.1 h1.2]
  split
  · rw [decide_eq_false (by omega)]
  · split
    · rw [decide_eq_false (by omega)]
    · rw [decide_eq_true (by omega)]
theorem r_least (a b : Nat) (m : pw_Mem) (h1 : a < 2147483648) (h2 : b < 2147483648) : fX11_least (iI a) (iI b) m = some (iI ((min a b : Nat) : Int)) := by
  unfold fX11_least
  rw [if_le (by omega) (by omega) (by omega) (by omega)]
  split
  · rw [Nat.min_eq_right (by omega)]
  · rw [Nat.min_eq_left (by omega)]
theorem r_most0 (a : Int) (m : pw_Mem) (h1 : -2147483648 ≤ a ∧ a < 2147483648) : fX11_most (iI ((0 : Nat) : Int)) (iI a) m = some (iI ((a.toNat : Nat) : Int)) := by
  unfold fX11_most
  rw [if_le (by decide) (by decide) h1.1 h1.2]
  split
  · rw [show ((a.toNat : Nat) : Int) = a by omega]
  · rw [show a.toNat = 0 by omega]
theorem r_most (a b : Nat) (m : pw_Mem) (h1 : a < 2147483648) (h2 : b < 2147483648) : fX11_most (iI a) (iI b) m = some (iI ((max a b : Nat) : Int)) := by
  unfold fX11_most
  rw [if_le (by omega) (by omega) (by omega) (by omega)]
  split
  · rw [Nat.max_eq_right (by omega)]
  · rw [Nat.max_eq_left (by omega)]
theorem r_of (b w : Nat) (m : pw_Mem) : fX11_of (iI b) (iI w) m = some (iI ((18 + 6 * b + w : Nat) : Int)) := by
  unfold fX11_of
  simp only [iN_lit, iN_mul, iN_add]
theorem r_far (a b : Nat) (m : pw_Mem) (h1 : a < 2147483648) (h2 : b < 2147483648) : fX11_far (iI a) (iI b) m = some (iI ((dst a b : Nat) : Int)) := by
  unfold fX11_far dst
  rw [if_le (by omega) (by omega) (by omega) (by omega), iI_sub, iI_sub]
  split
  · rw [show ((a - b + (b - a) : Nat) : Int) = b - a by omega]
  · rw [show ((a - b + (b - a) : Nat) : Int) = a - b by omega]
theorem r_has (s b : Nat) (m : pw_Mem) (h1 : s < 2147483648) (h2 : b < 31) : fX11_has (iI s) (iI b) m = some (s.testBit b) := by
  unfold fX11_has
  have e1 : (31 : Int32) = iI 31 := rfl
  have e2 : (1 : Int32) = iI 1 := rfl
  rw [e1, e2, iI_bit h1 h2]
  cases s.testBit b <;> rfl
theorem r_slack (k f : Nat) (m : pw_Mem) (hk : k ≤ 7) (hf : f ≤ 9) : fX11_slack (iI k) (iI f) m = some (iI ((slk k f : Nat) : Int)) := by
  unfold fX11_slack slk
  simp (disch := omega) only [iN_lit, iI_eq, iN_add, iN_mul, iN_half]
  rcases (show k = 0 ∨ k = 1 ∨ k = 2 ∨ k = 3 ∨ k = 4 ∨ k = 5 ∨ k = 6 ∨ k = 7 by omega) with rfl | rfl | rfl | rfl | rfl | rfl | rfl | rfl <;> rfl
theorem r_gauge (k : Nat) (m : pw_Mem) (hk : k ≤ 7) : fX11_gauge (iI k) m = some (iI ((gau k : Nat) : Int)) := by
  rcases (show k = 0 ∨ k = 1 ∨ k = 2 ∨ k = 3 ∨ k = 4 ∨ k = 5 ∨ k = 6 ∨ k = 7 by omega) with rfl | rfl | rfl | rfl | rfl | rfl | rfl | rfl <;> rfl
theorem r_holds (k f : Nat) (m : pw_Mem) (hk : k ≤ 7) (hf : f ≤ 9) : fX11_holds (iI k) (iI f) m = some (iI ((hld k f : Nat) : Int)) := by
  unfold fX11_holds hld
  simp (disch := omega) only [iN_lit, iI_eq, iN_add, iN_mul, jn_def, iN_half]
  rcases (show k = 0 ∨ k = 1 ∨ k = 2 ∨ k = 3 ∨ k = 4 ∨ k = 5 ∨ k = 6 ∨ k = 7 by omega) with rfl | rfl | rfl | rfl | rfl | rfl | rfl | rfl <;> rfl
theorem r_costBy (k f : Nat) (m : pw_Mem) (hk : k ≤ 7) (hf : f ≤ 9) : fX11_costBy (iI k) (iI f) m = some (iI ((cst k f : Nat) : Int)) := by
  unfold fX11_costBy cst
  simp (disch := omega) only [iN_lit, iI_eq, iN_add, iN_mul, jn_def]
  rcases (show k = 0 ∨ k = 1 ∨ k = 2 ∨ k = 3 ∨ k = 4 ∨ k = 5 ∨ k = 6 ∨ k = 7 by omega) with rfl | rfl | rfl | rfl | rfl | rfl | rfl | rfl <;> rfl
theorem r_isWhole {m : pw_Mem} {o : Nat} {t : TT} (h : RT m o t) (w : WT t) {b : Nat} (hb : b < tK t) : fX11_isWhole o (iI b) m = some (!tX t b) := by
  have hk := w.1.2.1
  have e := (h.2.2 b hb).2.2.2.2.2
  unfold fX11_isWhole
  simp (disch := omega) only [iN_lit, r_of, bd_some, gd_ix, iI_clN, e]
  cases tX t b <;> rfl
theorem r_isRound {m : pw_Mem} {o : Nat} {t : TT} (h : RT m o t) (w : WT t) {b p : Nat} (hb : b < tK t) (hp : p < 1000) : fX11_isRound o (iI b) (iI p) m = some (decide (tO t b = p ∨ tQ t b = p)) := by
  have hk := w.1.2.1
  have h7 := w.1.1
  obtain ⟨-, -, l1, l2, -, -⟩ := w.2.2 b hb
  have e2 := (h.2.2 b hb).2.2.1
  have e3 := (h.2.2 b hb).2.2.2.1
  unfold fX11_isRound
  simp (disch := omega) only [iN_lit, r_of, bd_some, gd_ix, iI_clN, e2, e3, iI_eq]
  by_cases c1 : tO t b = p
  · rw [if_pos (by omega), decide_eq_true (Or.inl c1)]
  · rw [if_neg (by omega)]
    by_cases c2 : tQ t b = p
    · rw [if_pos (by omega), decide_eq_true (Or.inr c2)]
    · rw [if_neg (by omega), decide_eq_false (by omega)]
theorem r_stretch {m : pw_Mem} {o : Nat} {t : TT} (h : RT m o t) (w : WT t) {b : Nat} (hb : b < tK t) : fX11_stretch o (iI b) m = some (iI ((strt t b : Nat) : Int)) := by
  have hk := w.1.2.1
  have h7 := w.1.1
  obtain ⟨k7, f9, l1, l2, -, -⟩ := w.2.2 b hb
  have p1 := (w.2.1 _ l1).1
  have p2 := (w.2.1 _ l2).1
  have s18 := slk_le (k := tI t b) f9
  have d30 := dst_le p1 p2
  obtain ⟨e0, e1, e2, e3, -⟩ := h.2.2 b hb
  have q1 := (h.2.1 _ l1).1
  have q2 := (h.2.1 _ l2).1
  unfold fX11_stretch
  simp (disch := omega) only [iN_lit, r_of, bd_some, gd_ix, iI_clN, e0, e1, e2, e3, iN_add, q1, q2, r_far, r_slack, iI_sub, r_most0]
  unfold strt
  rw [show (((dst (tP t (tO t b)) (tP t (tQ t b)) : Nat) : Int) - ((slk (tI t b) (tF t b) : Nat) : Int)).toNat = dst (tP t (tO t b)) (tP t (tQ t b)) - slk (tI t b) (tF t b) by omega]
theorem r_pull {m : pw_Mem} {o : Nat} {t : TT} (h : RT m o t) (w : WT t) {b : Nat} (hb : b < tK t) : fX11_pull o (iI b) m = some (iI ((pul t b : Nat) : Int)) := by
  have hk := w.1.2.1
  obtain ⟨k7, -⟩ := w.2.2 b hb
  have e0 := (h.2.2 b hb).1
  unfold fX11_pull pul
  simp (disch := omega) only [r_isWhole h w hb, r_stretch h w hb, iN_lit, r_of, bd_some, gd_ix, iI_clN, e0, r_gauge, iN_mul]
  cases tX t b <;> rfl
theorem r_holdsNow {m : pw_Mem} {o : Nat} {t : TT} (h : RT m o t) (w : WT t) {b : Nat} (hb : b < tK t) : fX11_holdsNow o (iI b) m = some (iI ((hnow t b : Nat) : Int)) := by
  have hk := w.1.2.1
  have hc := w.1.2.2.1
  obtain ⟨k7, f9, -, -, -, a99⟩ := w.2.2 b hb
  have h42 := hld_le (k := tI t b) f9
  obtain ⟨e0, e1, -, -, e4, -⟩ := h.2.2 b hb
  have ec := h.1.2.2.2
  unfold fX11_holdsNow
  simp (disch := omega) only [iN_lit, r_of, bd_some, gd_ix, iI_clN, e0, e1, e4, ec, r_holds, iN_half, iN_fifth, iI_sub, r_most0]
  unfold hnow
  rw [show (((hld (tI t b) (tF t b) : Nat) : Int) - ((tA t b / 5 : Nat) : Int) - ((tC t / 2 : Nat) : Int)).toNat = hld (tI t b) (tF t b) - tA t b / 5 - tC t / 2 by omega]
theorem r_isOver {m : pw_Mem} {o : Nat} {t : TT} (h : RT m o t) (w : WT t) {b : Nat} (hb : b < tK t) : fX11_isOver o (iI b) m = some (ovr t b) := by
  have h1 := strt_le w hb
  have h2 := hnow_le w hb
  unfold fX11_isOver ovr
  simp (disch := omega) only [r_isWhole h w hb, r_stretch h w hb, r_holdsNow h w hb, bd_some, iI_le]
  cases tX t b
  · simp only [Bool.not_false, if_true, Bool.true_and]
    by_cases c : strt t b ≤ hnow t b
    · rw [if_pos (by omega), decide_eq_false (by omega)]
    · rw [if_neg (by omega), decide_eq_true (by omega)]
  · rfl
