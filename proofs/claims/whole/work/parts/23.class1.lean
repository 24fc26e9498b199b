/-! THE CLASS: kinds, a town's leaves, counts of bits; both sides' trying -/
set_option maxRecDepth 100000
theorem c_slack (k f : Nat) (m : pw_Mem) (hk : k ≤ 7) (hf : f ≤ 9) : fX3_slack (iI k) (iI f) m = some (iI ((slk k f : Nat) : Int)) := by
  unfold fX3_slack slk
  simp (disch := omega) only [iN_lit, iI_eq, iN_add, iN_mul, iN_half, lt_def, iI_sub]
  rw [show ((f + 2 : Nat) : Int) - ((1 : Nat) : Int) = ((f + 1 : Nat) : Int) by omega, show f + 2 + 4 = f + 6 by omega]
  rcases (show k = 0 ∨ k = 1 ∨ k = 2 ∨ k = 3 ∨ k = 4 ∨ k = 5 ∨ k = 6 ∨ k = 7 by omega) with rfl | rfl | rfl | rfl | rfl | rfl | rfl | rfl <;> rfl
theorem c_gauge (k : Nat) (m : pw_Mem) (hk : k ≤ 7) : fX3_gauge (iI k) m = some (iI ((gau k : Nat) : Int)) := by
  rcases (show k = 0 ∨ k = 1 ∨ k = 2 ∨ k = 3 ∨ k = 4 ∨ k = 5 ∨ k = 6 ∨ k = 7 by omega) with rfl | rfl | rfl | rfl | rfl | rfl | rfl | rfl <;> rfl
theorem c_holds (k f : Nat) (m : pw_Mem) (hk : k ≤ 7) (hf : f ≤ 9) : fX3_holds (iI k) (iI f) m = some (iI ((hld k f : Nat) : Int)) := by
  unfold fX3_holds hld
  simp (disch := omega) only [iN_lit, iI_eq, iN_add, iN_mul, iN_half, lt_def, jn_def]
  rw [show f + 8 + 4 = f + 12 by omega]
  rcases (show k = 0 ∨ k = 1 ∨ k = 2 ∨ k = 3 ∨ k = 4 ∨ k = 5 ∨ k = 6 ∨ k = 7 by omega) with rfl | rfl | rfl | rfl | rfl | rfl | rfl | rfl <;> rfl
theorem c_costs (k f : Nat) (m : pw_Mem) (hk : k ≤ 7) (hf : f ≤ 9) : fX3_costs (iI k) (iI f) m = some (iI ((cst k f : Nat) : Int)) := by
  unfold fX3_costs cst
  simp (disch := omega) only [iN_lit, iI_eq, iN_add, iN_mul, iN_half, lt_def, jn_def, iI_sub]
  rw [show ((2 + f : Nat) : Int) - ((2 : Nat) : Int) = ((f : Nat) : Int) by omega, show 2 * (2 + f) = 4 + 2 * f by omega]
  rcases (show k = 0 ∨ k = 1 ∨ k = 2 ∨ k = 3 ∨ k = 4 ∨ k = 5 ∨ k = 6 ∨ k = 7 by omega) with rfl | rfl | rfl | rfl | rfl | rfl | rfl | rfl <;> rfl
theorem c_kstretch (k f a : Nat) (m : pw_Mem) (hk : k ≤ 7) (hf : f ≤ 9) (ha : a < 1000000) : fX3_stretch (iI k) (iI f) (iI a) m = some (iI ((a - slk k f : Nat) : Int)) := by
  have := slk_le (k := k) hf
  unfold fX3_stretch
  simp (disch := omega) only [c_slack, bd_some, lt_def, iI_sub, i0, iI_le]
  split
  · exact congrArg (fun z : Int => some (iI z)) (by omega)
  · exact congrArg (fun z : Int => some (iI z)) (by omega)
theorem c_kpull (k f a : Nat) (m : pw_Mem) (hk : k ≤ 7) (hf : f ≤ 9) (ha : a < 1000000) : fX3_pull (iI k) (iI f) (iI a) m = some (iI (((a - slk k f) * gau k : Nat) : Int)) := by
  unfold fX3_pull
  simp (disch := omega) only [c_kstretch, c_gauge, bd_some, iN_mul]
-- counts of bits
theorem cnt_cut (P : Nat → Bool) (k : Nat) : ∀ n, k ≤ n → cnt (fun b => decide (b < k) && P b) n = cnt P k := by
  intro n
  induction n with
  | zero =>
    intro h
    rw [show k = 0 by omega]
    rfl
  | succ n ih =>
    intro h
    by_cases e : k = n + 1
    · subst e
      exact cnt_congr fun b hb => by simp [hb]
    · simp only [cnt]
      rw [ih (by omega)]
      simp [show ¬ n < k by omega]
theorem cnt_msk (P : Nat → Bool) {k : Nat} (h : k ≤ 10) : cnt (fun b => (msk P k).testBit b) 10 = cnt P k := by
  rw [← cnt_cut P k 10 h]
  exact cnt_congr fun b _ => msk_bit P b k
theorem c_bits {s : Nat} (hs : s < 1024) (m : pw_Mem) : fJ6_bitCount_0f7a4 (iI s) m = some (iI ((cnt (fun b => s.testBit b) 10 : Nat) : Int)) :=
  co_dec (P := fun s => fJ6_bitCount_0f7a4 (iI ((s : Nat) : Int)) (fun _ _ => 0) = some (iI ((cnt (fun b => s.testBit b) 10 : Nat) : Int))) (N := 1024) (by decide +kernel) hs
theorem c_bitsM (P : Nat → Bool) {k : Nat} (h : k ≤ 10) (m : pw_Mem) : fJ6_bitCount_0f7a4 (iI ((msk P k : Nat) : Int)) m = some (iI ((cnt P k : Nat) : Int)) := by
  rw [c_bits (msk_lt' P h), cnt_msk P h]
theorem r_bits {s : Nat} (hs : s < 2147483648) (m : pw_Mem) : fX11_bits (iI s) m = some (iI ((cnt (fun b => s.testBit b) 10 : Nat) : Int)) := by
  unfold fX11_bits
  refine lpI2 (fun i v1 v2 => v1 = iI ((cnt (fun b => s.testBit b) i : Nat) : Int) ∧ v2 = iI (i : Nat)) (fun x => x = _) 10 (by omega) ?_ ?_ ⟨rfl, rfl⟩
  · rintro nx i _ _ hi ⟨rfl, rfl⟩ hnx
    have c10 := cnt_le (fun b => s.testBit b) i
    rw [i1, show (10 : Int32) = iI ((10 : Nat) : Int) from rfl, show (31 : Int32) = iI 31 from rfl, show iI ((1 : Nat) : Int) = iI 1 from rfl, iI_bit hs (by omega), if_le (by omega) (by omega) (by omega) (by omega), if_neg (by omega)]
    refine hnx _ _ ⟨?_, ?_⟩
    · rw [iI_add]
      simp only [cnt]
      split <;> rfl
    · rw [show iI 1 = iI ((1 : Nat) : Int) from rfl, iN_add]
  · rintro nx _ _ ⟨rfl, rfl⟩
    rw [show (10 : Int32) = iI ((10 : Nat) : Int) from rfl, if_le (by omega) (by omega) (by omega) (by omega), if_pos (by omega)]
theorem r_bitsM (P : Nat → Bool) {k : Nat} (h : k ≤ 10) (m : pw_Mem) : fX11_bits (iI ((msk P k : Nat) : Int)) m = some (iI ((cnt P k : Nat) : Int)) := by
  have := msk_lt' P h
  rw [r_bits (by omega), cnt_msk P h]
theorem mskor (P : Nat → Bool) {i : Nat} (hi : i < 30) : iI ((msk P i : Nat) : Int) ||| (iI 1 <<< (iI (i : Int) &&& iI 31)) = iI ((msk P i + 2 ^ i : Nat) : Int) := by
  have h1 := msk_lt P i
  have h2 : (2 : Nat) ^ i ≤ 2 ^ 29 := Nat.pow_le_pow_right (by omega) (by omega)
  rw [iI_shl (by omega), iI_or (by omega) (by omega), msk_or]
theorem msk_s (P : Nat → Bool) (i : Nat) : msk P (i + 1) = if P i = true then msk P i + 2 ^ i else msk P i := by
  simp only [msk]
  split <;> simp
theorem i31 : (31 : Int32) = iI 31 := rfl
theorem i1' : (1 : Int32) = iI 1 := rfl
-- a town of the class
theorem c_isSnapped {m : pw_Mem} {o : Nat} {t : TT} (h : CT m o t) (w : WT t) {b : Nat} (hb : b < tK t) : fX7_isSnapped o (iI b) m = some (tX t b) := by
  have hk := w.1.2.1
  have hm := msk_lt' (tX t) hk
  unfold fX7_isSnapped
  rw [h.1.2.2.1, i31, i1', iI_bit (by omega) (by omega), msk_bit]
  simp only [hb, decide_true, Bool.true_and]
  cases tX t b <;> rfl
theorem c_stretch {m : pw_Mem} {o : Nat} {t : TT} (h : CT m o t) (w : WT t) {b : Nat} (hb : b < tK t) : fX7_stretch o (iI b) m = some (iI ((strt t b : Nat) : Int)) := by
  have hk := w.1.2.1
  have h7 := w.1.1
  obtain ⟨k7, f9, l1, l2, -, -⟩ := w.2.2 b hb
  have p1 := (w.2.1 _ l1).1
  have p2 := (w.2.1 _ l2).1
  have s18 := slk_le (k := tI t b) f9
  obtain ⟨-, -, e6, e7, -, e9, -⟩ := h.2.2 b hb
  have q1 := (h.2.1 _ l1).1
  have q2 := (h.2.1 _ l2).1
  unfold fX7_stretch strt dst
  simp (disch := omega) only [gd_ix, iI_clN, e6, e7, q1, q2, lt_def, jn_def, e9, iI_sub, i0, iI_le, iI_neg]
  split <;> split <;> exact congrArg (fun z : Int => some (iI z)) (by omega)
theorem c_pull {m : pw_Mem} {o : Nat} {t : TT} (h : CT m o t) (w : WT t) {b : Nat} (hb : b < tK t) : fX7_pull o (iI b) m = some (iI ((pul t b : Nat) : Int)) := by
  have hk := w.1.2.1
  have e := (h.2.2 b hb).2.2.2.2.2.2.1
  unfold fX7_pull pul
  simp (disch := omega) only [c_isSnapped h w hb, c_stretch h w hb, bd_some, gd_ix, iI_clN, e, iN_mul, i0]
  cases tX t b <;> rfl
theorem c_holdsAt {m : pw_Mem} {o : Nat} {t : TT} (h : CT m o t) (w : WT t) {b : Nat} (hb : b < tK t) {y c : Nat} (hy : y < 1000000) (hc : c < 1000000) : fX7_holdsAt o (iI b) (iI y) (iI c) m = some (iI ((hld (tI t b) (tF t b) - y / 5 - c / 2 : Nat) : Int)) := by
  have hk := w.1.2.1
  have h42 := hld_le (k := tI t b) (w.2.2 b hb).2.1
  have e := (h.2.2 b hb).2.2.2.2.2.2.2
  unfold fX7_holdsAt
  simp (disch := omega) only [gd_ix, iI_clN, e, iN_lit, iN_half, iN_fifth, lt_def, iI_sub, iI_le]
  split <;> exact congrArg (fun z : Int => some (iI z)) (by omega)
/-- stretched too far in that cold -/
def ovC (t : TT) (c b : Nat) : Bool := !tX t b && decide (hld (tI t b) (tF t b) - tA t b / 5 - c / 2 < strt t b)
theorem ovC_ovr (t : TT) : ovC t (tC t) = ovr t := rfl
theorem c_over {m : pw_Mem} {o : Nat} {t : TT} (h : CT m o t) (w : WT t) {c : Nat} (hc : c < 1000000) : fX7_overstretched o (iI c) m = some (iI ((msk (ovC t c) (tK t) : Nat) : Int)) := by
  have hk := w.1.2.1
  unfold fX7_overstretched
  refine lpI2 (fun i v1 v2 => v1 = iI ((msk (ovC t c) i : Nat) : Int) ∧ v2 = iI (i : Nat)) (fun x => x = _) (tK t) (by omega) ?_ ?_ ⟨rfl, rfl⟩
  · rintro nx i _ _ hi ⟨rfl, rfl⟩ hnx
    have s30 := strt_le w hi
    have a99 := (w.2.2 i hi).2.2.2.2.2
    have h42 := hld_le (k := tI t i) (w.2.2 i hi).2.1
    have e8 := (h.2.2 i hi).2.2.2.2.1
    simp (disch := omega) only [h.1.2.1, iI_le, c_isSnapped h w hi, bd_some, c_stretch h w hi, gd_ix, iI_clN, e8, c_holdsAt h w hi, jn_def, lt_def, i31, i1', mskor]
    rw [if_neg (by omega)]
    have hs := msk_s (ovC t c) i
    have e1 : iI (i : Int) + iI 1 = iI ((i + 1 : Nat) : Int) := iN_add i 1
    rw [e1]
    cases hx : tX t i
    · simp only [Bool.false_eq_true, if_false]
      split
      · refine hnx _ _ ⟨?_, rfl⟩
        rw [hs, if_neg]
        simp only [ovC, hx, Bool.not_false, Bool.true_and, decide_eq_true_eq]
        omega
      · refine hnx _ _ ⟨?_, rfl⟩
        rw [hs, if_pos]
        simp only [ovC, hx, Bool.not_false, Bool.true_and, decide_eq_true_eq]
        omega
    · simp only [if_true]
      refine hnx _ _ ⟨?_, rfl⟩
      rw [hs, if_neg]
      simp [ovC, hx]
  · rintro nx _ _ ⟨rfl, rfl⟩
    simp (disch := omega) only [h.1.2.1, iI_le]
    rw [if_pos (by omega)]
