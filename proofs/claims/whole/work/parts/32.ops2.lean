/-! CALLS: years, cuts, ties, image, restore, count, cost -/
set_option maxRecDepth 100000
def yrI (t : TT) : Nat → TT
  | 0 => t
  | n + 1 => yrT (yrI t n)
theorem yrI_n (t : TT) : ∀ n, tN (yrI t n) = tN t ∧ tK (yrI t n) = tK t ∧ tY (yrI t n) = tY t + n ∧ tC (yrI t n) = tC t
  | 0 => ⟨rfl, rfl, rfl, rfl⟩
  | n + 1 => by
    obtain ⟨a, b, c, d⟩ := yrI_n t n
    obtain ⟨e, f, g, h⟩ := yrT_n (yrI t n)
    exact ⟨e.trans a, f.trans b, by show tY (yrT (yrI t n)) = _; omega, h.trans d⟩
theorem WT_yrI {t : TT} (w : WT t) : ∀ n, tY t + n ≤ 5000 → WT (yrI t n)
  | 0, _ => w
  | n + 1, h => WT_yrT (WT_yrI w n (by omega)) (by have := (yrI_n t n).2.2.1; omega)
theorem tX_yr1 (t : TT) : tX (yr1 t) = tX t := rfl
theorem tX_yrT {t : TT} {b : Nat} (hb : b < tK t) : tX (yrT t) b = (tX t b || newY t b) := by
  have e : tX (yrT t) b = ((tX t b || (decide (b < tK t) && ovr (yr1 t) b)) || (decide (b < tK t) && ovr (yr3 t) b)) := rfl
  rw [e]
  simp only [hb, decide_true, Bool.true_and, newY, Bool.or_assoc]
theorem newY_X {t : TT} {b : Nat} (hb : b < tK t) (h : newY t b = true) : tX t b = false := by
  unfold newY at h
  rcases Bool.or_eq_true_iff.mp h with h | h
  · unfold ovr at h
    rw [tX_yr1] at h
    cases hx : tX t b
    · rfl
    · rw [hx] at h
      simp at h
  · have e : tX (yr3 t) b = (tX t b || (decide (b < tK t) && ovr (yr1 t) b)) := rfl
    unfold ovr at h
    rw [e] at h
    cases hx : tX t b
    · rfl
    · rw [hx] at h
      simp at h
theorem tX_mono {t : TT} {b : Nat} (hb : b < tK t) (h : tX t b = true) : ∀ n, tX (yrI t n) b = true
  | 0 => h
  | n + 1 => by
    show tX (yrT (yrI t n)) b = true
    rw [tX_yrT (by rw [(yrI_n t n).2.1]; exact hb), tX_mono hb h n]
    rfl
def gone (t : TT) (n b : Nat) : Bool := tX (yrI t n) b && !tX t b
theorem gone_s {t : TT} (n : Nat) : msk (gone t n) (tK t) ||| msk (newY (yrI t n)) (tK t) = msk (gone t (n + 1)) (tK t) := by
  rw [msk_or2]
  refine msk_congr fun b hb => ?_
  have hb2 : b < tK (yrI t n) := by rw [(yrI_n t n).2.1]; exact hb
  have e : tX (yrI t (n + 1)) b = (tX (yrI t n) b || newY (yrI t n) b) := tX_yrT hb2
  have hn := newY_X hb2
  have hm := tX_mono hb (n := n)
  unfold gone
  rw [e]
  cases hx : tX t b
  · simp
  · rw [hm hx] at hn ⊢
    cases hq : newY (yrI t n) b
    · simp
    · exact absurd (hn hq) (by decide)
theorem cnt_sub {P Q : Nat → Bool} : ∀ {k : Nat}, (∀ b, b < k → P b = true → Q b = true) → cnt (fun b => Q b && !P b) k + cnt P k = cnt Q k
  | 0, _ => rfl
  | k + 1, h => by
    have ih := cnt_sub (k := k) (fun b hb => h b (by omega))
    have h1 := h k (by omega)
    simp only [cnt]
    by_cases hp : P k = true
    · have hq := h1 hp
      simp only [hp, hq, Bool.not_true, Bool.and_false, if_true, Bool.false_eq_true, if_false]
      omega
    · by_cases hq : Q k = true
      · simp only [hp, hq, Bool.not_false, Bool.and_true, if_true, Bool.false_eq_true, if_false]
        omega
      · simp only [hp, hq, Bool.not_false, Bool.and_true, Bool.false_eq_true, if_false]
        omega
theorem c_passYears {m : pw_Mem} {o : Nat} {t : TT} (h : CT m o t) (w : WT t) {n : Nat} (hn : tY t + n ≤ 5000) : ∃ m' : pw_Mem, fX7_passYears o (iI n) m = some m' ∧ CT m' o (yrI t n) ∧ ∀ c, c < o ∨ o + 11 < c → m' c = m c := by
  unfold fX7_passYears
  refine lpI2 (fun i v (m6 : pw_Mem) => v = iI (i : Nat) ∧ CT m6 o (yrI t i) ∧ ∀ c, c < o ∨ o + 11 < c → m6 c = m c) (fun x => ∃ m' : pw_Mem, x = some m' ∧ CT m' o (yrI t n) ∧ ∀ c, c < o ∨ o + 11 < c → m' c = m c) n (by omega) ?_ ?_ ⟨rfl, h, fun _ _ => rfl⟩
  · rintro nx i _ m6 hi ⟨rfl, h6, f6⟩ hnx
    have e1 : iI (i : Int) + iI ((1 : Nat) : Int) = iI ((i + 1 : Nat) : Int) := iN_add i 1
    obtain ⟨m7, q7, g7, f7⟩ := c_year h6 (WT_yrI w i (by omega)) (by have := (yrI_n t i).2.2.1; omega)
    simp (disch := omega) only [iI_le, q7, bd2_some, one, lt_def, e1]
    rw [if_neg (by omega)]
    exact hnx _ _ ⟨rfl, g7, fun c hc => by rw [f7 c hc, f6 c hc]⟩
  · rintro nx _ m6 ⟨rfl, h6, f6⟩
    simp (disch := omega) only [iI_le]
    rw [if_pos (by omega)]
    exact ⟨m6, rfl, h6, f6⟩
theorem c_snappedCount {m : pw_Mem} {o : Nat} {t : TT} (h : CT m o t) (w : WT t) : fX7_snappedCount o m = some (iI ((cnt (tX t) (tK t) : Nat) : Int)) := by
  unfold fX7_snappedCount
  rw [h.1.2.2.1, c_bitsM _ w.1.2.1, bd_some]
theorem op_years {m : pw_Mem} (hs : Sim m) (a : Int32) : OpWW (fX10_years a) (fX11_years a) m := by
  have hs0 := hs
  obtain ⟨s, hC, hM, w⟩ := hs
  obtain ⟨z, rfl, h1, h2⟩ := rg a
  have w1 := w.1.1
  have hk := w1.1.2.1
  have hy := w.1.2.1
  have ec := hC.1.1.2.2.2.2
  have em := hM.1.1.2.2.1
  by_cases c : 1 ≤ z ∧ z ≤ 60
  · obtain ⟨n, rfl⟩ := Int.eq_ofNat_of_zero_le (show 0 ≤ z by omega)
    by_cases cy : tY s.1 + n ≤ 999
    · have hyn := yrI_n s.1 n
      have hsub := cnt_sub (P := tX s.1) (Q := tX (yrI s.1 n)) (k := tK s.1) (fun b hb hx => tX_mono hb hx n)
      have cal : Calm (yrI s.1 n) := by
        obtain ⟨q, rfl⟩ : ∃ q, n = q + 1 := ⟨n - 1, by omega⟩
        exact Calm_try _
      refine op_town hC hM w (r := iI ((cnt (gone s.1 n) (tK s.1) : Nat) : Int)) (t := yrI s.1 n) ⟨WT_yrI w1 n (by omega), by omega, cal⟩ ?_ ?_
      · obtain ⟨m1, q1, g1, f1⟩ := c_passYears hC.1 w1 (n := n) (by omega)
        refine ⟨m1, ?_, g1, fun c hc => f1 c (by omega)⟩
        have s2 := c_snappedCount g1 (WT_yrI w1 n (by omega))
        rw [hyn.2.1] at s2
        unfold fX10_years
        simp (disch := omega) only [iN_lit, iI_lt, iI_le, ec, iN_add, c_snappedCount hC.1 w1, bd_some, q1, s2, iI_sub]
        rw [if_neg (by omega), if_pos (by omega), if_pos (by omega), show ((cnt (tX (yrI s.1 n)) (tK s.1) : Nat) : Int) - ((cnt (tX s.1) (tK s.1) : Nat) : Int) = ((cnt (gone s.1 n) (tK s.1) : Nat) : Int) by unfold gone; omega]
      · intro m1 hM1
        have em1 := hM1.1.1.2.2.1
        unfold fX11_years
        simp (disch := omega) only [iN_lit, r_isIn, bd_some, ite_dec, gd_ix, iI_clN, em1, iN_add, iI_le]
        rw [if_pos (by omega), if_pos (by omega)]
        refine lpI3 (fun i v2 v3 (m6 : pw_Mem) => v2 = iI ((msk (gone s.1 i) (tK s.1) : Nat) : Int) ∧ v3 = iI (i : Nat) ∧ RT m6 72 (yrI s.1 i) ∧ ∀ c, c ≠ 72 → c ≠ 76 → m6 c = m1 c) (fun x => ∃ m2 : pw_Mem, x = some (iI ((cnt (gone s.1 n) (tK s.1) : Nat) : Int), m2) ∧ RT m2 72 (yrI s.1 n) ∧ m2 71 5 = m1 71 5 ∧ ∀ c, c ≠ 71 → c ≠ 72 → c ≠ 73 → c ≠ 75 → c ≠ 76 → c ≠ 77 → c ≠ 78 → c ≠ 79 → m2 c = m1 c) n (by omega) ?_ ?_ ⟨?_, rfl, hM1.1, fun _ _ _ => rfl⟩
        · rintro nx i _ _ m6 hi ⟨rfl, rfl, h6, f6⟩ hnx
          have hyi := yrI_n s.1 i
          obtain ⟨m7, q7, g7, f7⟩ := r_year h6 (WT_yrI w1 i (by omega)) (by omega) (by decide)
          have b1 := msk_lt' (gone s.1 i) hk
          have b2 := msk_lt' (newY (yrI s.1 i)) hk
          rw [hyi.2.1] at q7
          simp (disch := omega) only [iI_le, q7, bd2_some, lt_def, iN_add, iI_or, gone_s]
          rw [if_neg (by omega)]
          exact hnx _ _ _ ⟨rfl, rfl, g7, fun c h72 h76 => by rw [f7 c h72 h76, f6 c h72 h76]⟩
        · rintro nx _ _ m6 ⟨rfl, rfl, h6, f6⟩
          simp (disch := omega) only [iI_le, r_bitsM, bd_some]
          rw [if_pos (by omega)]
          exact ⟨m6, rfl, h6, by rw [f6 71 (by omega) (by omega)], fun c _ h72 _ _ h76 _ _ _ => f6 c h72 h76⟩
        · have : msk (gone s.1 0) (tK s.1) = msk (fun _ => false) (tK s.1) := msk_congr fun b _ => by
            unfold gone
            show (tX s.1 b && !tX s.1 b) = false
            cases tX s.1 b <;> rfl
          rw [this]
          have z : ∀ k, msk (fun _ => false) k = 0 := by
            intro k
            induction k with
            | zero => rfl
            | succ k ih => simp [msk, ih]
          rw [z]
    · refine op_same hs0 (r := -3) ?_ ?_
      · unfold fX10_years
        simp (disch := omega) only [iN_lit, iI_lt, iI_le, ec, iN_add]
        rw [if_neg (by omega), if_pos (by omega), if_neg (by omega)]
      · unfold fX11_years
        simp (disch := omega) only [iN_lit, r_isIn, bd_some, ite_dec, gd_ix, iI_clN, em, iN_add, iI_le]
        rw [if_pos (by omega), if_neg (by omega)]
  · refine op_same hs0 (r := -1) ?_ ?_
    · unfold fX10_years
      simp (disch := omega) only [iN_lit, iI_lt, iI_le]
      by_cases c1 : z < 1
      · rw [if_pos (by omega)]
      · rw [if_neg (by omega), if_neg (by omega)]
    · unfold fX11_years
      simp (disch := omega) only [iN_lit, r_isIn, bd_some, ite_dec]
      rw [if_neg (by omega)]
theorem r_snappedSet {m : pw_Mem} {o : Nat} {t : TT} (h : RT m o t) (w : WT t) : fX11_snappedSet o m = some (iI ((msk (tX t) (tK t) : Nat) : Int)) := by
  have hk := w.1.2.1
  unfold fX11_snappedSet
  refine lpI2 (fun i v1 v2 => v1 = iI ((msk (tX t) i : Nat) : Int) ∧ v2 = iI (i : Nat)) (fun x => x = _) (tK t) (by omega) ?_ ?_ ⟨rfl, rfl⟩
  · rintro nx i _ _ hi ⟨rfl, rfl⟩ hnx
    have e1 : iI (i : Int) + iI 1 = iI ((i + 1 : Nat) : Int) := iN_add i 1
    have hm := msk_lt' (tX t) (show i ≤ 10 by omega)
    have hss := msk_s (tX t) i
    simp (disch := omega) only [one, gd_ix, iI_clN, h.1.2.1, iI_le, r_isWhole h w hi, bd_some, jn_def, lt_def]
    rw [if_neg (by omega)]
    simp (disch := omega) only [i31, one', mskor, e1, i0]
    cases hx : tX t i
    · rw [if_pos (by decide), iI_or (by omega) (by omega), Nat.or_zero]
      exact hnx _ _ ⟨by rw [hss, hx]; rfl, rfl⟩
    · rw [if_neg (by decide)]
      exact hnx _ _ ⟨by rw [hss, hx]; rfl, rfl⟩
  · rintro nx _ _ ⟨rfl, rfl⟩
    simp (disch := omega) only [one, gd_ix, iI_clN, h.1.2.1, iI_le]
    rw [if_pos (by omega)]
theorem msk_up {P : Nat → Bool} {n k : Nat} (h : n < k) : msk P k ||| 2 ^ n = msk (upB P n true) k := by
  apply Nat.eq_of_testBit_eq
  intro i
  rw [Nat.testBit_or, msk_bit, msk_bit, Nat.testBit_two_pow]
  by_cases e : i = n
  · subst e
    rw [upB_eq]
    simp [h]
  · rw [upB_ne e]
    simp [show ¬ n = i from fun q => e q.symm]
theorem op_cuts {m : pw_Mem} (hs : Sim m) (a : Int32) : OpWW (fX10_cuts a) (fX11_cuts a) m := by
  have hs0 := hs
  obtain ⟨s, hC, hM, w⟩ := hs
  obtain ⟨z, rfl, h1, h2⟩ := rg a
  have w1 := w.1.1
  have hk := w1.1.2.1
  by_cases c : 0 ≤ z ∧ z < tK s.1
  · obtain ⟨n, rfl⟩ := Int.eq_ofNat_of_zero_le c.1
    have hn : n < tK s.1 := by omega
    cases hx : tX s.1 n
    · have hm := msk_lt' (tX s.1) hk
      have h2n : (2 : Nat) ^ n ≤ 2 ^ 10 := Nat.pow_le_pow_right (by omega) (by omega)
      have wX : WT (sX s.1 (upB (tX s.1) n true)) := WT_X w1 _
      refine op_town hC hM w (r := iI ((cnt (upB (tX s.1) n true) (tK s.1) : Nat) : Int)) (t := sX s.1 (upB (tX s.1) n true)) ⟨wX, w.1.2.1, Calm_X w.1.2.2 (fun b hb => ?_)⟩ ?_ ?_
      · by_cases e : b = n
        · subst e
          exact upB_eq _ _ _
        · rw [upB_ne e]
          exact hb
      · have e13 := hC.1.1.2.2.1
        have g := CT_snap (x := msk (tX s.1) (tK s.1) ||| 2 ^ n) (f := upB (tX s.1) n true) hC.1 (msk_up hn)
        have sc := c_snappedCount g wX
        refine ⟨_, ?_, g, fun c hc => up_oc (by omega)⟩
        unfold fX10_cuts
        simp (disch := omega) only [c_isBand hC.1 w1, bd_some, ite_dec, c_isSnapped hC.1 w1 hn, hx, lt_def, e13, i31, i1', iI_shl, iI_or, sc]
        rw [if_pos (by omega), if_neg (by decide)]
        rfl
      · intro m1 hM1
        have g := RT_snap (v := true) hM1.1 hn hk w1.1.1
        have sc := r_snappedSet g wX
        have hone : iI ((1 : Nat) : Int) = iI (if true = true then 1 else 0) := rfl
        refine ⟨_, ?_, g, by rw [up_oc (by omega)], fun c _ hc _ _ _ _ _ _ => up_oc hc⟩
        unfold fX11_cuts
        simp (disch := omega) only [r_isBand hM1.1 w1, bd_some, ite_dec, r_isWhole hM1.1 w1 hn, hx, iN_lit, r_of, gd_ix, iI_clN, lt_def]
        rw [if_pos (by omega), if_pos (by decide), hone, sc, bd_some]
        have k1 : tK (sX s.1 (upB (tX s.1) n true)) = tK s.1 := rfl
        rw [k1, show tX (sX s.1 (upB (tX s.1) n true)) = upB (tX s.1) n true from rfl, r_bitsM _ hk, bd_some]
        rfl
    · refine op_same hs0 (r := -3) ?_ ?_
      · unfold fX10_cuts
        simp (disch := omega) only [c_isBand hC.1 w1, bd_some, ite_dec, c_isSnapped hC.1 w1 hn, hx]
        rw [if_pos (by omega), if_pos trivial]
      · unfold fX11_cuts
        simp (disch := omega) only [r_isBand hM.1 w1, bd_some, ite_dec, r_isWhole hM.1 w1 hn, hx]
        rw [if_pos (by omega), if_neg (by decide)]
  · refine op_same hs0 (r := -1) ?_ ?_
    · unfold fX10_cuts
      simp (disch := omega) only [c_isBand hC.1 w1, bd_some, ite_dec]
      rw [if_neg (by omega)]
    · unfold fX11_cuts
      simp (disch := omega) only [r_isBand hM.1 w1, bd_some, ite_dec]
      rw [if_neg (by omega)]
-- one more band
theorem c_addBand {m : pw_Mem} {o : Nat} {t : TT} (h : CT m o t) (w : WT t) {k f a b : Nat} (hk : k ≤ 7) (hf : f ≤ 9) (ha : a < tN t) (hb : b < tN t) (hab : a ≠ b) (hn : tK t < 10) : ∃ m' : pw_Mem, fX7_addBand o (iI k) (iI f) (iI a) (iI b) m = some (iI (tK t), m') ∧ CT m' o (tryT (addB t k f a b)) ∧ ∀ c, c < o ∨ o + 11 < c → m' c = m c := by
  have e := h.1.2.1
  have hm : CT (pw_up (pw_up (pw_up (pw_up (pw_up (pw_up (pw_up (pw_up (pw_up m (o + 4) (tK t) (iI k)) (o + 5) (tK t) (iI f)) (o + 6) (tK t) (iI a)) (o + 7) (tK t) (iI b)) (o + 8) (tK t) (iI ((0 : Nat) : Int))) (o + 9) (tK t) (iI ((slk k f : Nat) : Int))) (o + 10) (tK t) (iI ((gau k : Nat) : Int))) (o + 11) (tK t) (iI ((hld k f : Nat) : Int))) o 12 (iI ((tK t + 1 : Nat) : Int))) o (addB t k f a b) := by
    obtain ⟨⟨a0, a1, a2, a3, a4⟩, hP, hB⟩ := h
    refine ⟨?_, fun q hq => ?_, fun c hc => ?_⟩
    · simp (disch := omega) only [up_eq, up_ne, up_o]
      refine ⟨a0, rfl, ?_, a3, a4⟩
      rw [a2]
      show _ = iI ((msk (upB (tX t) (tK t) false) (tK t + 1) : Nat) : Int)
      rw [msk_s, upB_eq, if_neg (by decide)]
      exact congrArg (fun z : Nat => iI z) (msk_congr fun b hb => (upB_ne (by omega)).symm)
    · simp (disch := omega) only [up_o]
      exact hP q hq
    · have hc : c < tK t + 1 := hc
      show _ = iI ((up1 (tI t) (tK t) k c : Nat) : Int) ∧ _ = iI ((up1 (tF t) (tK t) f c : Nat) : Int) ∧ _ = iI ((up1 (tO t) (tK t) a c : Nat) : Int) ∧ _ = iI ((up1 (tQ t) (tK t) b c : Nat) : Int) ∧ _ = iI ((up1 (tA t) (tK t) 0 c : Nat) : Int) ∧ _ = iI ((slk (up1 (tI t) (tK t) k c) (up1 (tF t) (tK t) f c) : Nat) : Int) ∧ _ = iI ((gau (up1 (tI t) (tK t) k c) : Nat) : Int) ∧ _ = iI ((hld (up1 (tI t) (tK t) k c) (up1 (tF t) (tK t) f c) : Nat) : Int)
      by_cases e1 : c = tK t
      · subst e1
        simp (disch := omega) only [up_eq, up_ne, up_o, up1_eq, and_self]
      · simp only [up1_ne e1]
        simp (disch := omega) only [up_ne, up_o]
        exact hB c (by omega)
  obtain ⟨m', q, g, fr⟩ := c_tryAll hm (WT_addB w hk hf ha hb hab hn)
  refine ⟨m', ?_, g, fun c hc => ?_⟩
  · unfold fX7_addBand
    have e2 : pw_up (pw_up (pw_up (pw_up (pw_up (pw_up (pw_up (pw_up m (o + 4) (tK t) (iI k)) (o + 5) (tK t) (iI f)) (o + 6) (tK t) (iI a)) (o + 7) (tK t) (iI b)) (o + 8) (tK t) (iI ((0 : Nat) : Int))) (o + 9) (tK t) (iI ((slk k f : Nat) : Int))) (o + 10) (tK t) (iI ((gau k : Nat) : Int))) (o + 11) (tK t) (iI ((hld k f : Nat) : Int)) o 12 = iI (tK t) := by
      simp (disch := omega) only [up_o]
      exact e
    simp (disch := omega) only [lt_def, e, gd_ix, iI_clN, iN_lit, c_slack, c_gauge, c_holds, bd_some, e2, iN_add, q, bd2_some]
  · rw [fr c (by omega) (by omega)]
    simp (disch := omega) only [up_oc]
theorem r_adds {m : pw_Mem} {t : TT} (h : RT m 72 t) (w : WT t) {k f a b : Nat} (hk : k ≤ 7) (hf : f ≤ 9) (ha : a < tN t) (hb : b < tN t) (hab : a ≠ b) (hn : tK t < 10) : ∃ m' : pw_Mem, fX11_adds (iI k) (iI f) (iI a) (iI b) m = some m' ∧ RT m' 72 (tryT (addB t k f a b)) ∧ ∀ c, c ≠ 72 → m' c = m c := by
  have e := h.1.2.1
  have h7 := w.1.1
  have hm : RT (pw_up (pw_up (pw_up (pw_up (pw_up (pw_up (pw_up m 72 (18 + 6 * tK t + 0) (iI k)) 72 (18 + 6 * tK t + 1) (iI f)) 72 (18 + 6 * tK t + 2) (iI a)) 72 (18 + 6 * tK t + 3) (iI b)) 72 (18 + 6 * tK t + 4) (iI ((0 : Nat) : Int))) 72 (18 + 6 * tK t + 5) (iI ((0 : Nat) : Int))) 72 1 (iI ((tK t + 1 : Nat) : Int))) 72 (addB t k f a b) := by
    obtain ⟨⟨a0, a1, a2, a3⟩, hP, hB⟩ := h
    refine ⟨?_, fun q hq => ?_, fun c hc => ?_⟩
    · simp (disch := omega) only [up_eq, up_ne]
      exact ⟨a0, rfl, a2, a3⟩
    · have hq : q < tN t := hq
      simp (disch := omega) only [up_ne]
      exact hP q hq
    · have hc : c < tK t + 1 := hc
      show _ = iI ((up1 (tI t) (tK t) k c : Nat) : Int) ∧ _ = iI ((up1 (tF t) (tK t) f c : Nat) : Int) ∧ _ = iI ((up1 (tO t) (tK t) a c : Nat) : Int) ∧ _ = iI ((up1 (tQ t) (tK t) b c : Nat) : Int) ∧ _ = iI ((up1 (tA t) (tK t) 0 c : Nat) : Int) ∧ _ = iI (if upB (tX t) (tK t) false c then 1 else 0)
      by_cases e1 : c = tK t
      · subst e1
        simp (disch := omega) only [up_eq, up_ne, up1_eq, upB_eq]
        exact ⟨trivial, trivial, trivial, trivial, trivial, rfl⟩
      · simp only [up1_ne e1, upB_ne e1]
        simp (disch := omega) only [up_ne]
        exact hB c (by omega)
  obtain ⟨m', q, g, fr⟩ := r_tries hm (WT_addB w hk hf ha hb hab hn)
  refine ⟨m', ?_, g, fun c hc => ?_⟩
  · unfold fX11_adds
    have e2 : pw_up (pw_up (pw_up (pw_up (pw_up (pw_up m 72 (18 + 6 * tK t + 0) (iI k)) 72 (18 + 6 * tK t + 1) (iI f)) 72 (18 + 6 * tK t + 2) (iI a)) 72 (18 + 6 * tK t + 3) (iI b)) 72 (18 + 6 * tK t + 4) (iI ((0 : Nat) : Int))) 72 (18 + 6 * tK t + 5) (iI ((0 : Nat) : Int)) 72 1 = iI (tK t) := by
      simp (disch := omega) only [up_ne]
      exact e
    simp (disch := omega) only [one, gd_ix, iI_clN, lt_def, e, i0]
    simp (disch := omega) only [show (2 : Int32) = iI ((2 : Nat) : Int) from rfl, show (3 : Int32) = iI ((3 : Nat) : Int) from rfl, show (4 : Int32) = iI ((4 : Nat) : Int) from rfl, show (5 : Int32) = iI ((5 : Nat) : Int) from rfl, r_of, bd_some, gd_ix, iI_clN, e2, iN_add, q, bd2_some]
  · rw [fr c hc]
    simp (disch := omega) only [up_oc]
