/-! LONGS, fractions; CALLS: mean -/
set_option maxRecDepth 100000
def lI (z : Int) : Int64 := Int64.ofInt z
theorem lI_to {a : Int} (h1 : -9223372036854775808 ≤ a) (h2 : a < 9223372036854775808) : (lI a).toInt = a := Int64.toInt_ofInt_of_le h1 h2
theorem lI_add (a b : Int) : lI a + lI b = lI (a + b) := (Int64.ofInt_add a b).symm
theorem lI_sub (a b : Int) : lI a - lI b = lI (a - b) := (Int64.ofInt_sub a b).symm
theorem lI_mul (a b : Int) : lI a * lI b = lI (a * b) := (Int64.ofInt_mul a b).symm
theorem lI_addN (a b : Nat) : lI (a : Int) + lI (b : Int) = lI ((a + b : Nat) : Int) := lI_add _ _
theorem lI_mulN (a b : Nat) : lI (a : Int) * lI (b : Int) = lI ((a * b : Nat) : Int) := lI_mul _ _
theorem lI_eq {a b : Nat} (ha : a < 9223372036854775808) (hb : b < 9223372036854775808) : lI (a : Int) = lI (b : Int) ↔ a = b := by
  rw [← Int64.toInt_inj, lI_to (by omega) (by omega), lI_to (by omega) (by omega)]
  omega
theorem i64 {a : Int} (h1 : -2147483648 ≤ a) (h2 : a < 2147483648) : (iI a).toInt64 = lI a := by
  apply Int64.toInt_inj.mp
  rw [Int32.toInt_toInt64, iI_to h1 h2, lI_to (by omega) (by omega)]
theorem i64N {a : Nat} (h2 : a < 2147483648) : (iI (a : Int)).toInt64 = lI (a : Int) := i64 (by omega) (by omega)
theorem lI_div {a b : Nat} (ha : a < 9223372036854775808) (hb0 : 0 < b) (hb : b < 9223372036854775808) : lI (a : Int) / lI (b : Int) = lI ((a / b : Nat) : Int) := by
  apply Int64.toInt_inj.mp
  have hn : lI (b : Int) ≠ -1 := by
    intro e
    have := congrArg Int64.toInt e
    rw [lI_to (by omega) (by omega)] at this
    have e2 : (-1 : Int64).toInt = -1 := by decide
    omega
  have h3 : a / b ≤ a := Nat.div_le_self a b
  have h4 : (a : Int) / (b : Int) = ((a / b : Nat) : Int) := rfl
  have h5 : (0 : Int) ≤ ((a / b : Nat) : Int) := Int.natCast_nonneg _
  rw [Int64.toInt_div_of_ne_right _ _ hn, lI_to (by omega) (by omega), lI_to (by omega) (by omega), Int.tdiv_eq_ediv_of_nonneg (by omega), h4, lI_to (by omega) (by omega)]
theorem lI_mod {a b : Nat} (ha : a < 9223372036854775808) (hb0 : 0 < b) (hb : b < 9223372036854775808) : lI (a : Int) - lI (a : Int) / lI (b : Int) * lI (b : Int) = lI ((a % b : Nat) : Int) := by
  rw [lI_div ha hb0 hb, lI_mulN, lI_sub]
  have := Nat.div_add_mod a b
  have e : a / b * b = b * (a / b) := Nat.mul_comm _ _
  exact congrArg lI (by omega)
theorem lz : (0 : Int64) = lI ((0 : Nat) : Int) := rfl
theorem lone : (1 : Int64) = lI ((1 : Nat) : Int) := rfl
theorem lc0 {l : Nat} (h : l < 9223372036854775808) : (lg_cmp (lI (l : Int)) (0 : Int64) = 0) ↔ l = 0 := by
  rw [lg_cmp_eq, lz, lI_eq h (by omega)]
theorem lcp {l : Nat} (h : l < 9223372036854775808) : (lg_cmp (lI (l : Int)) (0 : Int64) ≤ 0) ↔ l = 0 := by
  rw [lg_cmp_le, Int64.le_iff_toInt_le, lz, lI_to (by omega) (by omega), lI_to (by omega) (by omega)]
  omega
theorem ln0 {l : Nat} (h : l < 9223372036854775808) (h0 : 0 < l) : ¬ lI (l : Int) = 0 := by
  rw [lz, lI_eq h (by omega)]
  omega
theorem e_half {d l k : Nat} (h : l ≤ d) (hp : d * l < 2 ^ (k + 1)) : l * (d % l) < 2 ^ k := by
  have hk : 0 < 2 ^ k := Nat.pow_pos (by omega)
  by_cases h0 : l = 0
  · subst h0
    simpa using hk
  · have h1 := Nat.div_add_mod d l
    have h2 : 1 ≤ d / l := Nat.div_pos h (by omega)
    have h3 : l * 1 ≤ l * (d / l) := Nat.mul_le_mul_left l h2
    have h4 : d % l < l := Nat.mod_lt _ (by omega)
    have h5 : 2 * (d % l) ≤ d := by omega
    have h6 : l * (2 * (d % l)) ≤ l * d := Nat.mul_le_mul_left l h5
    have h7 : l * (2 * (d % l)) = 2 * (l * (d % l)) := Nat.mul_left_comm l 2 (d % l)
    have h8 : l * d = d * l := Nat.mul_comm l d
    have h9 : 2 ^ (k + 1) = 2 * 2 ^ k := by rw [Nat.pow_succ, Nat.mul_comm]
    omega
def frc (a b p : Nat) : Nat := if p = 0 then a / Nat.gcd a b else b / Nat.gcd a b
theorem frc_0 {b p : Nat} (hb : 0 < b) (hp : p ≤ 1) : frc 0 b p = p := by
  unfold frc
  rw [Nat.gcd_zero_left]
  by_cases h : p = 0
  · rw [if_pos h, Nat.zero_div]
    omega
  · rw [if_neg h, Nat.div_self hb]
    omega
/-- a step of Euclid's -/
def EuI (g i d l : Nat) : Prop := 0 < d ∧ d < 2 ^ 44 ∧ l < 2 ^ 44 ∧ Nat.gcd d l = g ∧ (i ≠ 0 → l ≤ d ∧ d * l < 2 ^ (89 - i))
theorem EuI_s {g i d l : Nat} (hi : i < 89) (h : EuI g i d l) (hl : l ≠ 0) : EuI g (i + 1) l (d % l) := by
  obtain ⟨h1, h2, h3, h4, h5⟩ := h
  have hm : d % l < l := Nat.mod_lt _ (by omega)
  refine ⟨by omega, h3, by omega, ?_, fun _ => ⟨by omega, ?_⟩⟩
  · rw [Nat.gcd_comm, ← Nat.gcd_rec, Nat.gcd_comm]
    exact h4
  · by_cases h0 : i = 0
    · subst h0
      have : l * (d % l) ≤ l * l := Nat.mul_le_mul_left l (by omega)
      have h7 : l * l < 2 ^ 44 * 2 ^ 44 := Nat.mul_lt_mul'' h3 h3
      rw [← Nat.pow_add] at h7
      exact Nat.lt_of_le_of_lt this h7
    · obtain ⟨h6, h7⟩ := h5 h0
      rw [show 89 - i = (89 - (i + 1)) + 1 by omega] at h7
      exact e_half h6 h7
theorem EuI_e {g d l : Nat} (h : EuI g 89 d l) : l = 0 := by
  obtain ⟨h1, h2, h3, h4, h5⟩ := h
  have h6 := (h5 (by omega)).2
  rw [show 89 - 89 = 0 by omega, Nat.pow_zero] at h6
  have : d * l = 0 := by omega
  rcases Nat.mul_eq_zero.mp this with h | h <;> omega
theorem c_frac {a b p : Nat} (m : pw_Mem) (ha : a < 2 ^ 44) (hb : 0 < b) (hb2 : b < 2 ^ 44) (hp : p ≤ 1) : fX10_partOfFraction (lI (a : Int)) (lI (b : Int)) (iI (p : Int)) m = some (lI (frc a b p : Nat)) := by
  have g0 : 0 < Nat.gcd a b := Nat.gcd_pos_of_pos_right a hb
  have gl : Nat.gcd a b ≤ b := Nat.gcd_le_right a hb
  have fin : ∀ (K : Option Int64), jn (κ := Int64 → Option Int64) (fun w6 => if (lg_cmp (lI (Nat.gcd a b : Nat)) (0 : Int64)) ≤ 0 then some w6 else gd (¬ (lI (Nat.gcd a b : Nat)) = 0) (some (w6 / (lI (Nat.gcd a b : Nat))))) (fun k10 => if iI (p : Int) = 0 then k10 (lI (a : Int)) else k10 (lI (b : Int))) = some (lI (frc a b p : Nat)) := fun _ => by
    rw [jn_def]
    simp only [if_neg (fun q => Nat.ne_of_gt g0 ((lcp (show Nat.gcd a b < 9223372036854775808 by omega)).mp q)), gd_true (ln0 (show Nat.gcd a b < 9223372036854775808 by omega) g0), lI_div (show a < 9223372036854775808 by omega) g0 (show Nat.gcd a b < 9223372036854775808 by omega), lI_div (show b < 9223372036854775808 by omega) g0 (show Nat.gcd a b < 9223372036854775808 by omega)]
    unfold frc
    by_cases h : p = 0
    · rw [if_pos h, h, if_pos (by rfl)]
    · rw [if_neg h, n0, eqF (by omega)]
  unfold fX10_partOfFraction
  refine lpI3 (fun i v1 v2 v3 => ∃ d l : Nat, v1 = lI (d : Int) ∧ v2 = lI (l : Int) ∧ v3 = iI (i : Int) ∧ EuI (Nat.gcd a b) i d l) (fun r => r = some (lI (frc a b p : Nat))) 89 (by omega) ?_ ?_ ⟨b, a, rfl, rfl, rfl, hb, hb2, ha, Nat.gcd_comm b a, fun h => absurd rfl h⟩
  · rintro nx i _ _ _ hi ⟨d, l, rfl, rfl, rfl, h⟩ hnx
    have h' := h
    obtain ⟨h1, h2, h3, h4, h5⟩ := h'
    rw [jn_def, n100, leF (by omega)]
    by_cases hl : l = 0
    · subst hl
      rw [Nat.gcd_zero_right] at h4
      subst h4
      rw [if_pos ((lc0 (by omega)).mpr rfl)]
      exact fin none
    · rw [if_neg (fun q => hl ((lc0 (by omega)).mp q)), gd_true (ln0 (by omega) (by omega)), lI_mod (by omega) (by omega) (by omega), lt_def, lt_def, inc1]
      exact hnx _ _ _ ⟨l, d % l, rfl, rfl, rfl, EuI_s hi h hl⟩
  · rintro nx _ _ _ ⟨d, l, rfl, rfl, rfl, h⟩
    have hl := EuI_e h
    subst hl
    obtain ⟨h1, h2, h3, h4, h5⟩ := h
    rw [Nat.gcd_zero_right] at h4
    subst h4
    rw [jn_def, n100, leF (by omega), if_pos ((lc0 (by omega)).mpr rfl)]
    exact fin none
theorem r_gcd {a b : Nat} (m : pw_Mem) (ha : 0 < a) (ha2 : a < 2 ^ 44) (hb2 : b < 2 ^ 44) : fX11_gcd (lI (a : Int)) (lI (b : Int)) m = some (lI (Nat.gcd a b : Nat)) := by
  unfold fX11_gcd
  refine lpI2 (fun i v1 v2 => ∃ d l : Nat, v1 = lI (d : Int) ∧ v2 = lI (l : Int) ∧ EuI (Nat.gcd a b) i d l) (fun r => r = some (lI (Nat.gcd a b : Nat))) 89 (by omega) ?_ ?_ ⟨a, b, rfl, rfl, ha, ha2, hb2, rfl, fun h => absurd rfl h⟩
  · rintro nx i _ _ hi ⟨d, l, rfl, rfl, h⟩ hnx
    have h' := h
    obtain ⟨h1, h2, h3, h4, h5⟩ := h'
    by_cases hl : l = 0
    · subst hl
      rw [Nat.gcd_zero_right] at h4
      rw [if_pos ((lc0 (by omega)).mpr rfl), h4]
    · rw [if_neg (fun q => hl ((lc0 (by omega)).mp q)), gd_true (ln0 (by omega) (by omega)), lI_mod (by omega) (by omega) (by omega), lt_def]
      exact hnx _ _ ⟨l, d % l, rfl, rfl, EuI_s hi h hl⟩
  · rintro nx _ _ ⟨d, l, rfl, rfl, h⟩
    have hl := EuI_e h
    subst hl
    obtain ⟨h1, h2, h3, h4, h5⟩ := h
    rw [Nat.gcd_zero_right] at h4
    rw [if_pos ((lc0 (by omega)).mpr rfl), h4]
theorem r_frac {a b p : Nat} (m : pw_Mem) (ha : a < 2 ^ 44) (hb : a = 0 ∨ 0 < b) (hb2 : b < 2 ^ 44) (hp : p ≤ 1) : fX11_partOf (lI (a : Int)) (lI (b : Int)) (iI (p : Int)) m = some (lI (frc a (if b = 0 then 1 else b) p : Nat)) := by
  unfold fX11_partOf
  by_cases h0 : a = 0
  · subst h0
    rw [if_pos ((lc0 (by omega)).mpr rfl), i64N (by omega), frc_0 (by split <;> omega) hp]
  · have hb' : 0 < b := by omega
    have g0 : 0 < Nat.gcd a b := Nat.gcd_pos_of_pos_right a hb'
    have gl : Nat.gcd a b ≤ b := Nat.gcd_le_right a hb'
    rw [if_neg (fun q => h0 ((lc0 (by omega)).mp q)), if_neg (show ¬ b = 0 by omega)]
    unfold frc
    by_cases h : p = 0
    · rw [if_pos h, h, if_pos (by rfl), r_gcd m (by omega) ha hb2, bd_some, gd_true (ln0 (by omega) g0), lI_div (by omega) g0 (by omega)]
    · rw [if_neg h, n0, eqF (by omega), r_gcd m (by omega) ha hb2, bd_some, gd_true (ln0 (by omega) g0), lI_div (by omega) g0 (by omega)]
-- how many are whole
theorem cnt_not (P : Nat → Bool) : ∀ k, cnt (fun b => !P b) k + cnt P k = k
  | 0 => rfl
  | k + 1 => by
    have ih := cnt_not P k
    simp only [cnt]
    by_cases hp : P k = true
    · simp only [hp, Bool.not_true, if_true, Bool.false_eq_true, if_false]
      omega
    · simp only [hp, Bool.not_false, if_true, Bool.false_eq_true, if_false]
      omega
def nWh (t : TT) : Nat := cnt (fun b => !tX t b) (tK t)
theorem whl_cnt {t : TT} (w : WT t) : cnt (fun b => (whl t).testBit b) 10 = nWh t := by
  unfold nWh
  rw [← cnt_cut (fun b => !tX t b) (tK t) 10 w.1.2.1]
  refine cnt_congr fun b _ => ?_
  unfold whl
  rw [andn_bit, Nat.testBit_two_pow_sub_one, msk_bit]
  by_cases h : b < tK t
  · simp [h]
  · simp [h]
def sWh (t : TT) (b : Nat) : Nat := if tX t b then 0 else strt t b
theorem sWh_le {t : TT} (w : WT t) {i : Nat} (hi : i ≤ tK t) : sumN (sWh t) i ≤ 300 := by
  have h1 := sumN_le (f := sWh t) (c := 30) (k := i) (fun b hb => by
    have := strt_le w (b := b) (by omega)
    unfold sWh
    split <;> omega)
  have h2 := w.1.2.1
  omega
theorem sWh_0 {t : TT} (h : nWh t = 0) : sumN (sWh t) (tK t) = 0 := by
  have := cnt_0 h
  have z : ∀ k, k ≤ tK t → sumN (sWh t) k = 0 := by
    intro k
    induction k with
    | zero => intro _; rfl
    | succ k ih =>
      intro hk
      have e := this k (by omega)
      simp only [sumN, ih (by omega)]
      unfold sWh
      cases hx : tX t k
      · rw [hx] at e
        exact absurd e (by decide)
      · rfl
  exact z _ (Nat.le_refl _)
theorem c_stW {m : pw_Mem} {t : TT} (h : CT m 1 t) (w : WT t) : fX7_stretchOfWhole 1 m = some (iI (sumN (sWh t) (tK t) : Nat)) := by
  have hk := w.1.2.1
  unfold fX7_stretchOfWhole
  refine lpI2 (fun i v1 v2 => v1 = iI (sumN (sWh t) i : Nat) ∧ v2 = iI (i : Nat)) (fun r => r = some (iI (sumN (sWh t) (tK t) : Nat))) (tK t) (by omega) ?_ ?_ ⟨rfl, rfl⟩
  · rintro nx i _ _ hi ⟨rfl, rfl⟩ hnx
    rw [h.1.2.1, leF (by omega), c_isSnapped h w hi, bd_some, jn_def]
    have e : sumN (sWh t) (i + 1) = sumN (sWh t) i + sWh t i := rfl
    cases hx : tX t i
    · rw [itF, c_stretch h w hi, bd_some]
      simp only [iN_add, lt_def, inc1]
      exact hnx _ _ ⟨by rw [e]; unfold sWh; rw [hx, itF], rfl⟩
    · rw [itT, n0]
      simp only [iN_add, lt_def, inc1]
      exact hnx _ _ ⟨by rw [e]; unfold sWh; rw [hx, itT], rfl⟩
  · rintro nx _ _ ⟨rfl, rfl⟩
    rw [h.1.2.1, leT (by omega)]
theorem op_mean {m : pw_Mem} (hs : Sim m) (a : Int32) : OpRR (fX10_mean a) (fX11_mean a) m := by
  obtain ⟨s, hC, hM, w⟩ := hs
  obtain ⟨z, rfl, h1, h2⟩ := rg a
  have w1 := w.1.1
  have hk := w1.1.2.1
  by_cases c : 0 ≤ z ∧ z ≤ 1
  · obtain ⟨p, rfl⟩ := Int.eq_ofNat_of_zero_le c.1
    have hsum := sWh_le w1 (Nat.le_refl (tK s.1))
    have hn : nWh s.1 + cnt (tX s.1) (tK s.1) = tK s.1 := cnt_not _ _
    have hc := whl_cnt w1
    have hwl := whl_lt w1
    have hz := sWh_0 (t := s.1)
    refine ⟨lI (frc (sumN (sWh s.1) (tK s.1)) (if nWh s.1 = 0 then 1 else nWh s.1) p : Nat), ?_, ?_⟩
    · unfold fX10_mean
      rw [upTo1 _ h1 h2, bd_some, ite_dec, if_pos c, c_snappedCount hC.1 w1, bd_some, hC.1.1.2.1, iI_sub, lt_def, c_stW hC.1 w1, bd_some, i64N (by omega), n1]
      by_cases q : nWh s.1 = 0
      · rw [leF (by omega), lone, c_frac _ (by omega) (by omega) (by omega) (by omega), bd_some, if_pos q]
      · rw [leT (by omega), show (tK s.1 : Int) - (cnt (tX s.1) (tK s.1) : Nat) = (nWh s.1 : Nat) by omega, i64N (by omega), c_frac _ (by omega) (by omega) (by omega) (by omega), bd_some, if_neg q]
    · have hR := hM.1
      have eK : m 72 (1 : Int32).toNatClampNeg = iI (tK s.1 : Nat) := hR.1.2.1
      unfold fX11_mean
      rw [isIn01 _ h1 h2, bd_some, ite_dec, if_pos c]
      refine lpI2 (fun i v1 v2 => v1 = lI (sumN (sWh s.1) i : Nat) ∧ v2 = iI (i : Nat)) (fun r => r = _) (tK s.1) (by omega) ?_ ?_ ⟨rfl, rfl⟩
      · rintro nx i _ _ hi ⟨rfl, rfl⟩ hnx
        have e : sumN (sWh s.1) (i + 1) = sumN (sWh s.1) i + sWh s.1 i := rfl
        have st := strt_le w1 hi
        rw [gd_true (by decide), eK, leF (by omega), r_isWhole hR w1 hi, bd_some, jn_def]
        cases hx : tX s.1 i
        · rw [if_pos (by rfl), r_stretch hR w1 hi, bd_some, i64N (by omega)]
          simp only [lI_addN, lt_def, inc1]
          exact hnx _ _ ⟨by rw [e]; unfold sWh; rw [hx, itF], rfl⟩
        · rw [if_neg (by decide), lz]
          simp only [lI_addN, lt_def, inc1]
          exact hnx _ _ ⟨by rw [e]; unfold sWh; rw [hx, itT], rfl⟩
      · rintro nx _ _ ⟨rfl, rfl⟩
        rw [gd_true (by decide), eK, leT (by omega), r_wholeSet hR w1, bd_some, r_bits (by omega), bd_some, hc, i64N (by omega), r_frac _ (by omega) (by
          by_cases q : nWh s.1 = 0
          · exact Or.inl (hz q)
          · exact Or.inr (by omega)) (by omega) (by omega), bd_some]
  · refine ⟨1000000001, ?_, ?_⟩
    · unfold fX10_mean
      rw [upTo1 _ h1 h2, bd_some, ite_dec, if_neg c]
    · unfold fX11_mean
      rw [isIn01 _ h1 h2, bd_some, ite_dec, if_neg c]
