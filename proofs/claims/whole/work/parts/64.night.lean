/-! CALLS: night -/
set_option maxRecDepth 100000
theorem cnt_bot (P : Nat → Bool) : ∀ n, cnt P (n + 1) = (if P 0 = true then 1 else 0) + cnt (fun i => P (i + 1)) n
  | 0 => by
    show 0 + (if P 0 = true then 1 else 0) = (if P 0 = true then 1 else 0) + 0
    omega
  | n + 1 => by
    have ih := cnt_bot P n
    have e1 : cnt P (n + 1 + 1) = cnt P (n + 1) + (if P (n + 1) = true then 1 else 0) := rfl
    have e2 : cnt (fun i => P (i + 1)) (n + 1) = cnt (fun i => P (i + 1)) n + (if P (n + 1) = true then 1 else 0) := rfl
    rw [e1, e2, ih]
    omega
/-- how many of the n bands from k on are whole -/
def nwR (t : TT) (n k : Nat) : Nat := cnt (fun i => !tX t (k + i)) n
theorem nwR_s (t : TT) (n k : Nat) : nwR t (n + 1) k = (if tX t k = true then 0 else 1) + nwR t n (k + 1) := by
  unfold nwR
  rw [cnt_bot]
  have e : cnt (fun i => !tX t (k + (i + 1))) n = cnt (fun i => !tX t (k + 1 + i)) n := cnt_congr fun i _ => by rw [show k + (i + 1) = k + 1 + i by omega]
  rw [e, Nat.add_zero]
  cases tX t k <;> rfl
theorem nwR_le (t : TT) (n k : Nat) : nwR t n k ≤ n := cnt_le _ _
def c01 (b : Bool) : Nat := if b = true then 1 else 0
/-- the ways of the n bands from k on, S having stayed -/
def wy (t : TT) (a b T : Nat) : Nat → Nat → Nat → Nat
  | 0, _, S => c01 (conn t S a b)
  | n + 1, k, S => if tX t k = true then wy t a b T n (k + 1) S else wy t a b T n (k + 1) S + (T - 1) * wy t a b T n (k + 1) (S ||| 2 ^ k)
theorem wy_s (t : TT) (a b T n k S : Nat) : wy t a b T (n + 1) k S = if tX t k = true then wy t a b T n (k + 1) S else wy t a b T n (k + 1) S + (T - 1) * wy t a b T n (k + 1) (S ||| 2 ^ k) := rfl
theorem pw_T1 {T x : Nat} (hT : 1 ≤ T) : x + (T - 1) * x = T * x := by
  obtain ⟨u, rfl⟩ : ∃ u, T = u + 1 := ⟨T - 1, by omega⟩
  rw [show u + 1 - 1 = u by omega, Nat.succ_mul]
  omega
theorem wy_1 {t : TT} (w : WT t) {a b T : Nat} (hT : 1 ≤ T) (ha : a < tN t) (hb : b < tN t) : ∀ n k S, conn t S a b = true → wy t a b T n k S = T ^ nwR t n k
  | 0, k, S, h => by
    show c01 (conn t S a b) = T ^ 0
    rw [h]
    rfl
  | n + 1, k, S, h => by
    have h2 : conn t (S ||| 2 ^ k) a b = true := conn_m w (fun c _ q => by rw [sb_or, q]; rfl) ha hb h
    rw [wy_s, nwR_s, wy_1 w hT ha hb n (k + 1) S h, wy_1 w hT ha hb n (k + 1) _ h2]
    cases tX t k
    · rw [itF, itF, pw_T1 hT, Nat.pow_add, Nat.pow_one]
    · rw [itT, itT, Nat.zero_add]
theorem wy_le {t : TT} {a b T : Nat} (hT : 1 ≤ T) : ∀ n k S, wy t a b T n k S ≤ T ^ nwR t n k
  | 0, k, S => by
    show c01 (conn t S a b) ≤ T ^ 0
    unfold c01
    split
    · exact Nat.le_refl _
    · exact Nat.zero_le _
  | n + 1, k, S => by
    have h1 := wy_le (t := t) (a := a) (b := b) hT n (k + 1) S
    have h2 := wy_le (t := t) (a := a) (b := b) hT n (k + 1) (S ||| 2 ^ k)
    rw [wy_s, nwR_s]
    cases tX t k
    · rw [itF, itF, Nat.pow_add, Nat.pow_one, ← pw_T1 hT]
      exact Nat.add_le_add h1 (Nat.mul_le_mul_left _ h2)
    · rw [itT, itT, Nat.zero_add]
      exact h1
/-- what hangs together alike has as many ways -/
theorem wy_eq {t : TT} (w : WT t) {a b T : Nat} (ha : a < tN t) (hb : b < tN t) : ∀ n k S1 S2, k + n ≤ tK t → (∀ p q, p < tN t → q < tN t → (conn t S1 p q = true ↔ conn t S2 p q = true)) → wy t a b T n k S1 = wy t a b T n k S2
  | 0, k, S1, S2, _, h => by
    show c01 (conn t S1 a b) = c01 (conn t S2 a b)
    have := h a b ha hb
    cases h1 : conn t S1 a b
    · cases h2 : conn t S2 a b
      · rfl
      · rw [this.mpr h2] at h1
        exact absurd h1 (by decide)
    · rw [this.mp h1]
  | n + 1, k, S1, S2, hk, h => by
    rw [wy_s, wy_s, wy_eq w ha hb n (k + 1) S1 S2 (by omega) h]
    by_cases hx : tX t k = true
    · rw [if_pos hx, if_pos hx]
    · have hx' : tX t k = false := by simpa using hx
      obtain ⟨-, -, l1, l2, -, -⟩ := w.2.2 k (by omega)
      rw [if_neg hx, if_neg hx, wy_eq w ha hb n (k + 1) (S1 ||| 2 ^ k) (S2 ||| 2 ^ k) (by omega) (fun p q hp hq => by
        rw [conn_J w (by omega) hx' hp hq, conn_J w (by omega) hx' hp hq]
        unfold cJ
        rw [h p q hp hq, h p _ hp l1, h p _ hp l2, h _ q l2 hq, h _ q l1 hq])]
/-- the topmost band first -/
theorem wy_top {t : TT} {a b T : Nat} : ∀ n k S, wy t a b T (n + 1) k S = if tX t (k + n) = true then wy t a b T n k S else wy t a b T n k S + (T - 1) * wy t a b T n k (S ||| 2 ^ (k + n))
  | 0, k, S => rfl
  | n + 1, k, S => by
    have oc : S ||| 2 ^ k ||| 2 ^ (k + (n + 1)) = S ||| 2 ^ (k + (n + 1)) ||| 2 ^ k := by rw [Nat.or_assoc, Nat.or_comm (2 ^ k), ← Nat.or_assoc]
    rw [wy_s t a b T (n + 1) k S, wy_top n (k + 1) S, wy_top n (k + 1) (S ||| 2 ^ k), wy_s t a b T n k S, wy_s t a b T n k (S ||| 2 ^ (k + (n + 1))), show k + 1 + n = k + (n + 1) by omega, oc]
    cases tX t k
    · rw [itF, itF, itF]
      cases tX t (k + (n + 1))
      · rw [itF, itF, itF]
        simp only [Nat.mul_add]
        omega
      · rw [itT, itT, itT]
    · rw [itT, itT, itT]
def tmN (t : TT) (a b T S v : Nat) : Nat := if okV t v = true then (T - 1) ^ cb10 v * c01 (conn t (S ||| v) a b) else 0
theorem okV_top {t : TT} {n v : Nat} (hn : n < tK t) (hv : v < 2 ^ n) : okV t (2 ^ n ||| v) = (!tX t n && okV t v) := by
  have key : okV t (2 ^ n ||| v) = true ↔ (!tX t n && okV t v) = true := by
    rw [Bool.and_eq_true]
    unfold okV
    rw [allB_t, allB_t]
    constructor
    · intro h
      refine ⟨?_, fun p hp => ?_⟩
      · have := h n hn
        rw [Nat.testBit_or, Nat.testBit_two_pow] at this
        simpa using this
      · have := h p hp
        rw [Nat.testBit_or] at this
        cases q : v.testBit p
        · rfl
        · rw [q] at this
          simpa using this
    · rintro ⟨h1, h2⟩ p hp
      have := h2 p hp
      rw [Nat.testBit_or, Nat.testBit_two_pow]
      by_cases e : n = p
      · subst e
        cases q : tX t n
        · simp
        · rw [q] at h1
          exact absurd h1 (by decide)
      · rw [decide_eq_false e, Bool.false_or]
        exact this
  cases h1 : okV t (2 ^ n ||| v)
  · cases h2 : (!tX t n && okV t v)
    · rfl
    · rw [key.mpr h2] at h1
      exact absurd h1 (by decide)
  · exact (key.mp h1).symm
theorem cb_pow : ∀ n : Nat, n < 10 → cb10 (2 ^ n) = 1 := fun n hn => co_dec (P := fun n => cb10 (2 ^ n) = 1) (N := 10) (by decide +kernel) hn
theorem cb_top {n v : Nat} (hn : n < 10) (hv : v < 2 ^ n) : cb10 (2 ^ n ||| v) = cb10 v + 1 := by
  have h : cb10 (2 ^ n) + cb10 v = cnt (fun b => ((2 : Nat) ^ n).testBit b || v.testBit b) 10 := cnt_or (P := fun b => ((2 : Nat) ^ n).testBit b) (Q := fun b => v.testBit b) (fun b _ q => by
    rw [Nat.testBit_two_pow] at q
    have : n = b := by simpa using q
    subst this
    exact Nat.testBit_lt_two_pow hv)
  have e : cb10 (2 ^ n ||| v) = cnt (fun b => (2 ^ n).testBit b || v.testBit b) 10 := cnt_congr fun b _ => Nat.testBit_or _ _ _
  rw [e, ← h, cb_pow n hn, Nat.add_comm]
theorem sumN_split (f : Nat → Nat) (m : Nat) : ∀ n, sumN f (m + n) = sumN f m + sumN (fun i => f (m + i)) n
  | 0 => rfl
  | n + 1 => by
    have ih := sumN_split f m n
    have e1 : sumN f (m + (n + 1)) = sumN f (m + n) + f (m + n) := rfl
    have e2 : sumN (fun i => f (m + i)) (n + 1) = sumN (fun i => f (m + i)) n + f (m + n) := rfl
    rw [e1, e2, ih]
    omega
theorem sumN_mul (f : Nat → Nat) (c : Nat) : ∀ n, sumN (fun i => c * f i) n = c * sumN f n
  | 0 => rfl
  | n + 1 => by simp only [sumN, sumN_mul f c n, Nat.mul_add]
theorem sumN_z {f : Nat → Nat} : ∀ {n : Nat}, (∀ i, i < n → f i = 0) → sumN f n = 0
  | 0, _ => rfl
  | n + 1, h => by simp only [sumN, sumN_z (n := n) (fun i hi => h i (by omega)), h n (by omega)]
theorem wy_sum {t : TT} (w : WT t) {a b T : Nat} : ∀ n, n ≤ tK t → ∀ S, wy t a b T n 0 S = sumN (tmN t a b T S) (2 ^ n)
  | 0, _, S => by
    have e : sumN (tmN t a b T S) (2 ^ 0) = 0 + tmN t a b T S 0 := rfl
    have c0 : cb10 0 = 0 := cnt_z fun b _ => Nat.zero_testBit b
    rw [e]
    unfold tmN
    rw [okV_0, itT, Nat.or_zero, c0, Nat.pow_zero, Nat.one_mul, Nat.zero_add]
    rfl
  | n + 1, hn, S => by
    have hk := w.1.2.1
    have e1 : sumN (tmN t a b T S) (2 ^ (n + 1)) = sumN (tmN t a b T S) (2 ^ n) + sumN (fun i => tmN t a b T S (2 ^ n + i)) (2 ^ n) := by
      rw [Nat.pow_succ, show 2 ^ n * 2 = 2 ^ n + 2 ^ n by omega, sumN_split]
    have e2 : ∀ i, i < 2 ^ n → tmN t a b T S (2 ^ n + i) = if tX t n = true then 0 else (T - 1) * tmN t a b T (S ||| 2 ^ n) i := fun i hi => by
      have hor : 2 ^ n + i = 2 ^ n ||| i := by
        have h := Nat.two_pow_add_eq_or_of_lt hi 1
        rw [Nat.mul_one] at h
        exact h
      unfold tmN
      rw [hor, okV_top (by omega) hi, cb_top (by omega) hi, ← Nat.or_assoc]
      cases tX t n
      · rw [itF]
        cases okV t i
        · rfl
        · rw [show (!false && true) = true from rfl, itT, itT, Nat.pow_succ, Nat.mul_comm ((T - 1) ^ cb10 i) (T - 1), Nat.mul_assoc]
      · rfl
    rw [wy_top, e1, Nat.zero_add, wy_sum w n (by omega) S, wy_sum w n (by omega) (S ||| 2 ^ n), sumN_congr e2]
    cases tX t n
    · rw [itF]
      simp only [Bool.false_eq_true, if_false]
      rw [sumN_mul]
    · rw [itT]
      simp only [if_true]
      rw [sumN_z (fun _ _ => rfl), Nat.add_zero]
theorem okV_le {t : TT} (w : WT t) {v : Nat} (hv : v < 2 ^ tK t) (h : okV t v = true) : v ≤ whl t := by
  have e := (ok_andn w hv).mpr h
  have : v = v &&& whl t := by
    apply Nat.eq_of_testBit_eq
    intro i
    have := congrArg (fun z => z.testBit i) e
    simp only [andn_bit, Nat.zero_testBit] at this
    rw [Nat.testBit_and]
    cases q : v.testBit i
    · rfl
    · rw [q] at this
      cases r : (whl t).testBit i
      · rw [r] at this
        exact absurd this (by decide)
      · rfl
  rw [this]
  exact Nat.and_le_right
theorem wh_lt {t : TT} : whl t < 2 ^ tK t := by
  have hp0 : 0 < 2 ^ tK t := Nat.pow_pos (by omega)
  unfold whl
  exact andn_lt (by omega)
theorem wy_whl {t : TT} (w : WT t) {a b T : Nat} : wy t a b T (tK t) 0 0 = sumN (tmN t a b T 0) (whl t + 1) := by
  have hl := wh_lt (t := t)
  have e : 2 ^ tK t = (whl t + 1) + (2 ^ tK t - (whl t + 1)) := by omega
  have hz : sumN (fun i => tmN t a b T 0 (whl t + 1 + i)) (2 ^ tK t - (whl t + 1)) = 0 := sumN_z fun i hi => by
    unfold tmN
    cases q : okV t (whl t + 1 + i)
    · rfl
    · have := okV_le w (by omega) q
      omega
  rw [wy_sum w (tK t) (Nat.le_refl _), e, sumN_split, hz, Nat.add_zero]
-- powers
theorem c_power (T n : Nat) (m : pw_Mem) (hT : T < 100000) (hn : n < 1000) : fX0_power (iI (T : Int)) (iI (n : Int)) m = some (lI (T ^ n : Nat)) := by
  unfold fX0_power
  refine lpI2 (fun i v1 v2 => v1 = lI ((T ^ i : Nat) : Int) ∧ v2 = iI (i : Nat)) (fun r => r = some (lI (T ^ n : Nat))) n (by omega) ?_ ?_ ⟨rfl, rfl⟩
  · rintro nx i _ _ hi ⟨rfl, rfl⟩ hnx
    rw [leF (by omega), i64N (by omega), lI_mulN, lt_def, lt_def, inc1]
    exact hnx _ _ ⟨by rw [Nat.pow_succ], rfl⟩
  · rintro nx _ _ ⟨rfl, rfl⟩
    rw [leT (by omega)]
-- the class's recursion
theorem c_lowP {x : Nat} {c : Nat} (m : pw_Mem) (hc : c < 10) (hx : x < 1024) (h1 : x.testBit c = true) (h2 : ∀ d, d < c → x.testBit d = false) : fX10_lowestOf (iI (x : Int)) m = some (iI (c : Nat)) := by
  have e : msk (fun b => x.testBit b) 10 = x := msk_self (k := 10) hx
  have hne : msk (fun b => x.testBit b) 10 ≠ 0 := fun z => by
    have := msk_0 z c hc
    rw [h1] at this
    exact absurd this (by decide)
  have := c_lowestOf (P := fun b => x.testBit b) (k := 10) (Nat.le_refl _) hne m
  rw [e, lowN_at h1 (Nat.zero_le _) (by omega) h2] at this
  exact this
theorem pair2 : ∀ a : Nat, a < 7 → ∀ b : Nat, b < 7 → a < b → (2 ^ a ||| 2 ^ b) &&& ((2 ^ a ||| 2 ^ b) - 1) = 2 ^ b := fun a ha => co_dec (P := fun a => ∀ b : Nat, b < 7 → a < b → (2 ^ a ||| 2 ^ b) &&& ((2 ^ a ||| 2 ^ b) - 1) = 2 ^ b) (N := 7) (by decide +kernel) ha
theorem c_one1 {L a b : Nat} (m : pw_Mem) (hL : L < 2 ^ 21) (hab : a < b) (hb : b < 7) : fX0_isOneClan (iI (L : Int)) (iI ((2 ^ a ||| 2 ^ b : Nat) : Int)) m = some (decide (lab L a = lab L b)) := by
  have p1 : (2 : Nat) ^ a < 2 ^ 7 := Nat.pow_lt_pow_right (by omega) (by omega)
  have p2 : (2 : Nat) ^ b < 2 ^ 7 := Nat.pow_lt_pow_right (by omega) hb
  have p3 : 0 < (2 : Nat) ^ a := Nat.pow_pos (by omega)
  have hor : 2 ^ a ||| 2 ^ b < 2 ^ 7 := Nat.or_lt_two_pow p1 p2
  have hge : 2 ^ a ≤ 2 ^ a ||| 2 ^ b := Nat.left_le_or
  obtain ⟨X, hX⟩ : ∃ X, X = 2 ^ a ||| 2 ^ b := ⟨_, rfl⟩
  have hpr := pair2 a (by omega) b hb hab
  rw [← hX] at hor hge hpr
  have f1 : X.testBit a = true := by
    rw [hX, Nat.testBit_or, Nat.testBit_two_pow]
    simp
  have f2 : ∀ d, d < a → X.testBit d = false := fun d hd => by
    rw [hX, Nat.testBit_or, Nat.testBit_two_pow, Nat.testBit_two_pow]
    have z1 : ¬ a = d := by omega
    have z2 : ¬ b = d := by omega
    simp [z1, z2]
  have g1 : (2 ^ b).testBit b = true := by
    rw [Nat.testBit_two_pow]
    simp
  have g2 : ∀ d, d < b → (2 ^ b).testBit d = false := fun d hd => by
    rw [Nat.testBit_two_pow]
    have z2 : ¬ b = d := by omega
    simp [z2]
  have es : iI (X : Int) - 1 = iI ((X - 1 : Nat) : Int) := by
    have : iI (X : Int) - 1 = iI ((X : Int) - 1) := iI_sub _ 1
    rw [this]
    exact congrArg iI (by omega)
  have l1 := lab_lt L a
  have l2 := lab_lt L b
  rw [← hX]
  unfold fX0_isOneClan
  rw [c_lowP m (by omega) (by omega) f1 f2, bd_some, es, iI_and (by omega) (by omega), hpr, c_lowP m (by omega) (by omega) g1 g2, bd_some, c_lab m hL (by omega), bd_some, c_lab m hL hb, bd_some]
  by_cases k : lab L a = lab L b
  · rw [eqT (by omega), decide_eq_true k]
  · rw [eqF (by omega), decide_eq_false k]
theorem c_one {L a b : Nat} (m : pw_Mem) (hL : L < 2 ^ 21) (hab : a ≠ b) (ha : a < 7) (hb : b < 7) : fX0_isOneClan (iI (L : Int)) (iI ((2 ^ a ||| 2 ^ b : Nat) : Int)) m = some (decide (lab L a = lab L b)) := by
  rcases Nat.lt_or_gt_of_ne hab with h | h
  · exact c_one1 m hL h hb
  · rw [Nat.or_comm, c_one1 m hL h ha]
    exact congrArg some (decide_eq_decide.mpr ⟨Eq.symm, Eq.symm⟩)
theorem c_ways {m : pw_Mem} {t : TT} (h : CT m 1 t) (w : WT t) {a b T : Nat} (ha : a < tN t) (hb : b < tN t) (hab : a ≠ b) (hT : 1 ≤ T) (hT2 : T ≤ 20) : ∀ n k S L f, k + n = tK t → n < f → LabI t S L → fX0_waysTiedR f 1 (iI (k : Int)) (iI (L : Int)) (iI ((2 ^ a ||| 2 ^ b : Nat) : Int)) (iI (T : Int)) m = some (lI (wy t a b T n k S : Nat)) := by
  have hk10 := w.1.2.1
  have h7 := w.1.1
  intro n
  induction n with
  | zero =>
    intro k S L f hkn hf hL
    obtain ⟨g, rfl⟩ : ∃ g, f = g + 1 := ⟨f - 1, by omega⟩
    unfold fX0_waysTiedR
    rw [c_one m hL.1 hab (by omega) (by omega), bd_some, ite_dec]
    by_cases c : lab L a = lab L b
    · have cc := (hL.2 a b ha hb).mp c
      have mb := msk_lt' (tX t) hk10
      have hd : msk (tX t) (tK t) / 2 ^ k = 0 := by
        have := msk_lt (tX t) (tK t)
        rw [show k = tK t by omega]
        exact Nat.div_eq_of_lt this
      have e : iI ((msk (tX t) (tK t) : Nat) : Int) >>> (iI (k : Int) &&& 31) = iI ((msk (tX t) (tK t) / 2 ^ k : Nat) : Int) := iI_shr (by omega) (by omega)
      have bc : fJ6_bitCount_0f7a4 (iI ((0 : Nat) : Int)) m = some (iI ((cnt (fun b => (0 : Nat).testBit b) 10 : Nat) : Int)) := c_bits (by omega) m
      rw [cnt_z (fun b _ => Nat.zero_testBit b)] at bc
      rw [if_pos c, h.1.2.2.1, e, hd, bc, bd_some, h.1.2.1, iI_sub, iI_sub, show (tK t : Int) - (k : Int) - ((0 : Nat) : Int) = ((0 : Nat) : Int) by omega, c_power _ _ _ (by omega) (by omega), bd_some]
      show some (lI ((T ^ 0 : Nat) : Int)) = some (lI ((c01 (conn t S a b) : Nat) : Int))
      rw [cc]
      rfl
    · rw [if_neg c, h.1.2.1, ltF (by omega)]
      show some (0 : Int64) = some (lI ((c01 (conn t S a b) : Nat) : Int))
      have : conn t S a b = false := by
        cases q : conn t S a b
        · rfl
        · exact absurd ((hL.2 a b ha hb).mpr q) c
      rw [this]
      rfl
  | succ n ih =>
    intro k S L f hkn hf hL
    obtain ⟨g, rfl⟩ : ∃ g, f = g + 1 := ⟨f - 1, by omega⟩
    have hkK : k < tK t := by omega
    obtain ⟨-, -, l1, l2, l3, -⟩ := w.2.2 k hkK
    unfold fX0_waysTiedR
    rw [c_one m hL.1 hab (by omega) (by omega), bd_some, ite_dec]
    by_cases c : lab L a = lab L b
    · have cc := (hL.2 a b ha hb).mp c
      have mb := msk_lt' (tX t) hk10
      have dl : msk (tX t) (tK t) / 2 ^ k ≤ msk (tX t) (tK t) := Nat.div_le_self _ _
      have e : iI ((msk (tX t) (tK t) : Nat) : Int) >>> (iI (k : Int) &&& 31) = iI ((msk (tX t) (tK t) / 2 ^ k : Nat) : Int) := iI_shr (by omega) (by omega)
      have bc : fJ6_bitCount_0f7a4 (iI ((msk (tX t) (tK t) / 2 ^ k : Nat) : Int)) m = some (iI ((cnt (fun b => (msk (tX t) (tK t) / 2 ^ k).testBit b) 10 : Nat) : Int)) := c_bits (by omega) m
      have ec : cnt (fun b => (msk (tX t) (tK t) / 2 ^ k).testBit b) 10 = cnt (fun i => tX t (k + i)) (n + 1) := by
        rw [← cnt_cut (fun i => tX t (k + i)) (n + 1) 10 (by omega)]
        refine cnt_congr fun i _ => ?_
        rw [Nat.testBit_div_two_pow, msk_bit, Nat.add_comm i k]
        by_cases z : i < n + 1
        · rw [decide_eq_true z, decide_eq_true (show k + i < tK t by omega)]
        · rw [decide_eq_false z, decide_eq_false (show ¬ k + i < tK t by omega)]
      have en : nwR t (n + 1) k + cnt (fun i => tX t (k + i)) (n + 1) = n + 1 := cnt_not _ _
      rw [if_pos c, h.1.2.2.1, e, bc, bd_some, ec, h.1.2.1, iI_sub, iI_sub, show (tK t : Int) - (k : Int) - ((cnt (fun i => tX t (k + i)) (n + 1) : Nat) : Int) = (nwR t (n + 1) k : Nat) by omega, c_power _ _ _ (by omega) (by omega), bd_some, wy_1 w hT ha hb _ _ _ cc]
    · have i1 := ih (k + 1) S L g (by omega) (by omega) hL
      rw [if_neg c, h.1.2.1, ltT (by omega), inc1, i1, bd_some, c_isSnapped h w hkK, bd_some, wy_s]
      cases hx : tX t k
      · obtain ⟨⟨eO, eQ, -, -⟩, k1, k2, k3, -, -⟩ := c_pq h w hkK
        have lb1 := lab_lt L (tO t k)
        have lb2 := lab_lt L (tQ t k)
        rw [itF, gdN (by omega), eO, c_lab m hL.1 (by omega), bd_some, gdN (by omega), eQ, c_lab m hL.1 (by omega), bd_some, itF]
        by_cases k4 : lab L (tO t k) = lab L (tQ t k)
        · have cs := (hL.2 _ _ l1 l2).mp k4
          have we := wy_eq (T := T) w ha hb n (k + 1) (S ||| 2 ^ k) S (by omega) (fun p q hp hq => conn_same w hkK hx cs hp hq)
          rw [eqT (by omega), i64N (by omega), lI_mulN, we, pw_T1 hT]
        · obtain ⟨L2, g1, g2, g3⟩ := c_merged m hL.1 lb1 lb2
          have i2 := ih (k + 1) (S ||| 2 ^ k) L2 g (by omega) (by omega) (lab_merge w hL hkK hx g1 g3)
          have eT : (iI (T : Int) - 1).toInt64 = lI ((T - 1 : Nat) : Int) := by
            have : iI (T : Int) - 1 = iI ((T : Int) - 1) := iI_sub _ 1
            rw [this, i64 (by omega) (by omega)]
            exact congrArg lI (by omega)
          rw [eqF (by omega), g2, bd_some, i2, bd_some, eT, lI_mulN, lI_addN]
      · rw [itT, itT]
theorem c_still {m : pw_Mem} {t : TT} (h : CT m 1 t) (w : WT t) {a b T : Nat} (ha : a < tN t) (hb : b < tN t) (hab : a ≠ b) (hT : 1 ≤ T) (hT2 : T ≤ 20) : fX0_waysStillTied (iI (a : Int)) (iI (b : Int)) (iI (T : Int)) m = some (lI (wy t a b T (tK t) 0 0 : Nat)) := by
  have hk10 := w.1.2.1
  have h7 := w.1.1
  unfold fX0_waysStillTied
  refine lpI2 (fun i v1 v2 => ∃ L : Nat, v1 = iI (L : Int) ∧ v2 = iI (i : Nat) ∧ L < 2 ^ 21 ∧ ∀ q, lab L q = if q < i then q else 0) (fun r => r = some (lI (wy t a b T (tK t) 0 0 : Nat))) (tN t) (by omega) ?_ ?_ ⟨0, rfl, rfl, by omega, fun q => by
    rw [if_neg (by omega)]
    unfold lab
    rw [Nat.zero_div, Nat.zero_and]⟩
  · rintro nx i _ _ hi ⟨L, rfl, rfl, hL, hq⟩ hnx
    obtain ⟨t1, t2⟩ := sh3 i (by omega) i (by omega)
    rw [h.1.1, leF (by omega), e3p, t1, iI_or (by omega) (by omega), lt_def, lt_def, inc1]
    refine hnx _ _ ⟨_, rfl, rfl, Nat.or_lt_two_pow hL t2, fun q => ?_⟩
    rw [lab_or _ _ (by omega), hq q]
    by_cases e : q = i
    · subst e
      rw [if_pos rfl, if_neg (by omega), if_pos (by omega), Nat.zero_or]
    · rw [if_neg e]
      by_cases z : q < i
      · rw [if_pos z, if_pos (by omega)]
      · rw [if_neg z, if_neg (by omega)]
  · rintro nx _ _ ⟨L, rfl, rfl, hL, hq⟩
    have s1 : (1 : Int32) <<< (iI (a : Int) &&& 31) = iI ((2 ^ a : Nat) : Int) := iI_shl (by omega)
    have s2 : (1 : Int32) <<< (iI (b : Int) &&& 31) = iI ((2 ^ b : Nat) : Int) := iI_shl (by omega)
    have p1 : (2 : Nat) ^ a < 2 ^ 7 := Nat.pow_lt_pow_right (by omega) (by omega)
    have p2 : (2 : Nat) ^ b < 2 ^ 7 := Nat.pow_lt_pow_right (by omega) (by omega)
    have hLI : LabI t 0 L := by
      refine ⟨hL, fun p q hp hq' => ?_⟩
      rw [hq p, hq q, if_pos hp, if_pos hq']
      constructor
      · intro e
        rw [e]
        exact conn_r t 0 q
      · intro hc
        have := conn_c w (F := fun e => decide (p = e)) hp (by simp) (fun b _ _ hs _ => by
          rw [Nat.zero_testBit] at hs
          exact absurd hs (by decide)) hq' hc
        simpa using this
    have cw := c_ways h w ha hb hab hT hT2 (tK t) 0 0 L 12 (by omega) (by omega) hLI
    have cw' : fX0_waysTied 1 0 (iI (L : Int)) (iI ((2 ^ a ||| 2 ^ b : Nat) : Int)) (iI (T : Int)) m = some (lI (wy t a b T (tK t) 0 0 : Nat)) := cw
    rw [h.1.1, leT (by omega), s1, s2, iI_or (by omega) (by omega), cw', bd_some]
theorem T10 {T n : Nat} (hT : T ≤ 20) (hn : n ≤ 10) (h1 : 1 ≤ T) : T ^ n < 2 ^ 44 ∧ 0 < T ^ n := by
  have a1 : T ^ n ≤ 20 ^ n := Nat.pow_le_pow_left hT n
  have a2 : 20 ^ n ≤ 20 ^ 10 := Nat.pow_le_pow_right (by omega) hn
  have a3 : (20 : Nat) ^ 10 < 2 ^ 44 := by decide
  exact ⟨by omega, Nat.pow_pos (by omega)⟩
theorem op_night {m : pw_Mem} (hs : Sim m) (a1 a2 a3 a4 : Int32) : OpRR (fX10_night a1 a2 a3 a4) (fX11_night a1 a2 a3 a4) m := by
  obtain ⟨s, hC, hM, w⟩ := hs
  obtain ⟨y, rfl, h1, h2⟩ := rg a1
  obtain ⟨z, rfl, h3, h4⟩ := rg a2
  obtain ⟨u, rfl, h5, h6⟩ := rg a3
  obtain ⟨v, rfl, h7, h8⟩ := rg a4
  have w1 := w.1.1
  have hN7 := w1.1.1
  have hk := w1.1.2.1
  have n20 : (20 : Int32) = iI ((20 : Nat) : Int) := rfl
  have i20 : fX11_isIn (iI u) 2 20 m = some (decide (2 ≤ u ∧ u ≤ 20)) := by
    rw [show (2 : Int32) = iI 2 from rfl, show (20 : Int32) = iI 20 from rfl]
    exact r_isIn u 2 20 m (by omega) (by omega) (by omega)
  by_cases c : (0 ≤ y ∧ y < tN s.1) ∧ (0 ≤ z ∧ z < tN s.1) ∧ y ≠ z
  · by_cases cu : 2 ≤ u ∧ u ≤ 20
    · by_cases cv : 0 ≤ v ∧ v ≤ 1
      · obtain ⟨a, rfl⟩ := Int.eq_ofNat_of_zero_le c.1.1
        obtain ⟨b, rfl⟩ := Int.eq_ofNat_of_zero_le c.2.1.1
        obtain ⟨T, rfl⟩ := Int.eq_ofNat_of_zero_le (show 0 ≤ u by omega)
        obtain ⟨p, rfl⟩ := Int.eq_ofNat_of_zero_le cv.1
        have ha : a < tN s.1 := by omega
        have hb : b < tN s.1 := by omega
        have hn : nWh s.1 + cnt (tX s.1) (tK s.1) = tK s.1 := cnt_not _ _
        have nw0 : nwR s.1 (tK s.1) 0 = nWh s.1 := cnt_congr fun i _ => by rw [Nat.zero_add]
        have wl := wy_le (t := s.1) (a := a) (b := b) (T := T) (by omega) (tK s.1) 0 0
        rw [nw0] at wl
        obtain ⟨tb, tp⟩ := T10 (T := T) (n := nWh s.1) (by omega) (by omega) (by omega)
        have ww := wy_whl w1 (a := a) (b := b) (T := T)
        have cs := c_still hC.1 w1 ha hb (by omega) (T := T) (by omega) (by omega)
        obtain ⟨V, hV⟩ : ∃ V, ∀ _ : Unit, wy s.1 a b T (tK s.1) 0 0 = V := ⟨_, fun _ => rfl⟩
        rw [hV ()] at wl ww cs
        obtain ⟨B, hB⟩ : ∃ B, ∀ _ : Unit, T ^ nWh s.1 = B := ⟨_, fun _ => rfl⟩
        rw [hB ()] at wl tb tp
        refine ⟨lI (frc V B p : Nat), ?_, ?_⟩
        · have cp := c_power T (nWh s.1) m (by omega) (by omega)
          rw [hB ()] at cp
          unfold fX10_night
          rw [c_areTwo hC.1 w1 h1 h2 h3 h4, bd_some, ite_dec, if_pos c, n2, ltF (by omega), n20, ltF (by omega), upTo1 _ h7 h8, bd_some, ite_dec, if_pos cv, cs, bd_some]
          unfold fX0_allWays
          rw [c_snappedCount hC.1 w1, bd_some, hC.1.1.2.1, iI_sub, show (tK s.1 : Int) - (cnt (tX s.1) (tK s.1) : Nat) = (nWh s.1 : Nat) by omega, cp, bd_some, bd_some, c_frac _ (by omega) tp tb (by omega), bd_some]
        · have hR := hM.1
          have wlt := whl_lt w1
          have hc := whl_cnt w1
          have rb : fX11_bits (iI (whl s.1 : Int)) m = some (iI (nWh s.1 : Nat)) := by
            rw [r_bits (by omega), hc]
          unfold fX11_night
          rw [r_areTwo hM.1 w1 h1 h2 h3 h4, bd_some, ite_dec, if_pos c, i20, bd_some, ite_dec, if_pos cu, isIn01 _ h7 h8, bd_some, ite_dec, if_pos cv, r_wholeSet hR w1, bd_some]
          refine lpI2 (fun i v5 v6 => v5 = lI ((T ^ i : Nat) : Int) ∧ v6 = iI (i : Nat)) (fun r => r = some (lI (frc V B p : Nat))) (nWh s.1) (by omega) ?_ ?_ ⟨rfl, rfl⟩
          · rintro nx i _ _ hi ⟨rfl, rfl⟩ hnx
            rw [rb, bd_some, leF (by omega), i64N (by omega), lI_mulN, lt_def, lt_def, inc1]
            exact hnx _ _ ⟨by rw [Nat.pow_succ], rfl⟩
          · rintro nx _ _ ⟨rfl, rfl⟩
            rw [rb, bd_some, leT (by omega), hB ()]
            refine lpI2 (fun q v10 v11 => v10 = lI ((sumN (tmN s.1 a b T 0) q : Nat) : Int) ∧ v11 = iI (q : Nat)) (fun r => r = some (lI (frc V B p : Nat))) (whl s.1 + 1) (by omega) ?_ ?_ ⟨rfl, rfl⟩
            · rintro nx2 q _ _ hq ⟨rfl, rfl⟩ hnx2
              have hq2 : q < 2 ^ tK s.1 := by
                have := wh_lt (t := s.1)
                omega
              have an : iI (q : Nat) &&& (iI (whl s.1 : Nat) ^^^ -1) = iI ((andn q (whl s.1) : Nat) : Int) := iI_andn (by omega) (by omega)
              have oa := ok_andn w1 hq2
              have hva : andn q (whl s.1) < 2 ^ 10 := andn_lt (by omega)
              have e : sumN (tmN s.1 a b T 0) (q + 1) = sumN (tmN s.1 a b T 0) q + tmN s.1 a b T 0 q := rfl
              have no : tmN s.1 a b T 0 q = 0 → nx2 (lI ((sumN (tmN s.1 a b T 0) q : Nat) : Int)) (iI ((q + 1 : Nat) : Int)) = some (lI (frc V B p : Nat)) := fun hz => hnx2 _ _ ⟨by rw [e, hz, Nat.add_zero], rfl⟩
              rw [ltF (by omega), jn_def, an]
              by_cases k1 : andn q (whl s.1) = 0
              · have ok := oa.mp k1
                have okb := allB_t.mp ok
                have rc := r_clanOf hR w1 (X := cX q) (W := q) (by omega) (fun k hk' => by
                  rw [opn_c s.1 q (by omega)]
                  have := okb k hk'
                  cases h1 : q.testBit k
                  · rw [Bool.and_false]
                  · rw [h1] at this
                    cases h2 : tX s.1 k
                    · rfl
                    · rw [h2] at this
                      exact absurd this (by decide)) ha
                have cl := clan_lt w1 (cX q) ha
                rw [eq0T (by omega), rc, bd_some, r_has _ _ _ (by omega) (by omega), bd_some]
                have hcn : (clan s.1 (cX q) a).testBit b = conn s.1 (0 ||| q) a b := by
                  rw [Nat.zero_or]
                  rfl
                rw [hcn]
                cases hcc : conn s.1 (0 ||| q) a b
                · rw [itF]
                  simp only [lt_def, inc1]
                  exact no (by unfold tmN; rw [hcc, ok, itT]; exact Nat.mul_zero _)
                · have rq : fX11_bits (iI (q : Int)) m = some (iI (cb10 q : Nat)) := r_bits (by omega) m
                  have cb : cb10 q ≤ 10 := cnt_le _ _
                  have eT : (iI (T : Int) - 1).toInt64 = lI ((T - 1 : Nat) : Int) := by
                    have : iI (T : Int) - 1 = iI ((T : Int) - 1) := iI_sub _ 1
                    rw [this, i64 (by omega) (by omega)]
                    exact congrArg lI (by omega)
                  rw [itT]
                  refine lpI2 (fun i v21 v22 => v21 = lI (((T - 1) ^ i : Nat) : Int) ∧ v22 = iI (i : Nat)) (fun r => r = some (lI (frc V B p : Nat))) (cb10 q) (by omega) ?_ ?_ ⟨rfl, rfl⟩
                  · rintro nx3 i _ _ hi ⟨rfl, rfl⟩ hnx3
                    rw [rq, bd_some, leF (by omega), eT, lI_mulN, lt_def, lt_def, inc1]
                    exact hnx3 _ _ ⟨by rw [Nat.pow_succ], rfl⟩
                  · rintro nx3 _ _ ⟨rfl, rfl⟩
                    rw [rq, bd_some, leT (by omega), lI_addN]
                    simp only [lt_def, inc1]
                    refine hnx2 _ _ ⟨?_, rfl⟩
                    rw [e]
                    unfold tmN
                    rw [hcc, ok, itT]
                    exact congrArg (fun z : Nat => lI (z : Int)) (by rw [show c01 true = 1 from rfl, Nat.mul_one])
              · rw [eq0F (by omega)]
                simp only [lt_def, inc1]
                exact no (by
                  unfold tmN
                  rw [if_neg (fun h => k1 (oa.mpr h))])
            · rintro nx2 _ _ ⟨rfl, rfl⟩
              rw [ltT (by omega), ← ww, r_frac _ (by omega) (Or.inr tp) tb (by omega), bd_some, if_neg (by omega)]
      · refine ⟨1000000001, ?_, ?_⟩
        · unfold fX10_night
          rw [c_areTwo hC.1 w1 h1 h2 h3 h4, bd_some, ite_dec, if_pos c, n2, ltF (by omega), n20, ltF (by omega), upTo1 _ h7 h8, bd_some, ite_dec, if_neg cv]
        · unfold fX11_night
          rw [r_areTwo hM.1 w1 h1 h2 h3 h4, bd_some, ite_dec, if_pos c, i20, bd_some, ite_dec, if_pos cu, isIn01 _ h7 h8, bd_some, ite_dec, if_neg cv]
    · refine ⟨1000000001, ?_, ?_⟩
      · unfold fX10_night
        rw [c_areTwo hC.1 w1 h1 h2 h3 h4, bd_some, ite_dec, if_pos c, n2]
        by_cases k : u < 2
        · rw [ltT (by omega)]
        · rw [ltF (by omega), n20, ltT (by omega)]
      · unfold fX11_night
        rw [r_areTwo hM.1 w1 h1 h2 h3 h4, bd_some, ite_dec, if_pos c, i20, bd_some, ite_dec, if_neg cu]
  · refine ⟨1000000001, ?_, ?_⟩
    · unfold fX10_night
      rw [c_areTwo hC.1 w1 h1 h2 h3 h4, bd_some, ite_dec, if_neg c]
    · unfold fX11_night
      rw [r_areTwo hM.1 w1 h1 h2 h3 h4, bd_some, ite_dec, if_neg c]
