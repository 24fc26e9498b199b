/-! KIN: the people tied to a set of people -/
set_option maxRecDepth 100000
def endsB (t : TT) (b : Nat) : Nat := 2 ^ (tO t b) ||| 2 ^ (tQ t b)
def opnB (t : TT) (X b : Nat) : Bool := !tX t b && !X.testBit b
def hitB (t : TT) (S b : Nat) : Bool := S.testBit (tO t b) || S.testBit (tQ t b)
def tdN (t : TT) (X S : Nat) : Nat → Nat
  | 0 => S
  | k + 1 => if (opnB t X k && hitB t S k) = true then tdN t X S k ||| endsB t k else tdN t X S k
theorem td_s (t : TT) (X S k : Nat) : tdN t X S (k + 1) = if (opnB t X k && hitB t S k) = true then tdN t X S k ||| endsB t k else tdN t X S k := rfl
theorem ends_lt {t : TT} (w : WT t) {b : Nat} (hb : b < tK t) : endsB t b < 2 ^ 7 := by
  obtain ⟨-, -, h1, h2, -, -⟩ := w.2.2 b hb
  have h7 := w.1.1
  exact Nat.or_lt_two_pow (Nat.pow_lt_pow_right (by omega) (by omega)) (Nat.pow_lt_pow_right (by omega) (by omega))
theorem td_lt {t : TT} (w : WT t) {X S : Nat} (hS : S < 2 ^ 7) : ∀ {k : Nat}, k ≤ tK t → tdN t X S k < 2 ^ 7
  | 0, _ => hS
  | k + 1, h => by
    rw [td_s]
    split
    · exact Nat.or_lt_two_pow (td_lt w hS (by omega)) (ends_lt w (by omega))
    · exact td_lt w hS (by omega)
theorem ends_bit (t : TT) (b i : Nat) : (endsB t b).testBit i = (decide (tO t b = i) || decide (tQ t b = i)) := by
  unfold endsB
  rw [Nat.testBit_or, Nat.testBit_two_pow, Nat.testBit_two_pow]
theorem hit_and (t : TT) (S b : Nat) : S &&& endsB t b = 0 ↔ hitB t S b = false := by
  constructor
  · intro h
    have h1 := congrArg (fun x : Nat => x.testBit (tO t b)) h
    have h2 := congrArg (fun x : Nat => x.testBit (tQ t b)) h
    simp only [Nat.testBit_and, ends_bit, Nat.zero_testBit] at h1 h2
    unfold hitB
    simp at h1 h2
    rw [h1, h2]
    rfl
  · intro h
    unfold hitB at h
    apply Nat.eq_of_testBit_eq
    intro i
    rw [Nat.testBit_and, ends_bit, Nat.zero_testBit]
    by_cases e1 : tO t b = i
    · subst e1
      cases hs : S.testBit (tO t b)
      · rfl
      · rw [hs] at h
        simp at h
    · by_cases e2 : tQ t b = i
      · subst e2
        cases hs : S.testBit (tQ t b)
        · rfl
        · rw [hs] at h
          simp at h
      · simp [e1, e2]
theorem or_0 (n : Nat) : n ||| 0 = n := Nat.or_zero n
theorem sh_ends {t : TT} (w : WT t) {b : Nat} (hb : b < tK t) : (1 <<< (iI (tO t b : Nat) &&& 31)) ||| (1 <<< (iI (tQ t b : Nat) &&& 31)) = iI ((endsB t b : Nat) : Int) := by
  obtain ⟨-, -, h1, h2, -, -⟩ := w.2.2 b hb
  have h7 := w.1.1
  have p1 : (2 : Nat) ^ (tO t b) < 2 ^ 7 := Nat.pow_lt_pow_right (by omega) (by omega)
  have p2 : (2 : Nat) ^ (tQ t b) < 2 ^ 7 := Nat.pow_lt_pow_right (by omega) (by omega)
  have a1 : (1 : Int32) <<< (iI (tO t b : Nat) &&& 31) = iI ((2 ^ (tO t b) : Nat) : Int) := iI_shl (by omega)
  have a2 : (1 : Int32) <<< (iI (tQ t b : Nat) &&& 31) = iI ((2 ^ (tQ t b) : Nat) : Int) := iI_shl (by omega)
  rw [a1, a2, iI_or (by omega) (by omega)]
  rfl
theorem bit0 {s b : Nat} (hs : s < 2147483648) (hb : b < 31) : ((iI (s : Int) >>> (iI (b : Int) &&& 31)) &&& 1 = 0) ↔ s.testBit b = false := by
  have e : (iI (s : Int) >>> (iI (b : Int) &&& 31)) &&& 1 = iI (if s.testBit b then 1 else 0) := iI_bit hs hb
  rw [e]
  cases s.testBit b
  · exact ⟨fun _ => rfl, fun _ => rfl⟩
  · exact ⟨fun h => absurd h (by decide), fun h => by cases h⟩
theorem bit1 {s b : Nat} (hs : s < 2147483648) (hb : b < 31) : ((iI (s : Int) >>> (iI (b : Int) &&& 31)) &&& 1 = 1) ↔ s.testBit b = true := by
  have e : (iI (s : Int) >>> (iI (b : Int) &&& 31)) &&& 1 = iI (if s.testBit b then 1 else 0) := iI_bit hs hb
  rw [e]
  cases s.testBit b
  · exact ⟨fun h => absurd h (by decide), fun h => by cases h⟩
  · exact ⟨fun _ => rfl, fun _ => rfl⟩
theorem c_tiedTo {m : pw_Mem} {t : TT} (h : CT m 1 t) (w : WT t) {X S : Nat} (hX : X < 2 ^ 10) (hS : S < 2 ^ 7) : fX0_tiedTo (iI S) (iI X) m = some (iI ((tdN t X S (tK t) : Nat) : Int)) := by
  have hk := w.1.2.1
  have h7 := w.1.1
  unfold fX0_tiedTo
  refine lpI2 (fun i v1 v2 => v1 = iI (tdN t X S i : Nat) ∧ v2 = iI (i : Nat)) (fun z => z = _) (tK t) (by omega) ?_ ?_ ⟨rfl, rfl⟩
  · rintro nx i _ _ hi ⟨rfl, rfl⟩ hnx
    have e1 : iI (i : Int) + 1 = iI ((i + 1 : Nat) : Int) := iN_add i 1
    have ei : (iI (i : Int)).toNatClampNeg = i := iI_clN (by omega)
    obtain ⟨-, -, eO, eQ, -, -⟩ := h.2.2 i hi
    have hm := msk_lt' (tX t) hk
    have hl := td_lt w (X := X) hS (show i ≤ tK t by omega)
    have he := ends_lt w hi
    have hor : msk (tX t) (tK t) ||| X < 2 ^ 10 := Nat.or_lt_two_pow hm hX
    have hb := bit0 (s := msk (tX t) (tK t) ||| X) (b := i) (by omega) (by omega)
    rw [Nat.testBit_or, msk_bit, decide_eq_true hi, Bool.true_and] at hb
    rw [h.1.2.1, if_neg (by rw [iI_le (by omega) (by omega) (by omega) (by omega)]; omega), jn_def, h.1.2.2.1, iI_or (by omega) (by omega)]
    cases ho : opnB t X i
    · have nb : ¬ (tX t i || X.testBit i) = false := by
        unfold opnB at ho
        intro q
        rw [Bool.or_eq_false_iff] at q
        rw [q.1, q.2] at ho
        exact absurd ho (by decide)
      rw [if_neg (fun q => nb (hb.mp q))]
      simp only [lt_def, e1]
      exact hnx _ _ ⟨by rw [td_s, ho]; rfl, rfl⟩
    · have nb : (tX t i || X.testBit i) = false := by
        unfold opnB at ho
        cases h1 : tX t i <;> cases h2 : X.testBit i <;> simp [h1, h2] at ho ⊢
      rw [if_pos (hb.mpr nb), gd_ix (by omega) (by omega) (by omega), gd_ix (by omega) (by omega) (by omega), lt_def, ei, eO, eQ, sh_ends w hi, jn_def, iI_and (by omega) (by omega)]
      have hh := hit_and t S i
      have e0 : (0 : Int32) = iI ((0 : Nat) : Int) := rfl
      cases hi2 : hitB t S i
      · rw [if_pos (by rw [hh.mpr hi2]; rfl)]
        simp only [lt_def, e1, e0, iI_or (show tdN t X S i < 2147483648 by omega) (show 0 < 2147483648 by omega), Nat.or_zero]
        exact hnx _ _ ⟨by rw [td_s, hi2, Bool.and_false]; rfl, rfl⟩
      · have n0 : ¬ S &&& endsB t i = 0 := fun q => by
          rw [hh.mp q] at hi2
          exact absurd hi2 (by decide)
        have hs2 : S &&& endsB t i < 2 ^ 7 := Nat.and_lt_two_pow _ he
        rw [if_neg (by rw [e0, iI_eq (by omega) (by omega) (by omega) (by omega)]; omega)]
        simp only [lt_def, e1, iI_or (show tdN t X S i < 2147483648 by omega) (show endsB t i < 2147483648 by omega)]
        exact hnx _ _ ⟨by rw [td_s, ho, hi2]; rfl, rfl⟩
  · rintro nx _ _ ⟨rfl, rfl⟩
    rw [h.1.2.1, if_pos (by rw [iI_le (by omega) (by omega) (by omega) (by omega)]; omega)]
