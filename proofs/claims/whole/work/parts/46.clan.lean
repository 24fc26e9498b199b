/-! CLANS: both closures are one set -/
set_option maxRecDepth 100000
def subM (A B : Nat) : Prop := ∀ i, A.testBit i = true → B.testBit i = true
theorem subM_eq {A B : Nat} (h1 : subM A B) (h2 : subM B A) : A = B := by
  apply Nat.eq_of_testBit_eq
  intro i
  cases ha : A.testBit i
  · cases hb : B.testBit i
    · rfl
    · rw [h2 i hb] at ha
      exact absurd ha (by decide)
  · exact (h1 i ha).symm
theorem subM_or {A B C : Nat} (h1 : subM A C) (h2 : subM B C) : subM (A ||| B) C := by
  intro i h
  rw [Nat.testBit_or, Bool.or_eq_true] at h
  rcases h with h | h
  · exact h1 i h
  · exact h2 i h
theorem subM_l (A B : Nat) : subM A (A ||| B) := fun i h => by
  rw [Nat.testBit_or, h]
  rfl
theorem subM_r (A B : Nat) : subM B (A ||| B) := fun i h => by
  rw [Nat.testBit_or, h, Bool.or_true]
theorem hit_m {t : TT} {A B b : Nat} (h : subM A B) (hh : hitB t A b = true) : hitB t B b = true := by
  unfold hitB at hh ⊢
  rw [Bool.or_eq_true] at hh ⊢
  rcases hh with hh | hh
  · exact Or.inl (h _ hh)
  · exact Or.inr (h _ hh)
def tcN (t : TT) (X S : Nat) : Nat → Nat
  | 0 => S
  | k + 1 => if (opnB t X k && hitB t (tcN t X S k) k) = true then tcN t X S k ||| endsB t k else tcN t X S k
theorem tc_s (t : TT) (X S k : Nat) : tcN t X S (k + 1) = if (opnB t X k && hitB t (tcN t X S k) k) = true then tcN t X S k ||| endsB t k else tcN t X S k := rfl
theorem tc_up (t : TT) (X S : Nat) : ∀ k, subM S (tcN t X S k)
  | 0 => fun _ h => h
  | k + 1 => fun i h => by
    rw [tc_s]
    split
    · exact subM_l _ _ i (tc_up t X S k i h)
    · exact tc_up t X S k i h
theorem tc_lt {t : TT} (w : WT t) {X S : Nat} (hS : S < 2 ^ 7) : ∀ {k : Nat}, k ≤ tK t → tcN t X S k < 2 ^ 7
  | 0, _ => hS
  | k + 1, h => by
    rw [tc_s]
    split
    · exact Nat.or_lt_two_pow (tc_lt w hS (by omega)) (ends_lt w (by omega))
    · exact tc_lt w hS (by omega)
/-- the chained pass reaches at least as far, also from a greater set -/
theorem td_tc (t : TT) (X : Nat) {S S' : Nat} (h : subM S S') : ∀ k, subM (tdN t X S k) (tcN t X S' k)
  | 0 => h
  | k + 1 => by
    have ih := td_tc t X h k
    rw [td_s, tc_s]
    by_cases c : (opnB t X k && hitB t S k) = true
    · rw [if_pos c]
      rw [Bool.and_eq_true] at c
      have c2 : (opnB t X k && hitB t (tcN t X S' k) k) = true := by
        rw [Bool.and_eq_true]
        exact ⟨c.1, hit_m (fun i hi => tc_up t X S' k i (h i hi)) c.2⟩
      rw [if_pos c2]
      exact subM_or (fun i hi => subM_l _ _ i (ih i hi)) (subM_r _ _)
    · rw [if_neg c]
      split
      · exact fun i hi => subM_l _ _ i (ih i hi)
      · exact ih
theorem td_has (t : TT) (X S : Nat) {b : Nat} (ho : opnB t X b = true) (hh : hitB t S b = true) : ∀ {k : Nat}, b < k → subM (endsB t b) (tdN t X S k)
  | 0, h => absurd h (Nat.not_lt_zero b)
  | k + 1, h => by
    rw [td_s]
    by_cases e : b = k
    · subst e
      rw [ho, hh, if_pos (by rfl)]
      exact subM_r _ _
    · have ih := td_has t X S ho hh (k := k) (by omega)
      split
      · exact fun i hi => subM_l _ _ i (ih i hi)
      · exact ih
theorem tc_cl {t : TT} {X S C : Nat} (hC : tdN t X C (tK t) = C) (h : subM S C) : ∀ {k : Nat}, k ≤ tK t → subM (tcN t X S k) C
  | 0, _ => h
  | k + 1, hk => by
    have ih := tc_cl hC h (k := k) (by omega)
    rw [tc_s]
    by_cases c : (opnB t X k && hitB t (tcN t X S k) k) = true
    · rw [if_pos c]
      rw [Bool.and_eq_true] at c
      have e := td_has t X C c.1 (hit_m ih c.2) (k := tK t) (by omega)
      rw [hC] at e
      exact subM_or ih e
    · rw [if_neg c]
      exact ih
def tcR (t : TT) (X a : Nat) : Nat → Nat
  | 0 => 2 ^ a
  | i + 1 => tcN t X (tcR t X a i) (tK t)
theorem tcR_s (t : TT) (X a i : Nat) : tcR t X a (i + 1) = tcN t X (tcR t X a i) (tK t) := rfl
theorem rch_tcR (t : TT) (X a : Nat) : ∀ i, subM (rch t X a i) (tcR t X a i)
  | 0 => fun _ h => h
  | i + 1 => by
    rw [rch_s, tcR_s]
    exact td_tc t X (rch_tcR t X a i) (tK t)
theorem rch_up (t : TT) (X a : Nat) : ∀ i, subM (2 ^ a) (rch t X a i)
  | 0 => fun _ h => h
  | i + 1 => fun j h => td_up t X _ (rch_up t X a i j h) _
def clan (t : TT) (X a : Nat) : Nat := rch t X a 7
theorem clan_cl {t : TT} (w : WT t) {X a : Nat} (ha : a < tN t) : tdN t X (clan t X a) (tK t) = clan t X a := rch_stop w ha 7 (by have := w.1.1; omega)
theorem tcR_clan {t : TT} (w : WT t) {X a : Nat} (ha : a < tN t) : tcR t X a 7 = clan t X a := by
  have h : ∀ i, subM (tcR t X a i) (clan t X a) := by
    intro i
    induction i with
    | zero => exact rch_up t X a 7
    | succ i ih =>
      rw [tcR_s]
      exact tc_cl (clan_cl w ha) ih (Nat.le_refl _)
  exact subM_eq (h 7) (rch_tcR t X a 7)
theorem rch_clan {t : TT} (w : WT t) {X a : Nat} (ha : a < tN t) : rch t X a (tN t - 1) = clan t X a := by
  have h7 := w.1.1
  have e := rch_stop w (X := X) ha (tN t - 1) (by omega)
  have f := rch_fix e (7 - (tN t - 1))
  rw [show tN t - 1 + (7 - (tN t - 1)) = 7 by omega] at f
  exact f.symm
theorem clan_lt {t : TT} (w : WT t) (X : Nat) {a : Nat} (ha : a < tN t) : clan t X a < 2 ^ 7 := rch_lt7 w X ha 7
theorem c_clanOf {m : pw_Mem} {t : TT} (h : CT m 1 t) (w : WT t) {X a : Nat} (hX : X < 2 ^ 10) (ha : a < tN t) : fX0_clanOf (iI a) (iI X) m = some (iI (clan t X a : Nat)) := by
  have h7 := w.1.1
  obtain ⟨S, hS⟩ : ∃ S, S = rch t X a := ⟨_, rfl⟩
  have S0 : (1 : Int32) <<< (iI (a : Int) &&& 31) = iI ((S 0 : Nat) : Int) := by
    rw [hS]
    exact iI_shl (by omega)
  have S7 : ∀ i, S i < 2 ^ 7 := by
    rw [hS]
    exact rch_lt7 w X ha
  have Ss : ∀ i, tdN t X (S i) (tK t) = S (i + 1) := by
    rw [hS]
    exact fun _ => rfl
  rw [← rch_clan w ha, ← hS]
  clear hS
  unfold fX0_clanOf
  rw [lt_def, S0]
  refine lpI2 (fun i v2 v3 => v2 = iI ((S i : Nat) : Int) ∧ v3 = iI ((i + 1 : Nat) : Int)) (fun r => r = _) (tN t - 1) (by omega) ?_ ?_ ⟨rfl, rfl⟩
  · rintro nx i _ _ hi ⟨rfl, rfl⟩ hnx
    have e1 : iI ((i + 1 : Nat) : Int) + 1 = iI ((i + 1 + 1 : Nat) : Int) := iN_add (i + 1) 1
    rw [h.1.1, if_neg (by rw [iI_le (by omega) (by omega) (by omega) (by omega)]; omega), c_tiedTo h w hX (S7 i), bd_some, Ss, lt_def, e1]
    exact hnx _ _ ⟨rfl, rfl⟩
  · rintro nx _ _ ⟨rfl, rfl⟩
    rw [h.1.1, if_pos (by rw [iI_le (by omega) (by omega) (by omega) (by omega)]; omega)]
theorem r_clanOf {m0 : pw_Mem} {t : TT} (h : RT m0 72 t) (w : WT t) {X W a : Nat} (hW : W < 2 ^ 10) (hw : ∀ k, k < tK t → W.testBit k = opnB t X k) (ha : a < tN t) : fX11_clanOf (iI a) (iI W) m0 = some (iI (clan t X a : Nat)) := by
  have h7 := w.1.1
  have hk := w.1.2.1
  have eK : m0 72 (1 : Int32).toNatClampNeg = iI (tK t : Nat) := h.1.2.1
  obtain ⟨S, hS⟩ : ∃ S, S = tcR t X a := ⟨_, rfl⟩
  have S0 : (1 : Int32) <<< (iI (a : Int) &&& 31) = iI ((S 0 : Nat) : Int) := by
    rw [hS]
    exact iI_shl (by omega)
  have S7 : ∀ i, S i < 2 ^ 7 := by
    rw [hS]
    intro i
    induction i with
    | zero => exact Nat.pow_lt_pow_right (by omega) (by omega)
    | succ i ih => exact tc_lt w ih (Nat.le_refl _)
  have Ss : ∀ i, tcN t X (S i) (tK t) = S (i + 1) := by
    rw [hS]
    exact fun _ => rfl
  rw [← tcR_clan w ha, ← hS]
  clear hS
  unfold fX11_clanOf
  rw [lt_def, S0]
  refine lpI2 (fun i v2 v3 => v2 = iI ((S i : Nat) : Int) ∧ v3 = iI (i : Nat)) (fun r => r = _) 7 (by omega) ?_ ?_ ⟨rfl, rfl⟩
  · rintro nx j _ _ hj ⟨rfl, rfl⟩ hnx
    have e7 : (7 : Int32) = iI ((7 : Nat) : Int) := rfl
    have e1 : iI (j : Int) + 1 = iI ((j + 1 : Nat) : Int) := iN_add j 1
    rw [if_neg (by rw [e7, iI_le (by omega) (by omega) (by omega) (by omega)]; omega)]
    refine lpI2 (fun i v6 v7 => v6 = iI ((tcN t X (S j) i : Nat) : Int) ∧ v7 = iI (i : Nat)) (fun r => r = _) (tK t) (by omega) ?_ ?_ ⟨rfl, rfl⟩
    · rintro nx2 i _ _ hi ⟨rfl, rfl⟩ hnx2
      have e1 : iI (i : Int) + 1 = iI ((i + 1 : Nat) : Int) := iN_add i 1
      obtain ⟨eO, eQ⟩ := r_pairs h hi
      obtain ⟨o2, o3⟩ := ofs i m0
      obtain ⟨-, -, l1, l2, -, -⟩ := w.2.2 i hi
      have c2 : (iI ((18 + 6 * i + 2 : Nat) : Int)).toNatClampNeg = 18 + 6 * i + 2 := iI_clN (by omega)
      have c3 : (iI ((18 + 6 * i + 3 : Nat) : Int)).toNatClampNeg = 18 + 6 * i + 3 := iI_clN (by omega)
      have hl := tc_lt w (X := X) (S7 j) (show i ≤ tK t by omega)
      have he := ends_lt w hi
      have hwi := hw i hi
      obtain ⟨A, hA⟩ : ∃ A, A = tcN t X (S j) i := ⟨_, rfl⟩
      have hAs : tcN t X (S j) (i + 1) = if (opnB t X i && hitB t A i) = true then A ||| endsB t i else A := by rw [hA]; rfl
      rw [hAs] at hnx2
      rw [← hA] at hl ⊢
      rw [gd_true (by decide), eK, if_neg (by rw [iI_le (by omega) (by omega) (by omega) (by omega)]; omega), r_has _ _ _ (by omega) (by omega), bd_some, jn_def, hwi]
      have up : nx2 (iI ((A : Nat) : Int) ||| iI ((endsB t i : Nat) : Int)) (iI (i : Int) + 1) = nx2 (iI ((A ||| endsB t i : Nat) : Int)) (iI ((i + 1 : Nat) : Int)) := by
        rw [e1, iI_or (by omega) (by omega)]
      cases ho : opnB t X i
      · rw [if_neg (by decide)]
        simp only [lt_def, e1]
        refine hnx2 _ _ ⟨?_, rfl⟩
        rw [ho]
        rfl
      · rw [if_pos rfl, o2, bd_some, gd_ix (by omega) (by omega) (by omega), c2, eO, r_has _ _ _ (by omega) (by omega), bd_some, jn_def]
        cases q1 : A.testBit (tO t i)
        · rw [if_neg (by decide), o3, bd_some, gd_ix (by omega) (by omega) (by omega), c3, eQ, r_has _ _ _ (by omega) (by omega), bd_some]
          cases q2 : A.testBit (tQ t i)
          · rw [if_neg (by decide)]
            simp only [lt_def, e1]
            refine hnx2 _ _ ⟨?_, rfl⟩
            have hh : hitB t A i = false := by
              unfold hitB
              rw [q1, q2]
              rfl
            rw [hh, Bool.and_false]
            rfl
          · rw [if_pos rfl, bd_some, gd_ix (by omega) (by omega) (by omega), bd_some, gd_ix (by omega) (by omega) (by omega)]
            simp only [c2, c3, eO, eQ, sh_ends w hi, lt_def]
            rw [up]
            refine hnx2 _ _ ⟨?_, rfl⟩
            have hh : hitB t A i = true := by
              unfold hitB
              rw [q1, q2]
              rfl
            rw [hh, ho]
            rfl
        · rw [if_pos rfl, bd_some, gd_ix (by omega) (by omega) (by omega), o3, bd_some, gd_ix (by omega) (by omega) (by omega)]
          simp only [c2, c3, eO, eQ, sh_ends w hi, lt_def]
          rw [up]
          refine hnx2 _ _ ⟨?_, rfl⟩
          have hh : hitB t A i = true := by
            unfold hitB
            rw [q1]
            rfl
          rw [hh, ho]
          rfl
    · rintro nx2 _ _ ⟨rfl, rfl⟩
      rw [gd_true (by decide), eK, if_pos (by rw [iI_le (by omega) (by omega) (by omega) (by omega)]; omega), Ss, lt_def, e1]
      exact hnx _ _ ⟨rfl, rfl⟩
  · rintro nx _ _ ⟨rfl, rfl⟩
    rw [if_pos (by decide)]
