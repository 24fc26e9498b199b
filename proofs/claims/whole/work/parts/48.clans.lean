/-! CALLS: clans -/
set_option maxRecDepth 100000
theorem td_cr {t : TT} {X C : Nat} (h : ∀ b, b < tK t → opnB t X b = true → hitB t C b = true → subM (endsB t b) C) : ∀ {k : Nat}, k ≤ tK t → subM (tdN t X C k) C
  | 0, _ => fun _ h => h
  | k + 1, hk => by
    have ih := td_cr h (k := k) (by omega)
    rw [td_s]
    by_cases c : (opnB t X k && hitB t C k) = true
    · rw [if_pos c]
      rw [Bool.and_eq_true] at c
      exact subM_or ih (h k (by omega) c.1 c.2)
    · rw [if_neg c]
      exact ih
theorem td_eq {t : TT} {X C : Nat} (h : ∀ b, b < tK t → opnB t X b = true → hitB t C b = true → subM (endsB t b) C) : tdN t X C (tK t) = C := subM_eq (td_cr h (Nat.le_refl _)) (fun _ hi => td_up t X C hi _)
theorem td_cr' {t : TT} {X C : Nat} (h : tdN t X C (tK t) = C) {b : Nat} (hb : b < tK t) (ho : opnB t X b = true) (hh : hitB t C b = true) : subM (endsB t b) C := by
  have := td_has t X C ho hh hb
  rw [h] at this
  exact this
theorem clan_min {t : TT} {X C a : Nat} (h : tdN t X C (tK t) = C) (ha : C.testBit a = true) : subM (clan t X a) C := by
  have : ∀ i, subM (rch t X a i) C := by
    intro i
    induction i with
    | zero =>
      intro j hj
      have hj : (2 ^ a).testBit j = true := hj
      rw [Nat.testBit_two_pow] at hj
      have : a = j := by simpa using hj
      rw [← this]
      exact ha
    | succ i ih =>
      rw [rch_s]
      exact fun j hj => tc_cl h ih (Nat.le_refl _) j (td_tc t X (fun _ q => q) (tK t) j hj)
  exact this 7
theorem clan_self (t : TT) (X a : Nat) : (clan t X a).testBit a = true := rch_up t X a 7 a (by
  rw [Nat.testBit_two_pow]
  simp)
theorem clan_sym {t : TT} (w : WT t) {X p q : Nat} (hp : p < tN t) (hq : q < tN t) (h : (clan t X p).testBit q = true) : (clan t X q).testBit p = true := by
  cases hc : (clan t X q).testBit p
  · have bitD : ∀ i, (andn (2 ^ (tN t) - 1) (clan t X q)).testBit i = (decide (i < tN t) && !(clan t X q).testBit i) := fun i => by
      rw [andn_bit, Nat.testBit_two_pow_sub_one]
    have cl := clan_cl w (X := X) hq
    have D : tdN t X (andn (2 ^ (tN t) - 1) (clan t X q)) (tK t) = andn (2 ^ (tN t) - 1) (clan t X q) := by
      refine td_eq fun b hb ho hh => ?_
      obtain ⟨-, -, l1, l2, -, -⟩ := w.2.2 b hb
      have no : hitB t (clan t X q) b = false := by
        cases hz : hitB t (clan t X q) b
        · rfl
        · have e := td_cr' cl hb ho hz
          have e1 := e (tO t b) (by rw [ends_bit]; simp)
          have e2 := e (tQ t b) (by rw [ends_bit]; simp)
          unfold hitB at hh
          rw [bitD, bitD, e1, e2] at hh
          simp at hh
      unfold hitB at no
      rw [Bool.or_eq_false_iff] at no
      intro i hi
      rw [ends_bit, Bool.or_eq_true] at hi
      rw [bitD]
      rcases hi with hi | hi
      · have e := of_decide_eq_true hi
        rw [← e, no.1, decide_eq_true l1]
        rfl
      · have e := of_decide_eq_true hi
        rw [← e, no.2, decide_eq_true l2]
        rfl
    have := clan_min D (a := p) (by rw [bitD, hc, decide_eq_true hp]; rfl) q h
    rw [bitD, clan_self] at this
    simp at this
  · rfl
theorem clan_eq {t : TT} (w : WT t) {X p q : Nat} (hp : p < tN t) (hq : q < tN t) (h : (clan t X p).testBit q = true) : clan t X q = clan t X p :=
  subM_eq (clan_min (clan_cl w hp) h) (clan_min (clan_cl w hq) (clan_sym w hp hq h))
def cbit (S : Nat) : Nat := cnt (fun b => S.testBit b) 10
def clS (t : TT) : Nat → Nat × Nat × Nat
  | 0 => (0, 0, 0)
  | i + 1 => if (clS t i).1.testBit i = true then clS t i else ((clS t i).1 ||| clan t 0 i, (clS t i).2.1 + 1, max (clS t i).2.2 (cbit (clan t 0 i)))
theorem clS_s (t : TT) (i : Nat) : clS t (i + 1) = if (clS t i).1.testBit i = true then clS t i else ((clS t i).1 ||| clan t 0 i, (clS t i).2.1 + 1, max (clS t i).2.2 (cbit (clan t 0 i))) := rfl
def gMx (t : TT) : Nat → Nat
  | 0 => 0
  | i + 1 => max (gMx t i) (cbit (clan t 0 i))
theorem gMx_s (t : TT) (i : Nat) : gMx t (i + 1) = max (gMx t i) (cbit (clan t 0 i)) := rfl
theorem clS_b {t : TT} (w : WT t) : ∀ i, i ≤ tN t → (clS t i).1 < 2 ^ 7 ∧ (clS t i).2.1 ≤ i ∧ (clS t i).2.2 ≤ 10
  | 0, _ => ⟨by show 0 < 2 ^ 7; decide, Nat.le_refl 0, Nat.zero_le 10⟩
  | i + 1, h => by
    have ih := clS_b w i (by omega)
    rw [clS_s]
    split
    · exact ⟨ih.1, by omega, ih.2.2⟩
    · have := cnt_le (fun b => (clan t 0 i).testBit b) 10
      refine ⟨Nat.or_lt_two_pow ih.1 (clan_lt w 0 (by omega)), by show (clS t i).2.1 + 1 ≤ _; omega, ?_⟩
      show max (clS t i).2.2 (cbit (clan t 0 i)) ≤ 10
      unfold cbit
      omega
theorem clS_in {t : TT} : ∀ i q, (clS t i).1.testBit q = true → ∃ j, j < i ∧ (clan t 0 j).testBit q = true
  | 0, q, h => by
    have : (0 : Nat).testBit q = true := h
    rw [Nat.zero_testBit] at this
    exact absurd this (by decide)
  | i + 1, q, h => by
    rw [clS_s] at h
    split at h
    · obtain ⟨j, h1, h2⟩ := clS_in i q h
      exact ⟨j, by omega, h2⟩
    · have h : ((clS t i).1 ||| clan t 0 i).testBit q = true := h
      rw [Nat.testBit_or, Bool.or_eq_true] at h
      rcases h with h | h
      · obtain ⟨j, h1, h2⟩ := clS_in i q h
        exact ⟨j, by omega, h2⟩
      · exact ⟨i, by omega, h⟩
theorem gMx_ge (t : TT) : ∀ i j, j < i → cbit (clan t 0 j) ≤ gMx t i
  | 0, j, h => absurd h (Nat.not_lt_zero j)
  | i + 1, j, h => by
    rw [gMx_s]
    by_cases e : j = i
    · subst e
      omega
    · have := gMx_ge t i j (by omega)
      omega
theorem gMx_clS {t : TT} (w : WT t) : ∀ i, i ≤ tN t → gMx t i = (clS t i).2.2
  | 0, _ => rfl
  | i + 1, h => by
    have ih := gMx_clS w i (by omega)
    rw [gMx_s, clS_s]
    by_cases c : (clS t i).1.testBit i = true
    · rw [if_pos c, ← ih]
      obtain ⟨j, h1, h2⟩ := clS_in i i c
      have e := clan_eq w (X := 0) (p := j) (q := i) (by omega) (by omega) h2
      have := gMx_ge t i j h1
      rw [e]
      omega
    · rw [if_neg c, ih]
theorem op_clans {m : pw_Mem} (hs : Sim m) (a : Int32) : OpRR (fX10_clans a) (fX11_clans a) m := by
  obtain ⟨s, hC, hM, w⟩ := hs
  obtain ⟨z, rfl, h1, h2⟩ := rg a
  have w1 := w.1.1
  have h7 := w1.1.1
  have cc : ∀ i, i < tN s.1 → fX0_clanOf (iI i) 0 m = some (iI (clan s.1 0 i : Nat)) := fun i hi => c_clanOf hC.1 w1 (X := 0) (by decide) hi
  by_cases c : 0 ≤ z ∧ z ≤ 1
  · refine ⟨iI (if z = 0 then ((clS s.1 (tN s.1)).2.1 : Nat) else ((clS s.1 (tN s.1)).2.2 : Nat)), ?_, ?_⟩
    · rcases (show z = 0 ∨ z = 1 by omega) with rfl | rfl
      · have key : fX0_howMany m = some (iI ((clS s.1 (tN s.1)).2.1 : Nat)) := by
          unfold fX0_howMany
          refine lpI3 (fun i v1 v2 v3 => v1 = iI ((clS s.1 i).1 : Nat) ∧ v2 = iI ((clS s.1 i).2.1 : Nat) ∧ v3 = iI (i : Nat)) (fun r => r = _) (tN s.1) (by omega) ?_ ?_ ⟨rfl, rfl, rfl⟩
          · rintro nx i _ _ _ hi ⟨rfl, rfl, rfl⟩ hnx
            have e1 : iI (i : Int) + 1 = iI ((i + 1 : Nat) : Int) := iN_add i 1
            have e2 : iI ((clS s.1 i).2.1 : Nat) + 1 = iI (((clS s.1 i).2.1 + 1 : Nat) : Int) := iN_add _ 1
            have b := clS_b w1 i (by omega)
            have cl := clan_lt w1 0 hi
            have hb := bit0 (s := (clS s.1 i).1) (b := i) (by omega) (by omega)
            rw [hC.1.1.1, if_neg (by rw [iI_le (by omega) (by omega) (by omega) (by omega)]; omega), jn_def]
            cases hq : (clS s.1 i).1.testBit i
            · rw [if_pos (hb.mpr hq), lt_def, cc i hi, bd_some]
              simp only [lt_def, e1, e2, iI_or (show (clS s.1 i).1 < 2147483648 by omega) (show clan s.1 0 i < 2147483648 by omega)]
              exact hnx _ _ _ ⟨by rw [clS_s, hq]; rfl, by rw [clS_s, hq]; rfl, rfl⟩
            · rw [if_neg (fun h => by rw [hb.mp h] at hq; exact absurd hq (by decide))]
              simp only [lt_def, e1]
              exact hnx _ _ _ ⟨by rw [clS_s, hq]; rfl, by rw [clS_s, hq]; rfl, rfl⟩
          · rintro nx _ _ _ ⟨rfl, rfl, rfl⟩
            rw [hC.1.1.1, if_pos (by rw [iI_le (by omega) (by omega) (by omega) (by omega)]; omega)]
        unfold fX10_clans
        rw [if_pos (by rfl), key, bd_some, if_pos rfl]
      · have key : fX0_greatest m = some (iI ((clS s.1 (tN s.1)).2.2 : Nat)) := by
          rw [← gMx_clS w1 (tN s.1) (Nat.le_refl _)]
          unfold fX0_greatest
          refine lpI2 (fun i v1 v2 => v1 = iI (gMx s.1 i : Nat) ∧ v2 = iI (i : Nat)) (fun r => r = _) (tN s.1) (by omega) ?_ ?_ ⟨rfl, rfl⟩
          · rintro nx i _ _ hi ⟨rfl, rfl⟩ hnx
            have e1 : iI (i : Int) + 1 = iI ((i + 1 : Nat) : Int) := iN_add i 1
            have cl := clan_lt w1 0 hi
            have b := clS_b w1 i (by omega)
            have g := gMx_clS w1 i (by omega)
            have cb : cbit (clan s.1 0 i) ≤ 10 := cnt_le _ 10
            have ec : fJ6_bitCount_0f7a4 (iI (clan s.1 0 i : Nat)) m = some (iI (cbit (clan s.1 0 i) : Nat)) := c_bits (by omega) m
            rw [hC.1.1.1, if_neg (by rw [iI_le (by omega) (by omega) (by omega) (by omega)]; omega), cc i hi, bd_some, ec, bd_some, lt_def, lt_def, c_jmax _ _ (by omega) (by omega), e1]
            exact hnx _ _ ⟨rfl, rfl⟩
          · rintro nx _ _ ⟨rfl, rfl⟩
            rw [hC.1.1.1, if_pos (by rw [iI_le (by omega) (by omega) (by omega) (by omega)]; omega)]
        unfold fX10_clans
        rw [if_neg (by decide), if_pos (by rfl), key, bd_some, if_neg (by decide)]
    · have hR := hM.1
      have eN : m 72 (0 : Int32).toNatClampNeg = iI (tN s.1 : Nat) := hR.1.1
      have wl := whl_lt w1
      have rc : ∀ i, i < tN s.1 → fX11_clanOf (iI i) (iI (whl s.1 : Nat)) m = some (iI (clan s.1 0 i : Nat)) := fun i hi => r_clanOf hR w1 (X := 0) wl (fun k hk => by
        rw [whl_bit _ hk]
        unfold opnB
        rw [Nat.zero_testBit]
        simp) hi
      unfold fX11_clans
      rw [isIn01 _ h1 h2, bd_some, ite_dec, if_pos c]
      refine lpI4 (fun i v2 v3 v4 v5 => v2 = iI ((clS s.1 i).2.1 : Nat) ∧ v3 = iI ((clS s.1 i).2.2 : Nat) ∧ v4 = iI ((clS s.1 i).1 : Nat) ∧ v5 = iI (i : Nat)) (fun r => r = _) (tN s.1) (by omega) ?_ ?_ ⟨rfl, rfl, rfl, rfl⟩
      · rintro nx i _ _ _ _ hi ⟨rfl, rfl, rfl, rfl⟩ hnx
        have e1 : iI (i : Int) + 1 = iI ((i + 1 : Nat) : Int) := iN_add i 1
        have e2 : iI ((clS s.1 i).2.1 : Nat) + 1 = iI (((clS s.1 i).2.1 + 1 : Nat) : Int) := iN_add _ 1
        have b := clS_b w1 i (by omega)
        have cl := clan_lt w1 0 hi
        have cb : cbit (clan s.1 0 i) ≤ 10 := cnt_le _ 10
        have ec : fX11_bits (iI (clan s.1 0 i : Nat)) m = some (iI (cbit (clan s.1 0 i) : Nat)) := r_bits (by omega) m
        rw [gd_true (by decide), eN, if_neg (by rw [iI_le (by omega) (by omega) (by omega) (by omega)]; omega), r_has _ _ _ (by omega) (by omega), bd_some, jn_def]
        cases hq : (clS s.1 i).1.testBit i
        · rw [if_neg (by decide), r_wholeSet hR w1, bd_some, rc i hi, bd_some, lt_def, lt_def, ec, bd_some, r_most _ _ _ (by omega) (by omega), bd_some]
          simp only [lt_def, e1, e2, iI_or (show (clS s.1 i).1 < 2147483648 by omega) (show clan s.1 0 i < 2147483648 by omega)]
          exact hnx _ _ _ _ ⟨by rw [clS_s, hq]; rfl, by rw [clS_s, hq]; rfl, by rw [clS_s, hq]; rfl, rfl⟩
        · rw [if_pos rfl]
          simp only [lt_def, e1]
          exact hnx _ _ _ _ ⟨by rw [clS_s, hq]; rfl, by rw [clS_s, hq]; rfl, by rw [clS_s, hq]; rfl, rfl⟩
      · rintro nx _ _ _ _ ⟨rfl, rfl, rfl, rfl⟩
        rw [gd_true (by decide), eN, if_pos (by rw [iI_le (by omega) (by omega) (by omega) (by omega)]; omega)]
        rcases (show z = 0 ∨ z = 1 by omega) with rfl | rfl
        · rw [if_pos (by rfl), if_pos rfl]
        · rw [if_neg (by decide), if_neg (by decide)]
  · have n0 : ¬ iI z = (0 : Int32) := by
      rw [i0, iI_eq (by omega) (by omega) (by omega) (by omega)]
      omega
    have n1 : ¬ iI z = (1 : Int32) := by
      rw [one, iI_eq (by omega) (by omega) (by omega) (by omega)]
      omega
    refine ⟨-1, ?_, ?_⟩
    · unfold fX10_clans
      rw [if_neg n0, if_neg n1]
    · unfold fX11_clans
      rw [isIn01 _ h1 h2, bd_some, ite_dec, if_neg c]
