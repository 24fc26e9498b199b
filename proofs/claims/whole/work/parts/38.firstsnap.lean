/-! CALLS: firstSnap -/
set_option maxRecDepth 100000
-- the lowest bit
def lowN (P : Nat → Bool) : Nat → Nat → Nat
  | 0, v => v
  | f + 1, v => if P v = true then v else lowN P f (v + 1)
theorem lowN_at {P : Nat → Bool} {b : Nat} (hb : P b = true) : ∀ {f v : Nat}, v ≤ b → b < v + f → (∀ c, c < b → P c = false) → lowN P f v = b
  | 0, v, h1, h2, _ => by omega
  | f + 1, v, h1, h2, h3 => by
    simp only [lowN]
    by_cases e : v = b
    · subst e
      rw [if_pos hb]
    · rw [h3 v (by omega), if_neg (by decide)]
      exact lowN_at hb (by omega) (by omega) h3
theorem low_ex (P : Nat → Bool) : ∀ k, (∀ b, b < k → P b = false) ∨ ∃ b, b < k ∧ P b = true ∧ ∀ c, c < b → P c = false
  | 0 => Or.inl fun b hb => absurd hb (Nat.not_lt_zero b)
  | k + 1 => by
    rcases low_ex P k with h | ⟨b, h1, h2, h3⟩
    · cases hp : P k
      · refine Or.inl fun b hb => ?_
        by_cases e : b = k
        · rw [e]
          exact hp
        · exact h b (by omega)
      · exact Or.inr ⟨k, by omega, hp, h⟩
    · exact Or.inr ⟨b, by omega, h2, h3⟩
theorem c_lowestOf {P : Nat → Bool} {k : Nat} (hk : k ≤ 10) (h0 : msk P k ≠ 0) (m : pw_Mem) : fX10_lowestOf (iI ((msk P k : Nat) : Int)) m = some (iI ((lowN P 10 0 : Nat) : Int)) := by
  rcases low_ex P k with h | ⟨b, h1, h2, h3⟩
  · exact absurd (msk_z h) h0
  · rw [lowN_at h2 (Nat.zero_le _) (by omega) h3]
    have hm := msk_lt' P hk
    unfold fX10_lowestOf
    refine lpI1 (fun i v => v = iI (i : Nat)) (fun x => x = _) b (by omega) ?_ ?_ rfl
    · rintro nx i _ hi rfl hnx
      have e1 : iI (i : Int) + iI 1 = iI ((i + 1 : Nat) : Int) := iN_add i 1
      have e32 : (32 : Int32) = iI ((32 : Nat) : Int) := rfl
      simp (disch := omega) only [i31, i1', e32, iI_le, iI_bit, msk_bit, h3, lt_def, e1]
      rw [if_neg (by omega), if_neg (by simp; decide)]
      exact hnx _ rfl
    · rintro nx _ rfl
      have e32 : (32 : Int32) = iI ((32 : Nat) : Int) := rfl
      simp (disch := omega) only [i31, i1', e32, iI_le, iI_bit, msk_bit, h2]
      rw [if_neg (by omega), if_pos (by simp [h1])]
def fsV (t : TT) (a : Nat) : Nat → Nat → Int
  | 0, _ => -4
  | f + 1, i => if msk (newY (yrI t i)) (tK t) = 0 then fsV t a f (i + 1) else if a = 0 then ((i + 1 : Nat) : Int) else ((lowN (newY (yrI t i)) 10 0 : Nat) : Int)
theorem msk_eq {P Q : Nat → Bool} {k : Nat} (h : msk P k = msk Q k) {b : Nat} (hb : b < k) : P b = Q b := by
  have h1 := msk_bit P b k
  have h2 := msk_bit Q b k
  rw [h, h2] at h1
  simp [hb] at h1
  exact h1.symm
theorem same_X {t u : TT} (hk : tK u = tK t) (h : ∀ b, b < tK t → tX u b = tX t b) : msk (tX (yrT u)) (tK t) = msk (tX t) (tK t) ↔ msk (newY u) (tK t) = 0 := by
  constructor
  · intro e
    refine msk_z fun b hb => ?_
    have e1 := msk_eq e hb
    rw [tX_yrT (by omega), h b hb] at e1
    have n := newY_X (t := u) (b := b) (by omega)
    rw [h b hb] at n
    cases hn : newY u b
    · rfl
    · have := n hn
      rw [hn, this] at e1
      exact absurd e1 (by decide)
  · intro e
    refine msk_congr fun b hb => ?_
    rw [tX_yrT (by omega), h b hb, msk_0 e b hb, Bool.or_false]
theorem new_X {t u : TT} (hk : tK u = tK t) (h : ∀ b, b < tK t → tX u b = tX t b) : andn (msk (tX (yrT u)) (tK t)) (msk (tX t) (tK t)) = msk (newY u) (tK t) := by
  apply Nat.eq_of_testBit_eq
  intro i
  rw [andn_bit, msk_bit, msk_bit, msk_bit]
  by_cases hb : i < tK t
  · rw [tX_yrT (by omega), h i hb]
    have n := newY_X (t := u) (b := i) (by omega)
    rw [h i hb] at n
    cases hx : tX t i
    · simp
    · cases hn : newY u i
      · simp
      · rw [hx] at n
        exact absurd (n hn) (by decide)
  · simp [hb]
theorem op_firstSnap {m : pw_Mem} (hs : Sim m) (a : Int32) : OpWW (fX10_firstSnap a) (fX11_firstSnap a) m := by
  have hs0 := hs
  obtain ⟨s, hC, hM, w⟩ := hs
  obtain ⟨q, rfl, h1, h2⟩ := rg a
  have w1 := w.1.1
  have hk := w1.1.2.1
  have hy := w.1.2.1
  by_cases c : 0 ≤ q ∧ q ≤ 1
  · obtain ⟨x, rfl⟩ := Int.eq_ofNat_of_zero_le c.1
    have hx : x ≤ 1 := by omega
    obtain ⟨R, hR⟩ : ∃ R, ∀ _ : Unit, fsV s.1 x 60 0 = R := ⟨_, fun _ => rfl⟩
    refine op_calc hC hM w (r := iI R) ?_ ?_
    · have key : ∃ m2 : pw_Mem, fX9_firstToSnap (iI ((1 - x : Nat) : Int)) m = some (iI R, m2) ∧ ∀ c, c < 13 ∨ 24 < c → m2 c = m c := by
        obtain ⟨m1, q1, g1, f1⟩ := c_mind hC w
        unfold fX9_firstToSnap
        rw [q1, bd_some]
        refine lpI2 (fun i v (m6 : pw_Mem) => v = iI ((i + 1 : Nat) : Int) ∧ (∀ _ : Unit, fsV s.1 x (60 - i) i = R) ∧ CT m6 13 (yrI s.1 i) ∧ (∀ b, b < tK s.1 → tX (yrI s.1 i) b = tX s.1 b) ∧ ∀ c, c < 13 ∨ 24 < c → m6 c = m c) (fun r => ∃ m2 : pw_Mem, r = some (iI R, m2) ∧ ∀ c, c < 13 ∨ 24 < c → m2 c = m c) 60 (by omega) ?_ ?_ ⟨rfl, hR, g1, fun _ _ => rfl, f1⟩
        · rintro nx i _ m6 hi ⟨rfl, hv, h6, hX, f6⟩ hnx
          have hyi := yrI_n s.1 i
          obtain ⟨m7, q7, g7, f7⟩ := c_year h6 (WT_yrI w1 i (by omega)) (by omega)
          have f67 : ∀ c, c < 13 ∨ 24 < c → m7 c = m c := fun c hc => by rw [f7 c (by omega), f6 c hc]
          have e13 : m7 13 13 = iI ((msk (tX (yrT (yrI s.1 i))) (tK s.1) : Nat) : Int) := by
            rw [g7.1.2.2.1, (yrT_n _).2.1, hyi.2.1]
          have e1 : m7 1 13 = iI ((msk (tX s.1) (tK s.1) : Nat) : Int) := by
            rw [f67 1 (by omega)]
            exact hC.1.1.2.2.1
          have b1 := msk_lt' (tX (yrT (yrI s.1 i))) hk
          have b2 := msk_lt' (tX s.1) hk
          have eA := same_X (t := s.1) hyi.2.1 hX
          have eB := new_X (t := s.1) hyi.2.1 hX
          have hv := hv ()
          rw [show 60 - i = (59 - i) + 1 by omega] at hv
          simp only [fsV] at hv
          have hvv : ∀ _ : Unit, _ := fun _ => hv
          clear hv
          simp (disch := omega) only [iN_lit, iI_lt, q7, bd2_some, lt_def, iN_add, e13, e1, iI_eq]
          rw [if_neg (by omega)]
          by_cases c0 : msk (newY (yrI s.1 i)) (tK s.1) = 0
          · have := eA.mpr c0
            rw [if_pos (by omega)]
            have hv := hvv ()
            rw [if_pos c0] at hv
            refine hnx _ _ ⟨rfl, fun _ => by rw [show 60 - (i + 1) = 59 - i by omega]; exact hv, g7, fun b hb => ?_, f67⟩
            exact msk_eq this hb
          · have n0 : ¬ msk (tX (yrT (yrI s.1 i))) (tK s.1) = msk (tX s.1) (tK s.1) := fun e => c0 (eA.mp e)
            rw [if_neg (by omega)]
            by_cases cx : x = 0
            · rw [if_neg (by omega)]
              have hv := hvv ()
              rw [if_neg c0, if_pos cx] at hv
              rw [← hv]
              exact ⟨m7, rfl, f67⟩
            · have ee : iI ((msk (tX (yrT (yrI s.1 i))) (tK s.1) : Nat) : Int) &&& (iI ((msk (tX s.1) (tK s.1) : Nat) : Int) ^^^ (-iI ((1 : Nat) : Int))) = iI ((msk (newY (yrI s.1 i)) (tK s.1) : Nat) : Int) := by
                rw [← eB, iI_neg]
                exact iI_andn (by omega) (by omega)
              rw [if_pos (by omega), ee, c_lowestOf hk c0, bd_some]
              have hv := hvv ()
              rw [if_neg c0, if_neg cx] at hv
              rw [← hv]
              exact ⟨m7, rfl, f67⟩
        · rintro nx _ m6 ⟨rfl, hv, h6, hX, f6⟩
          simp (disch := omega) only [iN_lit, iI_lt]
          have e4 : R = -4 := (hv ()).symm
          rw [if_pos (by omega), e4]
          exact ⟨m6, by rw [iI_neg]; rfl, f6⟩
      obtain ⟨m2, q2, f2⟩ := key
      refine ⟨m2, ?_, fun c hc => f2 c (by omega)⟩
      unfold fX10_firstSnap
      simp (disch := omega) only [iN_lit, c_isUpTo, bd_some, ite_dec, iI_eq]
      rw [if_pos (by omega)]
      rcases (show x = 0 ∨ x = 1 by omega) with rfl | rfl
      · rw [if_pos (by omega)]
        have : fX9_firstToSnap (iI ((1 : Nat) : Int)) m = some (iI R, m2) := q2
        rw [this, bd2_some]
      · rw [if_neg (by omega)]
        have : fX9_firstToSnap (iI ((0 : Nat) : Int)) m = some (iI R, m2) := q2
        rw [this, bd2_some]
    · intro m1 hM1
      obtain ⟨m2, q2, g2, f2⟩ := r_work hM1 w
      unfold fX11_firstSnap
      have hI : fX11_isIn (iI (x : Int)) 0 1 m1 = some true := by
        rw [i0, one, r_isIn _ _ _ _ (by omega) (by omega) (by omega), decide_eq_true (by omega)]
      rw [hI, bd_some, if_pos rfl, q2, bd_some]
      refine lpI2 (fun i v (m6 : pw_Mem) => v = iI ((i + 1 : Nat) : Int) ∧ (∀ _ : Unit, fsV s.1 x (60 - i) i = R) ∧ RT m6 73 (yrI s.1 i) ∧ ∀ c, c ≠ 73 → c ≠ 76 → m6 c = m1 c) (fun r => ∃ m2 : pw_Mem, r = some (iI R, m2) ∧ m2 71 5 = m1 71 5 ∧ ∀ c, (c < 71 ∨ c = 72 ∨ c = 74 ∨ 80 ≤ c) → m2 c = m1 c) 60 (by omega) ?_ ?_ ⟨rfl, hR, g2, fun c h _ => f2 c h⟩
      · rintro nx i _ m6 hi ⟨rfl, hv, h6, f6⟩ hnx
        have hyi := yrI_n s.1 i
        obtain ⟨m7, q7, g7, f7⟩ := r_year h6 (WT_yrI w1 i (by omega)) (by omega) (by decide)
        rw [hyi.2.1] at q7
        have f67 : ∀ c, c ≠ 73 → c ≠ 76 → m7 c = m1 c := fun c h1 h3 => by rw [f7 c h1 h3, f6 c h1 h3]
        have b2 := msk_lt' (newY (yrI s.1 i)) hk
        have hv := hv ()
        rw [show 60 - i = (59 - i) + 1 by omega] at hv
        simp only [fsV] at hv
        have hvv : ∀ _ : Unit, _ := fun _ => hv
        clear hv
        have n60 : ¬ (60 : Int32) < iI ((i + 1 : Nat) : Int) := by
          rw [iN_lit, iI_lt (by omega) (by omega) (by omega) (by omega)]
          omega
        have e1 : iI ((i + 1 : Nat) : Int) + 1 = iI ((i + 1 + 1 : Nat) : Int) := iN_add (i + 1) 1
        have hF : (m7 71 5 = m1 71 5 ∧ ∀ c, (c < 71 ∨ c = 72 ∨ c = 74 ∨ 80 ≤ c) → m7 c = m1 c) := ⟨by rw [f67 71 (by omega) (by omega)], fun c hc => f67 c (by omega) (by omega)⟩
        rw [if_neg n60, q7, bd2_some]
        by_cases c0 : msk (newY (yrI s.1 i)) (tK s.1) = 0
        · have y0 : iI ((msk (newY (yrI s.1 i)) (tK s.1) : Nat) : Int) = 0 := by
            rw [c0]
            rfl
          refine lpI1 (fun j v => v = iI (j : Nat)) (fun r => ∃ m2 : pw_Mem, r = some (iI R, m2) ∧ m2 71 5 = m1 71 5 ∧ ∀ c, (c < 71 ∨ c = 72 ∨ c = 74 ∨ 80 ≤ c) → m2 c = m1 c) 0 (by omega) ?_ ?_ rfl
          · rintro nx2 j _ hj
            omega
          · rintro nx2 _ rfl
            rw [jn_def, if_pos y0, if_pos y0, lt_def, e1]
            have hv := hvv ()
            rw [if_pos c0] at hv
            exact hnx _ _ ⟨rfl, fun _ => by rw [show 60 - (i + 1) = 59 - i by omega]; exact hv, g7, f67⟩
        · have y0 : ¬ iI ((msk (newY (yrI s.1 i)) (tK s.1) : Nat) : Int) = 0 := by
            rw [i0, iI_eq (by omega) (by omega) (by omega) (by omega)]
            omega
          rcases low_ex (newY (yrI s.1 i)) (tK s.1) with h | ⟨b, hb1, hb2, hb3⟩
          · exact absurd (msk_z h) c0
          · refine lpI1 (fun j v => v = iI (j : Nat)) (fun r => ∃ m2 : pw_Mem, r = some (iI R, m2) ∧ m2 71 5 = m1 71 5 ∧ ∀ c, (c < 71 ∨ c = 72 ∨ c = 74 ∨ 80 ≤ c) → m2 c = m1 c) b (by omega) ?_ ?_ rfl
            · rintro nx2 j _ hj rfl hnx2
              have e1 : iI (j : Int) + 1 = iI ((j + 1 : Nat) : Int) := iN_add j 1
              rw [jn_def, if_neg y0, r_has _ _ _ (by omega) (by omega), bd_some, msk_bit, hb3 j hj, Bool.and_false, if_neg (by decide), lt_def, e1]
              exact hnx2 _ rfl
            · rintro nx2 _ rfl
              rw [jn_def, if_neg y0, r_has _ _ _ (by omega) (by omega), bd_some, msk_bit, hb2, decide_eq_true hb1, if_pos (by rfl), if_neg y0]
              have hv := hvv ()
              rw [if_neg c0] at hv
              by_cases cx : x = 0
              · subst cx
                rw [if_pos rfl] at hv
                rw [if_pos (by rfl), ← hv]
                exact ⟨m7, rfl, hF⟩
              · have x1 : x = 1 := by omega
                subst x1
                rw [if_neg cx, lowN_at hb2 (Nat.zero_le _) (by omega) hb3] at hv
                rw [if_neg (by decide), ← hv]
                exact ⟨m7, rfl, hF⟩
      · rintro nx _ m6 ⟨rfl, hv, h6, f6⟩
        have y60 : (60 : Int32) < iI ((60 + 1 : Nat) : Int) := by
          rw [iN_lit, iI_lt (by omega) (by omega) (by omega) (by omega)]
          omega
        have e4 : R = -4 := (hv ()).symm
        rw [if_pos y60, e4]
        exact ⟨m6, by rfl, by rw [f6 71 (by omega) (by omega)], fun c hc => f6 c (by omega) (by omega)⟩
  · refine op_same hs0 (r := -1) ?_ ?_
    · unfold fX10_firstSnap
      simp (disch := omega) only [iN_lit, c_isUpTo, bd_some, ite_dec]
      rw [if_neg (by omega)]
    · unfold fX11_firstSnap
      simp (disch := omega) only [iN_lit, r_isIn, bd_some, ite_dec]
      rw [if_neg (by omega)]
