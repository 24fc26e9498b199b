/-! CALLS: christmas -/
set_option maxRecDepth 100000
theorem cnt_or {P Q : Nat → Bool} : ∀ {k : Nat}, (∀ b, b < k → P b = true → Q b = false) → cnt P k + cnt Q k = cnt (fun b => P b || Q b) k
  | 0, _ => rfl
  | k + 1, h => by
    have ih := cnt_or (P := P) (Q := Q) (k := k) (fun b hb => h b (by omega))
    have h1 := h k (by omega)
    simp only [cnt]
    by_cases hp : P k = true
    · have hq := h1 hp
      simp only [hp, hq, Bool.or_false, if_true, Bool.false_eq_true, if_false]
      omega
    · by_cases hq : Q k = true
      · simp only [hp, hq, Bool.or_true, if_true, Bool.false_eq_true, if_false]
        omega
      · simp only [hp, hq, Bool.or_false, Bool.false_eq_true, if_false]
        omega
/-- snapped in u, whole in t -/
def nw (t u : TT) (b : Nat) : Bool := tX u b && !tX t b
theorem tX_tryT {u : TT} {b : Nat} (hb : b < tK u) : tX (tryT u) b = (tX u b || ovr u b) := by
  have e : tX (tryT u) b = (tX u b || (decide (b < tK u) && ovr u b)) := rfl
  rw [e]
  simp only [hb, decide_true, Bool.true_and]
theorem ovr_X {u : TT} {b : Nat} (h : ovr u b = true) : tX u b = false := by
  unfold ovr at h
  cases hx : tX u b
  · rfl
  · rw [hx] at h
    simp at h
theorem nw_try {t u : TT} {b : Nat} (hb : b < tK u) (hm : tX t b = true → tX u b = true) : nw t (tryT u) b = (nw t u b || ovr u b) := by
  unfold nw
  rw [tX_tryT hb]
  cases hx : tX t b
  · simp
  · have hu := hm hx
    have ho : ovr u b = false := by
      cases h : ovr u b
      · rfl
      · have := ovr_X h
        rw [hu] at this
        exact absurd this (by decide)
    rw [ho, hu]
    rfl
theorem nw_cnt {t u : TT} {k : Nat} (hk : tK u = k) (hm : ∀ b, b < k → tX t b = true → tX u b = true) : cnt (nw t u) k + cnt (ovr u) k = cnt (nw t (tryT u)) k := by
  rw [cnt_or]
  · exact cnt_congr fun b hb => (nw_try (by omega) (hm b hb)).symm
  · intro b hb h
    unfold nw at h
    cases ho : ovr u b
    · rfl
    · rw [ovr_X ho] at h
      simp at h
theorem nw_msk {t u : TT} {k : Nat} (hk : tK u = k) (hm : ∀ b, b < k → tX t b = true → tX u b = true) : msk (nw t u) k ||| msk (ovr u) k = msk (nw t (tryT u)) k := by
  rw [msk_or2]
  exact msk_congr fun b hb => (nw_try (by omega) (hm b hb)).symm
theorem nw_0 (t : TT) (k : Nat) : cnt (nw t t) k = 0 ∧ msk (nw t t) k = 0 := by
  have : ∀ b, b < k → nw t t b = false := fun b _ => by
    unfold nw
    cases tX t b <;> rfl
  exact ⟨cnt_z this, msk_z this⟩
def gT (t : TT) (x : Nat) : Nat → TT
  | 0 => t
  | i + 1 => tryT (sP (gT t x i) (up1 (tP (gT t x i)) i x))
theorem gT_s (t : TT) (x i : Nat) : gT t x (i + 1) = tryT (sP (gT t x i) (up1 (tP (gT t x i)) i x)) := rfl
theorem try_n (t : TT) : tN (tryT t) = tN t ∧ tK (tryT t) = tK t ∧ tC (tryT t) = tC t ∧ tY (tryT t) = tY t := ⟨rfl, rfl, rfl, rfl⟩
theorem sP_n (t : TT) (f : Nat → Nat) : tN (sP t f) = tN t ∧ tK (sP t f) = tK t ∧ tX (sP t f) = tX t := ⟨rfl, rfl, rfl⟩
theorem gT_n (t : TT) (x : Nat) : ∀ i, tN (gT t x i) = tN t ∧ tK (gT t x i) = tK t
  | 0 => ⟨rfl, rfl⟩
  | i + 1 => by
    obtain ⟨a, b⟩ := gT_n t x i
    rw [gT_s, (try_n _).1, (try_n _).2.1, (sP_n _ _).1, (sP_n _ _).2.1]
    exact ⟨a, b⟩
theorem WT_gT {t : TT} (w : WT t) {x : Nat} (hx : x ≤ 30) : ∀ i, WT (gT t x i)
  | 0 => w
  | i + 1 => WT_tryT (WT_move (WT_gT w hx i) hx)
theorem gT_m {t : TT} {x b : Nat} (hb : b < tK t) (h : tX t b = true) : ∀ i, tX (gT t x i) b = true
  | 0 => h
  | i + 1 => by
    rw [gT_s, tX_tryT (by rw [(sP_n _ _).2.1, (gT_n t x i).2]; exact hb), (sP_n _ _).2.2, gT_m hb h i]
    rfl
theorem isIn02 {z : Int} (m : pw_Mem) (h1 : -2147483648 ≤ z) (h2 : z < 2147483648) : fX11_isIn (iI z) 0 2 m = some (decide (0 ≤ z ∧ z ≤ 2)) := r_isIn z 0 2 m (by omega) (by omega) (by omega)
theorem op_christmas {m : pw_Mem} (hs : Sim m) (a : Int32) : OpWW (fX10_christmas a) (fX11_christmas a) m := by
  have hs0 := hs
  obtain ⟨s, hC, hM, w⟩ := hs
  obtain ⟨z, rfl, h1, h2⟩ := rg a
  have w1 := w.1.1
  have h7 := w1.1.1
  have hk := w1.1.2.1
  have e0 : (0 : Int32) = iI 0 := rfl
  have e1 : (1 : Int32) = iI 1 := rfl
  have e2 : (2 : Int32) = iI 2 := rfl
  obtain ⟨X, hX, hx30⟩ : ∃ X, X = meetN s.1 30 ∧ X ≤ 30 := ⟨_, rfl, meetN_le _ _⟩
  by_cases c0 : z = 0
  · subst c0
    refine op_same hs0 (r := iI (X : Nat)) ?_ ?_
    · unfold fX10_christmas
      rw [if_pos (by rfl), c_meet hC.1 w1, bd_some, hX]
    · unfold fX11_christmas
      rw [isIn02 _ h1 h2, bd_some, ite_dec, if_pos (by omega), r_meet hM.1 w1, bd_some, if_neg (by decide), if_pos (by decide), hX]
  · by_cases c1 : z = 1
    · subst c1
      refine op_same hs0 (r := iI (farV s.1 X : Nat)) ?_ ?_
      · unfold fX10_christmas
        rw [if_neg (by decide), if_pos (by rfl), c_meet hC.1 w1, bd_some, ← hX, c_farTo hC.1 w1 hx30, bd_some]
      · unfold fX11_christmas
        rw [isIn02 _ h1 h2, bd_some, ite_dec, if_pos (by omega), r_meet hM.1 w1, bd_some, if_neg (by decide), if_neg (by decide), ← hX, r_farAll hM.1 w1 hx30, bd_some]
    · by_cases c2 : z = 2
      · subst c2
        refine op_calc hC hM w (r := iI (cnt (nw s.1 (gT s.1 X (tN s.1))) (tK s.1) : Nat)) ?_ ?_
        · obtain ⟨m1, q1, g1, f1⟩ := c_mind hC w
          have key : ∃ m2 : pw_Mem, fX4_snappedByMeeting m = some (iI (cnt (nw s.1 (gT s.1 X (tN s.1))) (tK s.1) : Nat), m2) ∧ ∀ c, c < 13 ∨ 24 < c → m2 c = m c := by
            unfold fX4_snappedByMeeting
            rw [c_meet hC.1 w1, bd_some, ← hX, q1, bd_some]
            refine lpI3 (fun i v3 v4 (m5 : pw_Mem) => v3 = iI (cnt (nw s.1 (gT s.1 X i)) (tK s.1) : Nat) ∧ v4 = iI (i : Nat) ∧ CT m5 13 (gT s.1 X i) ∧ ∀ c, c < 13 ∨ 24 < c → m5 c = m c) (fun r => ∃ m2 : pw_Mem, r = some (iI (cnt (nw s.1 (gT s.1 X (tN s.1))) (tK s.1) : Nat), m2) ∧ ∀ c, c < 13 ∨ 24 < c → m2 c = m c) (tN s.1) (by omega) ?_ ?_ ⟨by rw [show gT s.1 X 0 = s.1 from rfl, (nw_0 s.1 (tK s.1)).1]; rfl, rfl, g1, f1⟩
            · rintro nx i _ _ m5 hi ⟨rfl, rfl, h5, f5⟩ hnx
              have gn := gT_n s.1 X i
              have wi := WT_gT w1 hx30 i
              obtain ⟨m6, q6, g6, f6⟩ := c_moves h5 wi (p := i) (x := X) (by omega) hx30
              have en : m5 13 11 = iI (tN s.1 : Nat) := by rw [h5.1.1, gn.1]
              have ee := nw_cnt (t := s.1) (u := sP (gT s.1 X i) (up1 (tP (gT s.1 X i)) i X)) (k := tK s.1) (by rw [(sP_n _ _).2.1, gn.2]) (fun b hb h => by rw [(sP_n _ _).2.2]; exact gT_m hb h i)
              have en2 : cnt (nw s.1 (sP (gT s.1 X i) (up1 (tP (gT s.1 X i)) i X))) (tK s.1) = cnt (nw s.1 (gT s.1 X i)) (tK s.1) := rfl
              have ei : iI (i : Int) + 1 = iI ((i + 1 : Nat) : Int) := iN_add i 1
              rw [gn.2] at q6
              rw [en2] at ee
              rw [en, if_neg (by rw [iI_le (by omega) (by omega) (by omega) (by omega)]; omega), q6, bd2_some, lt_def, lt_def, iN_add, ee, ei]
              exact hnx _ _ _ ⟨rfl, rfl, g6, fun c hc => by rw [f6 c (by omega) (by omega) (by omega), f5 c hc]⟩
            · rintro nx _ _ m5 ⟨rfl, rfl, h5, f5⟩
              have gn := gT_n s.1 X (tN s.1)
              have en : m5 13 11 = iI (tN s.1 : Nat) := by rw [h5.1.1, gn.1]
              rw [en, if_pos (by rw [iI_le (by omega) (by omega) (by omega) (by omega)]; omega)]
              exact ⟨m5, rfl, f5⟩
          obtain ⟨m2, q2, f2⟩ := key
          refine ⟨m2, ?_, fun c hc => f2 c (by omega)⟩
          unfold fX10_christmas
          rw [if_neg (by decide), if_neg (by decide), if_pos (by rfl), q2, bd2_some]
        · intro m1 hM1
          obtain ⟨m2, q2, g2, f2⟩ := r_work hM1 w
          unfold fX11_christmas
          rw [isIn02 _ h1 h2, bd_some, ite_dec, if_pos (by omega), r_meet hM1.1 w1, bd_some, if_pos (by decide), q2, bd_some, ← hX]
          have e0c : (0 : Int32).toNatClampNeg = 0 := rfl
          refine lpI3 (fun i v3 v4 (m5 : pw_Mem) => v3 = iI (msk (nw s.1 (gT s.1 X i)) (tK s.1) : Nat) ∧ v4 = iI (i : Nat) ∧ RT m5 73 (gT s.1 X i) ∧ ∀ c, c ≠ 73 → m5 c = m1 c) (fun r => ∃ m2 : pw_Mem, r = some (iI (cnt (nw s.1 (gT s.1 X (tN s.1))) (tK s.1) : Nat), m2) ∧ m2 71 5 = m1 71 5 ∧ ∀ c, (c < 71 ∨ c = 72 ∨ c = 74 ∨ 80 ≤ c) → m2 c = m1 c) (tN s.1) (by omega) ?_ ?_ ⟨by rw [show gT s.1 X 0 = s.1 from rfl, (nw_0 s.1 (tK s.1)).2]; rfl, rfl, g2, f2⟩
          · rintro nx i _ _ m5 hi ⟨rfl, rfl, h5, f5⟩ hnx
            have gn := gT_n s.1 X i
            have wi := WT_gT w1 hx30 i
            obtain ⟨m6, q6, g6, f6⟩ := r_goesTo h5 wi (p := i) (x := X) (by omega) hx30
            have en : m5 73 0 = iI (tN s.1 : Nat) := by rw [h5.1.1, gn.1]
            have ee := nw_msk (t := s.1) (u := sP (gT s.1 X i) (up1 (tP (gT s.1 X i)) i X)) (k := tK s.1) (by rw [(sP_n _ _).2.1, gn.2]) (fun b hb h => by rw [(sP_n _ _).2.2]; exact gT_m hb h i)
            have en2 : msk (nw s.1 (sP (gT s.1 X i) (up1 (tP (gT s.1 X i)) i X))) (tK s.1) = msk (nw s.1 (gT s.1 X i)) (tK s.1) := rfl
            have ei : iI (i : Int) + 1 = iI ((i + 1 : Nat) : Int) := iN_add i 1
            have b1 := msk_lt' (nw s.1 (gT s.1 X i)) hk
            have b2 := msk_lt' (ovr (sP (gT s.1 X i) (up1 (tP (gT s.1 X i)) i X))) hk
            rw [gn.2] at q6
            rw [en2] at ee
            rw [gd_true (by decide), e0c, en, if_neg (by rw [iI_le (by omega) (by omega) (by omega) (by omega)]; omega), q6, bd2_some, lt_def, lt_def, iI_or (by omega) (by omega), ee, ei]
            exact hnx _ _ _ ⟨rfl, rfl, g6, fun c hc => by rw [f6 c hc, f5 c hc]⟩
          · rintro nx _ _ m5 ⟨rfl, rfl, h5, f5⟩
            have gn := gT_n s.1 X (tN s.1)
            have en : m5 73 0 = iI (tN s.1 : Nat) := by rw [h5.1.1, gn.1]
            rw [gd_true (by decide), e0c, en, if_pos (by rw [iI_le (by omega) (by omega) (by omega) (by omega)]; omega), r_bitsM _ hk, bd_some]
            exact ⟨m5, rfl, by rw [f5 71 (by omega)], fun c hc => f5 c (by omega)⟩
      · have n0 : ¬ iI z = (0 : Int32) := by
          rw [e0, iI_eq (by omega) (by omega) (by omega) (by omega)]
          omega
        have n1 : ¬ iI z = (1 : Int32) := by
          rw [e1, iI_eq (by omega) (by omega) (by omega) (by omega)]
          omega
        have n2 : ¬ iI z = (2 : Int32) := by
          rw [e2, iI_eq (by omega) (by omega) (by omega) (by omega)]
          omega
        refine op_same hs0 (r := -1) ?_ ?_
        · unfold fX10_christmas
          rw [if_neg n0, if_neg n1, if_neg n2]
        · unfold fX11_christmas
          rw [isIn02 _ h1 h2, bd_some, ite_dec, if_neg (by omega)]
