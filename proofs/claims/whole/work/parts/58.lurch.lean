/-! CALLS: lurch -/
set_option maxRecDepth 100000
/-- the town without band b -/
def tU (t : TT) (b : Nat) : TT := sX t (upB (tX t) b true)
theorem msk_upB (P : Nat → Bool) {b k : Nat} (h : b < k) : msk (upB P b true) k = msk P k ||| 2 ^ b := by
  apply Nat.eq_of_testBit_eq
  intro i
  rw [Nat.testBit_or, msk_bit, msk_bit, Nat.testBit_two_pow]
  by_cases e : i = b
  · subst e
    rw [upB_eq]
    simp [h]
  · rw [upB_ne e]
    have : ¬ b = i := fun q => e q.symm
    simp [this]
def lrB (h : ShT) (u : TT) (p : Nat) : Bool := decide (hE h p = lst (hS h)) || decide (hE h p = lean u p)
theorem c_leans {m : pw_Mem} {s : SS} (hC : CS m s) (w : WS s) {n : Nat} (hn : n < 8) (hh : hH (s.2.2 n) = 2) (hL7 : hL (s.2.2 n) ≤ tN s.1) {u : TT} (wu : WT u) (hN : m 13 11 = iI (tN s.1 : Nat)) (hl : ∀ p, p < tN s.1 → m 16 p = iI (lean u p)) : fX2_leansAs (55 + 2 * n) m = some (allB (lrB (s.2.2 n) u) (hL (s.2.2 n))) := by
  obtain ⟨w3, wL, wE⟩ := (w.2.2 n hn).2.2 hh
  have h7 := w.1.1.1.1
  have e5 := (c_rw hC hn hh).1
  have lb := lst_b (hS (s.2.2 n))
  unfold fX2_leansAs
  refine lpI1 (fun i v => v = iI (i : Nat) ∧ ∀ j, j < i → lrB (s.2.2 n) u j = true) (fun r => r = some (allB (lrB (s.2.2 n) u) (hL (s.2.2 n)))) (hL (s.2.2 n)) (by omega) ?_ ?_ ⟨rfl, fun j hj => absurd hj (Nat.not_lt_zero j)⟩
  · rintro nx i _ hi ⟨rfl, hlow⟩ hnx
    have we := (wE i hi).1
    have ll := lean_le wu i
    have el : m (13 + 3) (iI (i : Int)).toNatClampNeg = iI (lean u i) := by
      rw [clN (by omega)]
      exact hl i (by omega)
    rw [e5, leF (by omega), hN, leF (by omega), c_skip hC w hn hh hi, bd_some, jn_def, lt_def, inc1]
    by_cases k1 : hE (s.2.2 n) i = lst (hS (s.2.2 n))
    · rw [decide_eq_true k1, itT]
      exact hnx _ ⟨rfl, all_s hlow (by unfold lrB; rw [decide_eq_true k1]; rfl)⟩
    · rw [decide_eq_false k1, itF, c_at hC w hn hh hi, bd_some, gdN (by omega), el]
      by_cases k2 : hE (s.2.2 n) i = lean u i
      · rw [eqT k2]
        exact hnx _ ⟨rfl, all_s hlow (by unfold lrB; rw [decide_eq_true k2, Bool.or_true])⟩
      · rw [eqF (by omega), allB_f (j := i) (by unfold lrB; rw [decide_eq_false k1, decide_eq_false k2]; rfl) hi]
  · rintro nx _ ⟨rfl, hlow⟩
    rw [e5, leT (by omega), allB_t.mpr hlow]
theorem r_lurch {m : pw_Mem} {s : SS} (hM : MS m s) (w : WS s) {n : Nat} (hn : n < 8) (hh : hH (s.2.2 n) = 2) (hL7 : hL (s.2.2 n) ≤ tN s.1) {u : TT} (wu : WT u) (hu : RT m 73 u) (hN : tN u = tN s.1) : fX11_isLurching (iI (n : Int)) m = some (allB (lrB (s.2.2 n) u) (hL (s.2.2 n))) := by
  obtain ⟨w3, wL, wE⟩ := (w.2.2 n hn).2.2 hh
  have h7 := w.1.1.1.1
  have lb := lst_b (hS (s.2.2 n))
  obtain ⟨eL, eS, -, -⟩ := r_rw hM w hn hh
  unfold fX11_isLurching
  refine lpI1 (fun i v => v = iI (i : Nat) ∧ ∀ j, j < i → lrB (s.2.2 n) u j = true) (fun r => r = some (allB (lrB (s.2.2 n) u) (hL (s.2.2 n)))) (hL (s.2.2 n)) (by omega) ?_ ?_ ⟨rfl, fun j hj => absurd hj (Nat.not_lt_zero j)⟩
  · rintro nx i _ hi ⟨rfl, hlow⟩ hnx
    obtain ⟨ea, eE, we, h8⟩ := r_el hM w hn hh hi
    have ll := lean_le wu i
    have pr : fX11_pulled 73 (iI (i : Int)) 1 m = some (iI ((pld u i true : Nat) : Int)) := by
      rw [sgT]
      exact r_pulled hu wu (by omega) true
    have pl : fX11_pulled 73 (iI (i : Int)) (-1) m = some (iI ((pld u i false : Nat) : Int)) := by
      rw [sgF]
      exact r_pulled hu wu (by omega) false
    have hle : (pld u i true : Int) - (pld u i false : Int) = lean u i := rfl
    rw [gdN (by omega), eL, leF (by omega), ea, gdN (by omega), lt_def, eE, gdN (by omega), eS, r_leastOf _ _ w3, bd_some, jn_def, lt_def, inc1]
    by_cases k1 : hE (s.2.2 n) i = lst (hS (s.2.2 n))
    · rw [eqT k1]
      exact hnx _ ⟨rfl, all_s hlow (by unfold lrB; rw [decide_eq_true k1]; rfl)⟩
    · rw [eqF (by omega), pr, bd_some, pl, bd_some, iI_sub, hle]
      by_cases k2 : hE (s.2.2 n) i = lean u i
      · rw [eqT k2]
        exact hnx _ ⟨rfl, all_s hlow (by unfold lrB; rw [decide_eq_true k2, Bool.or_true])⟩
      · rw [eqF (by omega), allB_f (j := i) (by unfold lrB; rw [decide_eq_false k1, decide_eq_false k2]; rfl) hi]
  · rintro nx _ ⟨rfl, hlow⟩
    rw [gdN (by omega), eL, leT (by omega), allB_t.mpr hlow]
def lrC (h : ShT) (t : TT) (b : Nat) : Bool := !tX t b && allB (lrB h (tU t b)) (hL h)
theorem c_gone {m : pw_Mem} {s : SS} (hC : CS m s) (w : WS s) {n : Nat} (hn : n < 8) (hh : hH (s.2.2 n) = 2) (hL7 : hL (s.2.2 n) ≤ tN s.1) : ∃ m2 : pw_Mem, fX2_goneBy (55 + 2 * n) m = some (iI (msk (lrC (s.2.2 n) s.1) (tK s.1) : Nat), m2) ∧ ∀ c, c < 13 ∨ 24 < c → m2 c = m c := by
  have w1 := w.1.1
  have hk := w1.1.2.1
  obtain ⟨m1, q1, g1, f1⟩ := c_mind hC w
  unfold fX2_goneBy
  rw [q1, bd_some]
  refine lpI3 (fun i v2 v3 (m4 : pw_Mem) => v2 = iI (msk (lrC (s.2.2 n) s.1) i : Nat) ∧ v3 = iI (i : Nat) ∧ (∃ f, CT m4 13 (sX s.1 f)) ∧ ∀ c, c < 13 ∨ 24 < c → m4 c = m c) (fun r => ∃ m2 : pw_Mem, r = some (iI (msk (lrC (s.2.2 n) s.1) (tK s.1) : Nat), m2) ∧ ∀ c, c < 13 ∨ 24 < c → m2 c = m c) (tK s.1) (by omega) ?_ ?_ ⟨rfl, rfl, ⟨tX s.1, g1⟩, f1⟩
  · rintro nx i _ _ m4 hi ⟨rfl, rfl, ⟨f, g4⟩, f4⟩ hnx
    have hC4 := CS_mind hC f4
    have hb := msk_lt' (tX s.1) hk
    have p2 : (2 : Nat) ^ i < 2 ^ 10 := Nat.pow_lt_pow_right (by omega) (by omega)
    rw [hC4.1.1.2.1, leF (by omega), c_isSnapped hC4.1 w1 hi, bd_some, jn_def, hC4.1.1.2.2.1]
    cases hx : tX s.1 i
    · have sh : (1 : Int32) <<< (iI (i : Int) &&& 31) = iI ((2 ^ i : Nat) : Int) := iI_shl (by omega)
      have mo : iI ((msk (tX s.1) (tK s.1) : Nat) : Int) ||| iI ((2 ^ i : Nat) : Int) = iI ((msk (upB (tX s.1) i true) (tK s.1) : Nat) : Int) := by
        rw [iI_or (by omega) (by omega), msk_upB _ hi]
      have g5 := CT_snap (f := upB (tX s.1) i true) (x := msk (upB (tX s.1) i true) (tK s.1)) g4 rfl
      have g5' : CT (pw_up m4 13 13 (iI ((msk (upB (tX s.1) i true) (tK s.1) : Nat) : Int))) 13 (tU s.1 i) := g5
      have wu : WT (tU s.1 i) := WT_X w1 _
      obtain ⟨m8, q8, l8, f8⟩ := c_weighLeans g5' wu
      have g8 : CT m8 13 (tU s.1 i) := CT_frame3 g5' (fun c _ _ hc => f8 c hc)
      have fr : ∀ c, c < 13 ∨ 24 < c → m8 c = m c := fun c hc => by rw [f8 c (by omega), up_oc (by omega), f4 c hc]
      have hC8 := CS_mind hC fr
      have cl := c_leans hC8 w hn hh hL7 wu g8.1.1 (fun p hp => l8 p hp)
      rw [itF, sh, mo, lt_def, q8, bd_some, cl, bd_some, jn_def]
      have hl : lrC (s.2.2 n) s.1 i = allB (lrB (s.2.2 n) (tU s.1 i)) (hL (s.2.2 n)) := by
        unfold lrC
        rw [hx]
        rfl
      rw [← hl]
      cases hk2 : lrC (s.2.2 n) s.1 i
      · rw [itF]
        simp only [lt_def, inc1, mskF hk2 (show i < 30 by omega)]
        exact hnx _ _ _ ⟨rfl, rfl, ⟨_, g8⟩, fr⟩
      · rw [itT]
        rw [← sh]
        simp only [lt_def, inc1, mskT hk2 (show i < 30 by omega)]
        exact hnx _ _ _ ⟨rfl, rfl, ⟨_, g8⟩, fr⟩
    · rw [itT]
      simp only [lt_def, inc1]
      refine hnx _ _ _ ⟨?_, rfl, ⟨f, g4⟩, f4⟩
      rw [mskK (by unfold lrC; rw [hx]; rfl)]
  · rintro nx _ _ m4 ⟨rfl, rfl, ⟨f, g4⟩, f4⟩
    have hC4 := CS_mind hC f4
    rw [hC4.1.1.2.1, leT (by omega)]
    exact ⟨m4, rfl, f4⟩
theorem op_lurch {m : pw_Mem} (hs : Sim m) (a1 a2 : Int32) : OpWW (fX10_lurch a1 a2) (fX11_lurch a1 a2) m := by
  have hs0 := hs
  obtain ⟨s, hC, hM, w⟩ := hs
  obtain ⟨d, rfl, h1, h2⟩ := rg a1
  obtain ⟨z, rfl, h5, h6⟩ := rg a2
  have w1 := w.1.1
  have h7 := w1.1.1
  have hk := w1.1.2.1
  have kb := noRow_b s d (-1)
  have wr : ∀ m', MS m' s → fX11_wrongRow (iI d) (-1) m' = some (iI (noRow s d (-1))) := fun _ h => r_wr1 h w h1 h2
  have eN : ∀ m', MS m' s → m' 72 (0 : Int32).toNatClampNeg = iI (tN s.1 : Nat) := fun _ h => h.1.1.1
  have n13 : ¬ (-13 : Int32) = 0 := by decide
  by_cases cz : 0 ≤ z ∧ z ≤ 1
  · by_cases c : noRow s d (-1) = 0
    · obtain ⟨n, hn, rfl, hh, -⟩ := noRow_0 c
      obtain ⟨w3, wL, wE⟩ := (w.2.2 n hn).2.2 hh
      have r0 : iI (noRow s (n : Int) (-1)) = 0 := by rw [c]; rfl
      have hsh : 0 ≤ (n : Int) ∧ (n : Int) < 8 := by omega
      have e5 := (c_rw hC hn hh).1
      by_cases cL : hL (s.2.2 n) ≤ tN s.1
      · obtain ⟨P, hP⟩ : ∃ P, P = lrC (s.2.2 n) s.1 := ⟨_, rfl⟩
        have mb := msk_lt' P hk
        refine op_calc hC hM w (r := iI (if z = 0 then (msk P (tK s.1) : Nat) else (cnt P (tK s.1) : Nat))) ?_ ?_
        · obtain ⟨m2, q2, f2⟩ := c_gone hC w hn hh cL
          rw [← hP] at q2
          refine ⟨m2, ?_, fun c hc => f2 c (by omega)⟩
          unfold fX10_lurch
          rw [c_isShelf m h1 h2, bd_some, ite_dec, if_pos hsh, upTo1 _ h5 h6, bd_some, ite_dec, if_pos cz, c_rowRef hC w h1 h2, bd_some, r0, if_pos rfl, gdN (by omega), cl55 hn, e5, hC.1.1.1, leT (by omega), gdN (by omega), q2, bd2_some]
          rcases (show z = 0 ∨ z = 1 by omega) with rfl | rfl
          · rw [if_pos (by rfl), if_pos rfl]
          · rw [if_neg (by decide), c_bitsM _ hk, bd_some, if_neg (by decide)]
        · intro m1 hM1
          obtain ⟨eL, -, -, -⟩ := r_rw hM1 w hn hh
          unfold fX11_lurch
          rw [isIn01 _ h5 h6, bd_some, ite_dec, if_pos cz, wr m1 hM1, bd_some, jn_def, r0, if_pos rfl, gdN (by omega), gd_true (by decide), eL, eN m1 hM1, leT (by omega)]
          dsimp only
          rw [if_pos rfl]
          refine lpI3 (fun i v4 v5 (m6 : pw_Mem) => v4 = iI (msk P i : Nat) ∧ v5 = iI (i : Nat) ∧ ∀ c, c ≠ 73 → m6 c = m1 c) (fun r => ∃ m2 : pw_Mem, r = some (iI (if z = 0 then (msk P (tK s.1) : Nat) else (cnt P (tK s.1) : Nat)), m2) ∧ m2 71 5 = m1 71 5 ∧ ∀ c, (c < 71 ∨ c = 72 ∨ c = 74 ∨ 80 ≤ c) → m2 c = m1 c) (tK s.1) (by omega) ?_ ?_ ⟨rfl, rfl, fun _ _ => rfl⟩
          · rintro nx i _ _ m6 hi ⟨rfl, rfl, f6⟩ hnx
            have hM6 := MS_work hM1 (fun c h _ => f6 c h)
            have eK : m6 72 (1 : Int32).toNatClampNeg = iI (tK s.1 : Nat) := hM6.1.1.2.1
            obtain ⟨m12, q12, g12, f12⟩ := r_work hM6 w
            have of5 : fX11_of (iI (i : Int)) 5 m12 = some (iI ((18 + 6 * i + 5 : Nat) : Int)) := r_of i 5 m12
            have g14' := RT_snap (v := true) g12 hi hk h7
            have g14 : RT (pw_up m12 73 (18 + 6 * i + 5) 1) 73 (tU s.1 i) := g14'
            have wu : WT (tU s.1 i) := WT_X w1 _
            obtain ⟨m14, hm14⟩ : ∃ m14, m14 = pw_up m12 73 (18 + 6 * i + 5) (1 : Int32) := ⟨_, rfl⟩
            rw [← hm14] at g14
            have fr : ∀ c, c ≠ 73 → m14 c = m1 c := fun c hc => by rw [hm14, up_oc hc, f12 c hc, f6 c hc]
            have hM14 := MS_work hM1 (fun c h _ => fr c h)
            have rl := r_lurch hM14 w hn hh cL wu g14 rfl
            rw [gd_true (by decide), eK, leF (by omega), q12, bd_some, of5, bd_some, gdN (by omega), clN (by omega), lt_def, ← hm14, r_isWhole hM14.1 w1 hi, bd_some, jn_def, jn_def]
            have hl : P i = (!tX s.1 i && allB (lrB (s.2.2 n) (tU s.1 i)) (hL (s.2.2 n))) := by rw [hP]; rfl
            have go0 : P i = false → ∃ m2 : pw_Mem, nx (iI ((msk P i : Nat) : Int) ||| 0) (iI ((i + 1 : Nat) : Int)) m14 = some (iI (if z = 0 then (msk P (tK s.1) : Nat) else (cnt P (tK s.1) : Nat)), m2) ∧ m2 71 5 = m1 71 5 ∧ ∀ c, (c < 71 ∨ c = 72 ∨ c = 74 ∨ 80 ≤ c) → m2 c = m1 c := fun hf => by
              rw [mskF hf (by omega)]
              exact hnx _ _ _ ⟨rfl, rfl, fr⟩
            cases hx : tX s.1 i
            · rw [hx] at hl
              have hl' : P i = allB (lrB (s.2.2 n) (tU s.1 i)) (hL (s.2.2 n)) := hl
              rw [if_pos (by rfl), rl, bd_some, ← hl']
              cases hp : P i
              · rw [itF]
                simp only [lt_def, inc1]
                exact go0 hp
              · rw [itT]
                simp only [lt_def, inc1, mskT hp (show i < 30 by omega)]
                exact hnx _ _ _ ⟨rfl, rfl, fr⟩
            · rw [if_neg (by decide)]
              simp only [lt_def, inc1]
              exact go0 (by rw [hl, hx]; rfl)
          · rintro nx _ _ m6 ⟨rfl, rfl, f6⟩
            have hM6 := MS_work hM1 (fun c h _ => f6 c h)
            have eK : m6 72 (1 : Int32).toNatClampNeg = iI (tK s.1 : Nat) := hM6.1.1.2.1
            rw [gd_true (by decide), eK, leT (by omega)]
            rcases (show z = 0 ∨ z = 1 by omega) with rfl | rfl
            · rw [if_pos (by rfl), if_pos rfl]
              exact ⟨m6, rfl, by rw [f6 71 (by omega)], fun c hc => f6 c (by omega)⟩
            · rw [if_neg (by decide), r_bitsM _ hk, bd_some, if_neg (by decide)]
              exact ⟨m6, rfl, by rw [f6 71 (by omega)], fun c hc => f6 c (by omega)⟩
      · refine op_same hs0 (r := -13) ?_ ?_
        · unfold fX10_lurch
          rw [c_isShelf m h1 h2, bd_some, ite_dec, if_pos hsh, upTo1 _ h5 h6, bd_some, ite_dec, if_pos cz, c_rowRef hC w h1 h2, bd_some, r0, if_pos rfl, gdN (by omega), cl55 hn, e5, hC.1.1.1, leF (by omega)]
        · obtain ⟨eL, -, -, -⟩ := r_rw hM w hn hh
          unfold fX11_lurch
          rw [isIn01 _ h5 h6, bd_some, ite_dec, if_pos cz, wr m hM, bd_some, jn_def, r0, if_pos rfl, gdN (by omega), gd_true (by decide), eL, eN m hM, leF (by omega)]
          dsimp only
          rw [if_neg n13]
    · have r0 : ¬ iI (noRow s d (-1)) = 0 := by
        rw [i0, iI_eq (by omega) (by omega) (by omega) (by omega)]
        exact c
      refine op_same hs0 (r := iI (noRow s d (-1))) ?_ ?_
      · unfold fX10_lurch
        rw [c_isShelf m h1 h2, bd_some, ite_dec]
        by_cases cd : 0 ≤ d ∧ d < 8
        · rw [if_pos cd, upTo1 _ h5 h6, bd_some, ite_dec, if_pos cz, c_rowRef hC w h1 h2, bd_some, if_neg r0]
        · rw [if_neg cd]
          unfold noRow
          rw [if_neg cd]
          rfl
      · unfold fX11_lurch
        rw [isIn01 _ h5 h6, bd_some, ite_dec, if_pos cz, wr m hM, bd_some, jn_def, if_neg r0]
        dsimp only
        rw [if_neg r0]
  · refine op_same hs0 (r := -1) ?_ ?_
    · unfold fX10_lurch
      rw [c_isShelf m h1 h2, bd_some, ite_dec]
      by_cases cd : 0 ≤ d ∧ d < 8
      · rw [if_pos cd, upTo1 _ h5 h6, bd_some, ite_dec, if_neg cz]
      · rw [if_neg cd]
    · unfold fX11_lurch
      rw [isIn01 _ h5 h6, bd_some, ite_dec, if_neg cz]
