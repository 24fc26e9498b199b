/-! A YEAR, whole -/
set_option maxRecDepth 100000
theorem i99' : jmin (iI ((99 : Nat) : Int)) (iI ((99 : Nat) : Int)) = iI ((99 : Nat) : Int) := rfl
theorem c_jmin (a b : Nat) (h1 : a < 2147483648) (h2 : b < 2147483648) : jmin (iI a) (iI b) = iI ((min a b : Nat) : Int) := by
  unfold jmin
  rw [if_lt (by omega) (by omega) (by omega) (by omega)]
  split
  · rw [Nat.min_eq_right (by omega)]
  · rw [Nat.min_eq_left (by omega)]
theorem c_jmax (a b : Nat) (h1 : a < 2147483648) (h2 : b < 2147483648) : jmax (iI a) (iI b) = iI ((max a b : Nat) : Int) := by
  unfold jmax
  rw [if_lt (by omega) (by omega) (by omega) (by omega)]
  split
  · rw [Nat.max_eq_right (by omega)]
  · rw [Nat.max_eq_left (by omega)]
/-- a year more for those bands below i -/
def agN (t : TT) (i : Nat) : TT := sA t (fun b => if b < i then min 99 (tA t b + 1) else tA t b)
theorem agN_s (t : TT) (i : Nat) : agN t (i + 1) = sA (agN t i) (up1 (tA (agN t i)) i (min 99 (tA t i + 1))) := by
  have : (fun b => if b < i + 1 then min 99 (tA t b + 1) else tA t b) = up1 (fun b => if b < i then min 99 (tA t b + 1) else tA t b) i (min 99 (tA t i + 1)) := by
    funext p
    by_cases e : p = i
    · subst e
      rw [up1_eq, if_pos (by omega)]
    · rw [up1_ne e]
      by_cases h : p < i
      · rw [if_pos h, if_pos (by omega)]
      · rw [if_neg h, if_neg (by omega)]
  unfold agN
  rw [this]
  rfl
theorem agN_0 (t : TT) : agN t 0 = t := by
  have : (fun b => if b < 0 then min 99 (tA t b + 1) else tA t b) = tA t := by
    funext p
    rw [if_neg (by omega)]
  unfold agN
  rw [this]
  rfl
theorem agN_at (t : TT) (i : Nat) : tA (agN t i) i = tA t i := by
  show (if i < i then min 99 (tA t i + 1) else tA t i) = tA t i
  rw [if_neg (by omega)]
theorem WT_agN {t : TT} (w : WT t) (i : Nat) : WT (agN t i) := WT_A w (fun b hb => by
  have := (w.2.2 b hb).2.2.2.2.2
  split <;> omega)
def yr1 (t : TT) : TT := agN (sY t (tY t + 1)) (tK t)
def yr2 (t : TT) : TT := tryT (yr1 t)
def yr3 (t : TT) : TT := stpT (yr2 t)
def yrT (t : TT) : TT := tryT (yr3 t)
/-- who is newly snapped in a year -/
def newY (t : TT) (b : Nat) : Bool := ovr (yr1 t) b || ovr (yr3 t) b
def stirN (t : TT) : Nat := cnt (ovr (yr1 t)) (tK t) + cnt (lnz (yr2 t)) (tN t) + cnt (ovr (yr3 t)) (tK t)
theorem WT_yr1 {t : TT} (w : WT t) (hy : tY t < 5000) : WT (yr1 t) := WT_agN (WT_Y w hy) _
theorem WT_yr2 {t : TT} (w : WT t) (hy : tY t < 5000) : WT (yr2 t) := WT_tryT (WT_yr1 w hy)
theorem WT_yr3 {t : TT} (w : WT t) (hy : tY t < 5000) : WT (yr3 t) := WT_stpN (WT_yr2 w hy) _
theorem WT_yrT {t : TT} (w : WT t) (hy : tY t < 5000) : WT (yrT t) := WT_tryT (WT_yr3 w hy)
theorem yrT_n (t : TT) : tN (yrT t) = tN t ∧ tK (yrT t) = tK t ∧ tY (yrT t) = tY t + 1 ∧ tC (yrT t) = tC t := ⟨rfl, rfl, rfl, rfl⟩
theorem c_year {m : pw_Mem} {o : Nat} {t : TT} (h : CT m o t) (w : WT t) (hy : tY t < 5000) : ∃ m' : pw_Mem, fX7_passYear o m = some (decide (0 < stirN t), m') ∧ CT m' o (yrT t) ∧ ∀ c, c < o ∨ o + 11 < c → m' c = m c := by
  have hk := w.1.2.1
  have h7 := w.1.1
  have ey := h.1.2.2.2.2
  unfold fX7_passYear
  simp (disch := omega) only [ey, one, iN_add, lt_def]
  have g1 := CT_year (v := tY t + 1) h
  refine lpI2 (fun i v (m6 : pw_Mem) => v = iI (i : Nat) ∧ CT m6 o (agN (sY t (tY t + 1)) i) ∧ ∀ c, c < o ∨ o + 11 < c → m6 c = m c) (fun x => ∃ m' : pw_Mem, x = some (decide (0 < stirN t), m') ∧ CT m' o (yrT t) ∧ ∀ c, c < o ∨ o + 11 < c → m' c = m c) (tK t) (by omega) ?_ ?_ ⟨rfl, by rw [agN_0]; exact g1, fun c hc => up_oc (by omega)⟩
  · rintro nx i _ m6 hi ⟨rfl, h6, f6⟩ hnx
    have e1 : iI (i : Int) + iI ((1 : Nat) : Int) = iI ((i + 1 : Nat) : Int) := iN_add i 1
    have h61 : m6 o 12 = iI (tK t) := h6.1.2.1
    have ha : m6 (o + 8) i = iI (tA t i) := by
      rw [(h6.2.2 i hi).2.2.2.2.1, agN_at]
      rfl
    have a99 := (w.2.2 i hi).2.2.2.2.2
    simp (disch := omega) only [h61, iI_le, gd_ix, iI_clN, ha, iN_add, i99, c_jmin]
    rw [if_neg (by omega)]
    refine hnx _ _ ⟨rfl, ?_, fun c hc => by rw [up_oc (by omega), f6 c hc]⟩
    rw [agN_s]
    exact CT_age h6 hi
  · rintro nx _ m6 ⟨rfl, h6, f6⟩
    have h61 : m6 o 12 = iI (tK t) := h6.1.2.1
    have w1 := WT_yr1 w hy
    have w2 := WT_yr2 w hy
    have w3 := WT_yr3 w hy
    rw [h61, if_le (by omega) (by omega) (by omega) (by omega), if_pos (by omega)]
    obtain ⟨m7, q7, g7, f7⟩ := c_tryAll h6 w1
    obtain ⟨m8, q8, l8, f8⟩ := c_weighLeans g7 w2
    have g8 : CT m8 o (yr2 t) := CT_frame3 g7 (fun c _ _ hc => f8 c hc)
    obtain ⟨m10, q10, g10, f10⟩ := c_stepAll g8 w2 l8
    obtain ⟨m13, q13, g13, f13⟩ := c_tryAll g10 w3
    have c1 := cnt_le (ovr (yr1 t)) (tK t)
    have c2 := cnt_le (lnz (yr2 t)) (tN t)
    have c3 := cnt_le (ovr (yr3 t)) (tK t)
    have k1 : tK (agN (sY t (tY t + 1)) (tK t)) = tK t := rfl
    have k2 : tN (yr2 t) = tN t := rfl
    have k3 : tK (stpT (yr2 t)) = tK t := rfl
    have r1 : ovr (agN (sY t (tY t + 1)) (tK t)) = ovr (yr1 t) := rfl
    have r3 : ovr (stpT (yr2 t)) = ovr (yr3 t) := rfl
    rw [k1, r1] at q7
    rw [k2] at q10
    rw [k3, r3] at q13
    rw [q7, bd2_some, q8, bd_some, q10, bd2_some, q13, bd2_some, iN_add, iN_add, i0, if_le (by omega) (by omega) (by omega) (by omega)]
    refine ⟨m13, ?_, g13, fun c hc => by rw [f13 c (by omega) (by omega), f10 c (by omega), f8 c (by omega), f7 c (by omega) (by omega), f6 c hc]⟩
    have hs : stirN t = cnt (ovr (yr1 t)) (tK t) + cnt (lnz (yr2 t)) (tN t) + cnt (ovr (yr3 t)) (tK t) := rfl
    split
    · rw [decide_eq_false (by omega)]
    · rw [decide_eq_true (by omega)]
theorem r_year {m : pw_Mem} {o : Nat} {t : TT} (h : RT m o t) (w : WT t) (hy : tY t < 5000) (ho : o ≠ 76) : ∃ m' : pw_Mem, fX11_year o m = some (iI ((msk (newY t) (tK t) : Nat) : Int), m') ∧ RT m' o (yrT t) ∧ ∀ c, c ≠ o → c ≠ 76 → m' c = m c := by
  have hk := w.1.2.1
  have h7 := w.1.1
  have ey := h.1.2.2.1
  unfold fX11_year
  have e2 : (2 : Int32) = iI ((2 : Nat) : Int) := rfl
  have em : -iI ((1 : Nat) : Int) = iI (-1) := rfl
  simp (disch := omega) only [e2, one, gd_ix, iI_clN, ey, iN_add, lt_def]
  have g1 := RT_year (v := tY t + 1) h
  refine lpI2 (fun i v (m6 : pw_Mem) => v = iI (i : Nat) ∧ RT m6 o (agN (sY t (tY t + 1)) i) ∧ ∀ c, c ≠ o → m6 c = m c) (fun x => ∃ m' : pw_Mem, x = some (iI ((msk (newY t) (tK t) : Nat) : Int), m') ∧ RT m' o (yrT t) ∧ ∀ c, c ≠ o → c ≠ 76 → m' c = m c) (tK t) (by omega) ?_ ?_ ⟨rfl, by rw [agN_0]; exact g1, fun c hc => up_oc hc⟩
  · rintro nx i _ m6 hi ⟨rfl, h6, f6⟩ hnx
    have e1 : iI (i : Int) + iI ((1 : Nat) : Int) = iI ((i + 1 : Nat) : Int) := iN_add i 1
    have h61 : m6 o 1 = iI (tK t) := h6.1.2.1
    have ha : m6 o (18 + 6 * i + 4) = iI (tA t i) := by
      rw [(h6.2.2 i hi).2.2.2.2.1, agN_at]
      rfl
    have a99 := (w.2.2 i hi).2.2.2.2.2
    have i4 : (4 : Int32) = iI ((4 : Nat) : Int) := rfl
    simp (disch := omega) only [h61, iI_le, i4, r_of, bd_some, gd_ix, iI_clN, ha, iN_add, i99, r_least]
    rw [if_neg (by omega)]
    refine hnx _ _ ⟨rfl, ?_, fun c hc => by rw [up_oc hc, f6 c hc]⟩
    rw [agN_s]
    exact RT_age h6 hi hk h7
  · rintro nx _ m6 ⟨rfl, h6, f6⟩
    have h61 : m6 o 1 = iI (tK t) := h6.1.2.1
    have w1 := WT_yr1 w hy
    have w2 := WT_yr2 w hy
    have w3 := WT_yr3 w hy
    obtain ⟨m7, q7, g7, f7⟩ := r_tries h6 w1
    obtain ⟨m8, q8, l8, f8⟩ := r_copies m7 ho
    have k1 : tK (agN (sY t (tY t + 1)) (tK t)) = tK t := rfl
    have r1 : ovr (agN (sY t (tY t + 1)) (tK t)) = ovr (yr1 t) := rfl
    rw [k1, r1] at q7
    rw [h61, if_le (by omega) (by omega) (by omega) (by omega), if_pos (by omega), q7, bd2_some, q8, bd_some]
    have g8 : RT m8 76 (yr2 t) := RT_copy g7 w2 l8
    have g8o : RT m8 o (yr2 t) := RT_frame g7 (f8 o ho)
    refine lpI2 (fun i v (m10 : pw_Mem) => v = iI (i : Nat) ∧ RT m10 o (stpN (yr2 t) i) ∧ ∀ c, c ≠ o → m10 c = m8 c) (fun x => ∃ m' : pw_Mem, x = some (iI ((msk (newY t) (tK t) : Nat) : Int), m') ∧ RT m' o (yrT t) ∧ ∀ c, c ≠ o → c ≠ 76 → m' c = m c) (tN t) (by omega) ?_ ?_ ⟨rfl, by rw [stpN_0]; exact g8o, fun _ _ => rfl⟩
    · rintro nx i _ m10 hi ⟨rfl, h10, f10⟩ hnx
      have e1 : iI (i : Int) + iI ((1 : Nat) : Int) = iI ((i + 1 : Nat) : Int) := iN_add i 1
      have h101 : m10 o 0 = iI (tN t) := h10.1.1
      have g76 : RT m10 76 (yr2 t) := RT_frame g8 (f10 76 (Ne.symm ho))
      have hi2 : i < tN (yr2 t) := hi
      have pr := r_pulled g76 w2 hi2 true
      have pl := r_pulled g76 w2 hi2 false
      have sg1 : iI (sgn true) = iI ((1 : Nat) : Int) := rfl
      have sg2 : iI (sgn false) = iI (-1) := rfl
      rw [sg1] at pr
      rw [sg2] at pl
      have hp : m10 o (4 + i) = iI (tP (yr2 t) i) := by rw [(h10.2.1 i hi).1, stpN_at]
      have ll := lean_le w2 i
      have hlean : (pld (yr2 t) i true : Int) - (pld (yr2 t) i false : Int) = lean (yr2 t) i := rfl
      have p30 := (w2.2.1 i hi2).1
      have i4 : (4 : Int32) = iI ((4 : Nat) : Int) := rfl
      simp (disch := omega) only [i0, gd_ix, iI_clN, h101, iI_le, em, pr, pl, bd_some, iI_sub, hlean, i4, iN_add, hp, jn_def]
      simp only [iI_add]
      rw [if_neg (by omega)]
      have fin : ∀ v : Int, v = ((stepP (yr2 t) i : Nat) : Int) → ∃ m' : pw_Mem, nx (iI ((i + 1 : Nat) : Int)) (pw_up m10 o (4 + i) (iI v)) = some (iI ((msk (newY t) (tK t) : Nat) : Int), m') ∧ RT m' o (yrT t) ∧ ∀ c, c ≠ o → c ≠ 76 → m' c = m c := by
        intro v hv
        subst hv
        refine hnx _ _ ⟨rfl, ?_, fun c hc => by rw [up_oc hc, f10 c hc]⟩
        rw [stpN_s]
        exact RT_place h10 hi h7
      split
      · split
        · refine fin _ ?_
          unfold stepP
          rw [if_neg (by omega), if_neg (by omega)]
          omega
        · refine fin _ ?_
          have hn : lean (yr2 t) i < 0 := by omega
          have := lean_neg w2 hn
          unfold stepP
          rw [if_neg (by omega), if_pos hn]
          omega
      · refine fin _ ?_
        have hn : 0 < lean (yr2 t) i := by omega
        have := lean_pos w2 hn
        unfold stepP
        rw [if_pos hn]
    · rintro nx _ m10 ⟨rfl, h10, f10⟩
      have h101 : m10 o 0 = iI (tN t) := h10.1.1
      obtain ⟨m14, q14, g14, f14⟩ := r_tries h10 w3
      have k3 : tK (stpN (yr2 t) (tN t)) = tK t := rfl
      have r3 : ovr (stpN (yr2 t) (tN t)) = ovr (yr3 t) := rfl
      rw [k3, r3] at q14
      have b1 := msk_lt' (ovr (yr1 t)) hk
      have b3 := msk_lt' (ovr (yr3 t)) hk
      simp (disch := omega) only [i0, gd_ix, iI_clN, h101, iI_le]
      rw [if_pos (by omega), q14, bd2_some, iI_or (by omega) (by omega), msk_or2]
      exact ⟨m14, rfl, g14, fun c hc h76 => by rw [f14 c hc, f10 c hc, f8 c h76, f7 c hc, f6 c hc]⟩
