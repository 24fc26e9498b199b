/-! CALLS: placeIn, snappedIn, still, firstSnap -/
set_option maxRecDepth 100000
/-- a call that only looks and uses what no later call reads -/
theorem op_calc {α : Type} {m : pw_Mem} {f g : pw_Mem → Option (α × pw_Mem)} {s : SS} (hC : CS m s) (hM : MS m s) (w : WS s) {r : α}
    (hc : ∃ m1, f m = some (r, m1) ∧ ∀ c, (c ≤ 12 ∨ (25 ≤ c ∧ c ≤ 36) ∨ 55 ≤ c) → m1 c = m c)
    (hm : ∀ m1, MS m1 s → ∃ m2, g m1 = some (r, m2) ∧ m2 71 5 = m1 71 5 ∧ ∀ c, (c < 71 ∨ c = 72 ∨ c = 74 ∨ 80 ≤ c) → m2 c = m1 c) : OpWW f g m := by
  obtain ⟨m1, q1, f1⟩ := hc
  have hM1 : MS m1 s := MS_c hM (fun c hc => f1 c (by omega))
  obtain ⟨m2, q2, f5, f2⟩ := hm m1 hM1
  exact ⟨r, m1, m2, q1, q2, s, CS_m (CS_f hC (fun c hc => f1 c (by omega))) (fun c hc => f2 c (by omega)), MS_f hM1 f5 (fun c hc => f2 c (by omega)), w⟩
theorem c_mind {m : pw_Mem} {s : SS} (hC : CS m s) (w : WS s) : ∃ m1 : pw_Mem, fX7_becomes 13 1 m = some m1 ∧ CT m1 13 s.1 ∧ ∀ c, c < 13 ∨ 24 < c → m1 c = m c := by
  obtain ⟨m1, q1, g1, f1⟩ := c_becomes hC.1 w.1.1 (o := 13) (by omega)
  exact ⟨m1, q1, g1, fun c hc => f1 c (by omega)⟩
theorem r_work {m : pw_Mem} {s : SS} (hM : MS m s) (w : WS s) : ∃ m1 : pw_Mem, fX11_copies 72 73 m = some m1 ∧ RT m1 73 s.1 ∧ ∀ c, c ≠ 73 → m1 c = m c := by
  obtain ⟨m1, q1, g1, f1⟩ := r_copies m (o1 := 72) (o2 := 73) (by omega)
  exact ⟨m1, q1, RT_copy hM.1 w.1.1 g1, f1⟩
theorem c_townIn {m : pw_Mem} {s : SS} (hC : CS m s) (w : WS s) {n : Nat} (hn : n ≤ 60) : ∃ m1 : pw_Mem, fX9_townIn (iI n) m = some m1 ∧ CT m1 13 (yrI s.1 n) ∧ ∀ c, c < 13 ∨ 24 < c → m1 c = m c := by
  obtain ⟨m1, q1, g1, f1⟩ := c_mind hC w
  have hy := w.1.2.1
  obtain ⟨m2, q2, g2, f2⟩ := c_passYears g1 w.1.1 (n := n) (by omega)
  refine ⟨m2, ?_, g2, fun c hc => by rw [f2 c (by omega), f1 c hc]⟩
  unfold fX9_townIn
  rw [q1, bd_some, q2, bd_some]
theorem r_yearsOn {m : pw_Mem} {s : SS} (hM : MS m s) (w : WS s) {n : Nat} (hn : n ≤ 60) : ∃ m1 : pw_Mem, fX11_yearsOn (iI n) m = some m1 ∧ RT m1 73 (yrI s.1 n) ∧ ∀ c, c ≠ 73 → c ≠ 76 → m1 c = m c := by
  obtain ⟨m1, q1, g1, f1⟩ := r_work hM w
  have w1 := w.1.1
  have hk := w1.1.2.1
  have hy := w.1.2.1
  unfold fX11_yearsOn
  rw [q1, bd_some]
  refine lpI3 (fun i v2 v3 (m6 : pw_Mem) => v2 = iI ((msk (gone s.1 i) (tK s.1) : Nat) : Int) ∧ v3 = iI (i : Nat) ∧ RT m6 73 (yrI s.1 i) ∧ ∀ c, c ≠ 73 → c ≠ 76 → m6 c = m c) (fun x => ∃ m2 : pw_Mem, x = some m2 ∧ RT m2 73 (yrI s.1 n) ∧ ∀ c, c ≠ 73 → c ≠ 76 → m2 c = m c) n (by omega) ?_ ?_ ⟨?_, rfl, g1, fun c h _ => f1 c h⟩
  · rintro nx i _ _ m6 hi ⟨rfl, rfl, h6, f6⟩ hnx
    have hyi := yrI_n s.1 i
    obtain ⟨m7, q7, g7, f7⟩ := r_year h6 (WT_yrI w1 i (by omega)) (by omega) (by decide)
    have b1 := msk_lt' (gone s.1 i) hk
    have b2 := msk_lt' (newY (yrI s.1 i)) hk
    rw [hyi.2.1] at q7
    simp (disch := omega) only [iI_le, q7, bd2_some, lt_def, iN_lit, iN_add, iI_or, gone_s]
    rw [if_neg (by omega)]
    exact hnx _ _ _ ⟨rfl, rfl, g7, fun c h73 h76 => by rw [f7 c h73 h76, f6 c h73 h76]⟩
  · rintro nx _ _ m6 ⟨rfl, rfl, h6, f6⟩
    simp (disch := omega) only [iI_le]
    rw [if_pos (by omega)]
    exact ⟨m6, rfl, h6, f6⟩
  · have : msk (gone s.1 0) (tK s.1) = msk (fun _ => false) (tK s.1) := msk_congr fun b _ => by
      unfold gone
      show (tX s.1 b && !tX s.1 b) = false
      cases tX s.1 b <;> rfl
    rw [this]
    have z : ∀ k, msk (fun _ => false) k = 0 := by
      intro k
      induction k with
      | zero => rfl
      | succ k ih => simp [msk, ih]
    rw [z]
    rfl
theorem op_placeIn {m : pw_Mem} (hs : Sim m) (a b : Int32) : OpWW (fX10_placeIn a b) (fX11_placeIn a b) m := by
  have hs0 := hs
  obtain ⟨s, hC, hM, w⟩ := hs
  obtain ⟨z, rfl, h1, h2⟩ := rg a
  obtain ⟨q, rfl, h3, h4⟩ := rg b
  have w1 := w.1.1
  have h7 := w1.1.1
  by_cases c : (0 ≤ z ∧ z < tN s.1) ∧ 0 ≤ q ∧ q ≤ 60
  · obtain ⟨n, rfl⟩ := Int.eq_ofNat_of_zero_le c.1.1
    obtain ⟨x, rfl⟩ := Int.eq_ofNat_of_zero_le c.2.1
    have hn : n < tN (yrI s.1 x) := by
      rw [(yrI_n s.1 x).1]
      omega
    refine op_calc hC hM w (r := iI (tP (yrI s.1 x) n : Nat)) ?_ ?_
    · obtain ⟨m1, q1, g1, f1⟩ := c_townIn hC w (n := x) (by omega)
      refine ⟨m1, ?_, fun c hc => f1 c (by omega)⟩
      have e := (g1.2.1 n hn).1
      unfold fX10_placeIn
      simp (disch := omega) only [c_isPerson hC.1 w1, iN_lit, c_isUpTo, bd_some, ite_dec, q1, gd_ix, iI_clN, e]
      rw [if_pos (by omega), if_pos (by omega)]
    · intro m1 hM1
      obtain ⟨m2, q2, g2, f2⟩ := r_yearsOn hM1 w (n := x) (by omega)
      have e := (g2.2.1 n hn).1
      refine ⟨m2, ?_, by rw [f2 71 (by omega) (by omega)], fun c hc => f2 c (by omega) (by omega)⟩
      unfold fX11_placeIn
      simp (disch := omega) only [r_isPerson hM1.1 w1, iN_lit, r_isIn, bd_some, ite_dec, q2, gd_ix, iN_add, iI_clN, e]
      rw [if_pos (by omega), if_pos (by omega)]
  · refine op_same hs0 (r := -1) ?_ ?_
    · unfold fX10_placeIn
      simp (disch := omega) only [c_isPerson hC.1 w1, iN_lit, c_isUpTo, bd_some, ite_dec]
      by_cases c1 : 0 ≤ z ∧ z < tN s.1
      · rw [if_pos c1, if_neg (by omega)]
      · rw [if_neg c1]
    · unfold fX11_placeIn
      simp (disch := omega) only [r_isPerson hM.1 w1, iN_lit, r_isIn, bd_some, ite_dec]
      by_cases c1 : 0 ≤ z ∧ z < tN s.1
      · rw [if_pos c1, if_neg (by omega)]
      · rw [if_neg c1]
theorem op_snappedIn {m : pw_Mem} (hs : Sim m) (b : Int32) : OpWW (fX10_snappedIn b) (fX11_snappedIn b) m := by
  have hs0 := hs
  obtain ⟨s, hC, hM, w⟩ := hs
  obtain ⟨q, rfl, h3, h4⟩ := rg b
  have w1 := w.1.1
  have hy := w.1.2.1
  by_cases c : 0 ≤ q ∧ q ≤ 60
  · obtain ⟨x, rfl⟩ := Int.eq_ofNat_of_zero_le c.1
    refine op_calc hC hM w (r := iI (msk (tX (yrI s.1 x)) (tK (yrI s.1 x)) : Nat)) ?_ ?_
    · obtain ⟨m1, q1, g1, f1⟩ := c_townIn hC w (n := x) (by omega)
      refine ⟨m1, ?_, fun c hc => f1 c (by omega)⟩
      have e := g1.1.2.2.1
      unfold fX10_snappedIn
      simp (disch := omega) only [iN_lit, c_isUpTo, bd_some, ite_dec, q1, e]
      rw [if_pos (by omega)]
    · intro m1 hM1
      obtain ⟨m2, q2, g2, f2⟩ := r_yearsOn hM1 w (n := x) (by omega)
      have e := r_snappedSet g2 (WT_yrI w1 x (by omega))
      refine ⟨m2, ?_, by rw [f2 71 (by omega) (by omega)], fun c hc => f2 c (by omega) (by omega)⟩
      unfold fX11_snappedIn
      simp (disch := omega) only [iN_lit, r_isIn, bd_some, ite_dec, q2, e]
      rw [if_pos (by omega)]
  · refine op_same hs0 (r := -1) ?_ ?_
    · unfold fX10_snappedIn
      simp (disch := omega) only [iN_lit, c_isUpTo, bd_some, ite_dec]
      rw [if_neg (by omega)]
    · unfold fX11_snappedIn
      simp (disch := omega) only [iN_lit, r_isIn, bd_some, ite_dec]
      rw [if_neg (by omega)]
theorem cnt_0 {P : Nat → Bool} : ∀ {k : Nat}, cnt P k = 0 → ∀ b, b < k → P b = false
  | 0, _, b, hb => absurd hb (Nat.not_lt_zero b)
  | k + 1, h, b, hb => by
    simp only [cnt] at h
    by_cases e : b = k
    · subst e
      cases hp : P b
      · rfl
      · rw [hp] at h
        simp at h
    · exact cnt_0 (k := k) (by omega) b (by omega)
theorem cnt_z {P : Nat → Bool} : ∀ {k : Nat}, (∀ b, b < k → P b = false) → cnt P k = 0
  | 0, _ => rfl
  | k + 1, h => by
    simp only [cnt, cnt_z (k := k) (fun b hb => h b (by omega)), h k (by omega)]
    rfl
theorem msk_z {P : Nat → Bool} : ∀ {k : Nat}, (∀ b, b < k → P b = false) → msk P k = 0
  | 0, _ => rfl
  | k + 1, h => by
    simp only [msk, msk_z (k := k) (fun b hb => h b (by omega)), h k (by omega)]
    rfl
theorem msk_0 {P : Nat → Bool} {k : Nat} (h : msk P k = 0) (b : Nat) (hb : b < k) : P b = false := by
  have := msk_bit P b k
  rw [h, Nat.zero_testBit] at this
  simp [hb] at this
  exact this
theorem stir_0 {t : TT} (w : WT t) (hy : tY t < 5000) : stirN t = 0 ↔ (msk (newY t) (tK t) = 0 ∧ ∀ p, p < tN t → tP (yrT t) p = tP t p) := by
  have w2 := WT_yr2 w hy
  have eP : ∀ p, p < tN t → tP (yrT t) p = stepP (yr2 t) p := by
    intro p hp
    have : tP (yrT t) p = if p < tN t then stepP (yr2 t) p else tP (yr2 t) p := rfl
    rw [this, if_pos hp]
  have e2 : tP (yr2 t) = tP t := rfl
  constructor
  · intro h
    unfold stirN at h
    have h1 := cnt_0 (show cnt (ovr (yr1 t)) (tK t) = 0 by omega)
    have h2 := cnt_0 (show cnt (lnz (yr2 t)) (tN t) = 0 by omega)
    have h3 := cnt_0 (show cnt (ovr (yr3 t)) (tK t) = 0 by omega)
    refine ⟨msk_z fun b hb => ?_, fun p hp => ?_⟩
    · unfold newY
      rw [h1 b hb, h3 b hb]
      rfl
    · rw [eP p hp]
      have := h2 p hp
      unfold lnz at this
      have hl : lean (yr2 t) p = 0 := by
        by_cases q : lean (yr2 t) p = 0
        · exact q
        · simp [q] at this
      unfold stepP
      rw [hl, if_neg (by omega), if_neg (by omega), e2]
  · rintro ⟨h1, h2⟩
    have hn := msk_0 h1
    unfold stirN
    rw [cnt_z (P := ovr (yr1 t)) (fun b hb => by
      have := hn b hb
      unfold newY at this
      cases h : ovr (yr1 t) b
      · rfl
      · rw [h] at this
        simp at this), cnt_z (P := ovr (yr3 t)) (fun b hb => by
      have := hn b hb
      unfold newY at this
      cases h : ovr (yr3 t) b
      · rfl
      · rw [h] at this
        simp at this), cnt_z (P := lnz (yr2 t)) (fun p hp => by
      have a := h2 p hp
      rw [eP p hp] at a
      unfold stepP at a
      rw [e2] at a
      unfold lnz
      have n1 := fun h => lean_neg w2 (p := p) h
      rw [e2] at n1
      by_cases q : 0 < lean (yr2 t) p
      · rw [if_pos q] at a
        omega
      · rw [if_neg q] at a
        by_cases q2 : lean (yr2 t) p < 0
        · rw [if_pos q2] at a
          have := n1 q2
          omega
        · have : lean (yr2 t) p = 0 := by omega
          simp [this])]
theorem r_75 (m : pw_Mem) : ∃ m1 : pw_Mem, fX11_copies 73 75 m = some m1 ∧ (∀ j, j < 78 → m1 75 j = m 73 j) ∧ ∀ c, c ≠ 75 → m1 c = m c := r_copies m (o1 := 73) (o2 := 75) (by omega)
