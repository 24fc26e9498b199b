/-! PULLING; COPIES of a town -/
set_option maxRecDepth 100000
def sgn (r : Bool) : Int := if r then 1 else -1
theorem r_pulled {m : pw_Mem} {o : Nat} {t : TT} (h : RT m o t) (w : WT t) {p : Nat} (hp : p < tN t) (r : Bool) : fX11_pulled o (iI p) (iI (sgn r)) m = some (iI ((pld t p r : Nat) : Int)) := by
  have hk := w.1.2.1
  have h7 := w.1.1
  unfold fX11_pulled
  refine lpI2 (fun i v1 v2 => v1 = iI ((sumN (sideN t p r) i : Nat) : Int) ∧ v2 = iI (i : Nat)) (fun x => x = some (iI ((pld t p r : Nat) : Int))) (tK t) (by omega) ?_ ?_ ⟨rfl, rfl⟩
  · rintro nx i _ _ hi ⟨rfl, rfl⟩ hnx
    have e1 : iI (i : Int) + iI ((1 : Nat) : Int) = iI ((i + 1 : Nat) : Int) := iN_add i 1
    obtain ⟨-, -, l1, l2, l3, -⟩ := w.2.2 i hi
    obtain ⟨-, -, b2, b3, -⟩ := h.2.2 i hi
    have q1 := (h.2.1 _ l1).1
    have q2 := (h.2.1 _ l2).1
    have qp := (h.2.1 _ hp).1
    have p1 := (w.2.1 _ l1).1
    have p2 := (w.2.1 _ l2).1
    have p3 := (w.2.1 _ hp).1
    have hpu := pul_le w hi
    have hsum := sumN_leS w p r (i := i) (by omega)
    simp (disch := omega) only [iN_lit, gd_ix, iI_clN, h.1.2.1, iI_le, r_isRound h w hi, bd_some, jn_def, lt_def, r_of, b2, b3, iI_eq, iN_add, q1, q2, qp, r_pull h w hi]
    rw [if_neg (by omega)]
    have hstep : sumN (sideN t p r) (i + 1) = sumN (sideN t p r) i + sideN t p r i := rfl
    by_cases c1 : tO t i = p
    · rw [decide_eq_true (Or.inl c1), if_pos rfl, if_pos (by omega)]
      have hsd : sideN t p r i = if (if r then tP t p < tP t (tQ t i) else tP t (tQ t i) < tP t p) then pul t i else 0 := by
        unfold sideN
        rw [if_pos c1]
      cases r
      · simp (disch := omega) only [sgn, iI_sub, iI_mul, iI_le, Bool.false_eq_true, if_false, h.2.1 _ hp, c1] at hsd ⊢
        split
        · exact hnx _ _ ⟨by rw [hstep, hsd, if_neg (by omega)], by rfl⟩
        · exact hnx _ _ ⟨by rw [hstep, hsd, if_pos (by omega)], by rfl⟩
      · simp (disch := omega) only [sgn, iI_sub, iI_mul, iI_le, if_true] at hsd ⊢
        split
        · exact hnx _ _ ⟨by rw [hstep, hsd, if_neg (by omega)], by rfl⟩
        · exact hnx _ _ ⟨by rw [hstep, hsd, if_pos (by omega)], by rfl⟩
    · by_cases c2 : tQ t i = p
      · rw [decide_eq_true (Or.inr c2), if_pos rfl, if_neg (by omega)]
        have hsd : sideN t p r i = if (if r then tP t p < tP t (tO t i) else tP t (tO t i) < tP t p) then pul t i else 0 := by
          unfold sideN
          rw [if_neg c1, if_pos c2]
        cases r
        · simp (disch := omega) only [sgn, iI_sub, iI_mul, iI_le, Bool.false_eq_true, if_false] at hsd ⊢
          split
          · exact hnx _ _ ⟨by rw [hstep, hsd, if_neg (by omega)], by rfl⟩
          · exact hnx _ _ ⟨by rw [hstep, hsd, if_pos (by omega)], by rfl⟩
        · simp (disch := omega) only [sgn, iI_sub, iI_mul, iI_le, if_true] at hsd ⊢
          split
          · exact hnx _ _ ⟨by rw [hstep, hsd, if_neg (by omega)], by rfl⟩
          · exact hnx _ _ ⟨by rw [hstep, hsd, if_pos (by omega)], by rfl⟩
      · rw [decide_eq_false (by omega), if_neg (by decide)]
        refine hnx _ _ ⟨?_, by rfl⟩
        rw [hstep]
        unfold sideN
        rw [if_neg c1, if_neg c2]
        rfl
  · rintro nx _ _ ⟨rfl, rfl⟩
    simp (disch := omega) only [iN_lit, gd_ix, iI_clN, h.1.2.1, iI_le]
    rw [if_pos (by omega)]
    rfl
theorem c_pulled {m : pw_Mem} {o : Nat} {t : TT} (h : CT m o t) (w : WT t) {p : Nat} (hp : p < tN t) (r : Bool) : fX7_pulled o (iI p) (iI (sgn r)) m = some (iI ((pld t p r : Nat) : Int)) := by
  have hk := w.1.2.1
  have h7 := w.1.1
  unfold fX7_pulled
  refine lpI2 (fun i v1 v2 => v1 = iI ((sumN (sideN t p r) i : Nat) : Int) ∧ v2 = iI (i : Nat)) (fun x => x = some (iI ((pld t p r : Nat) : Int))) (tK t) (by omega) ?_ ?_ ⟨rfl, rfl⟩
  · rintro nx i _ _ hi ⟨rfl, rfl⟩ hnx
    have e1 : iI (i : Int) + iI ((1 : Nat) : Int) = iI ((i + 1 : Nat) : Int) := iN_add i 1
    obtain ⟨-, -, l1, l2, l3, -⟩ := w.2.2 i hi
    obtain ⟨-, -, b2, b3, -⟩ := h.2.2 i hi
    have q1 := (h.2.1 _ l1).1
    have q2 := (h.2.1 _ l2).1
    have qp := (h.2.1 _ hp).1
    have p1 := (w.2.1 _ l1).1
    have p2 := (w.2.1 _ l2).1
    have p3 := (w.2.1 _ hp).1
    have hpu := pul_le w hi
    have hsum := sumN_leS w p r (i := i) (by omega)
    simp (disch := omega) only [iN_lit, gd_ix, iI_clN, h.1.2.1, iI_le, bd_some, jn_def, lt_def, b2, b3, iI_eq, iN_add, q1, q2, qp, c_pull h w hi]
    rw [if_neg (by omega)]
    have hstep : sumN (sideN t p r) (i + 1) = sumN (sideN t p r) i + sideN t p r i := rfl
    by_cases c1 : tO t i = p
    · rw [if_pos (by omega)]
      have hsd : sideN t p r i = if (if r then tP t p < tP t (tQ t i) else tP t (tQ t i) < tP t p) then pul t i else 0 := by
        unfold sideN
        rw [if_pos c1]
      cases r
      · simp (disch := omega) only [sgn, iI_sub, iI_mul, iI_le, Bool.false_eq_true, if_false] at hsd ⊢
        split
        · exact hnx _ _ ⟨by rw [hstep, hsd, if_neg (by omega), Nat.add_zero], by rfl⟩
        · exact hnx _ _ ⟨by rw [hstep, hsd, if_pos (by omega)], by rfl⟩
      · simp (disch := omega) only [sgn, iI_sub, iI_mul, iI_le, if_true] at hsd ⊢
        split
        · exact hnx _ _ ⟨by rw [hstep, hsd, if_neg (by omega), Nat.add_zero], by rfl⟩
        · exact hnx _ _ ⟨by rw [hstep, hsd, if_pos (by omega)], by rfl⟩
    · rw [if_neg (by omega)]
      by_cases c2 : tQ t i = p
      · rw [if_pos (by omega)]
        have hsd : sideN t p r i = if (if r then tP t p < tP t (tO t i) else tP t (tO t i) < tP t p) then pul t i else 0 := by
          unfold sideN
          rw [if_neg c1, if_pos c2]
        cases r
        · simp (disch := omega) only [sgn, iI_sub, iI_mul, iI_le, Bool.false_eq_true, if_false] at hsd ⊢
          split
          · exact hnx _ _ ⟨by rw [hstep, hsd, if_neg (by omega), Nat.add_zero], by rfl⟩
          · exact hnx _ _ ⟨by rw [hstep, hsd, if_pos (by omega)], by rfl⟩
        · simp (disch := omega) only [sgn, iI_sub, iI_mul, iI_le, if_true] at hsd ⊢
          split
          · exact hnx _ _ ⟨by rw [hstep, hsd, if_neg (by omega), Nat.add_zero], by rfl⟩
          · exact hnx _ _ ⟨by rw [hstep, hsd, if_pos (by omega)], by rfl⟩
      · rw [if_neg (by omega)]
        have hz : sideN t p r i = 0 := by
          unfold sideN
          rw [if_neg c1, if_neg c2]
        cases r
        · simp (disch := omega) only [sgn, iI_mul, iI_le, Bool.false_eq_true, if_false]
          rw [if_pos (by omega)]
          exact hnx _ _ ⟨by rw [hstep, hz]; rfl, by rfl⟩
        · simp (disch := omega) only [sgn, iI_mul, iI_le, if_true]
          rw [if_pos (by omega)]
          exact hnx _ _ ⟨by rw [hstep, hz]; rfl, by rfl⟩
  · rintro nx _ _ ⟨rfl, rfl⟩
    simp (disch := omega) only [h.1.2.1, iI_le]
    rw [if_pos (by omega)]
    rfl
-- copies
theorem r_copies (m : pw_Mem) {o1 o2 : Nat} (ho : o1 ≠ o2) : ∃ m', fX11_copies o1 o2 m = some m' ∧ (∀ j, j < 78 → m' o2 j = m o1 j) ∧ ∀ c, c ≠ o2 → m' c = m c := by
  unfold fX11_copies
  refine lpI2 (fun i v (m6 : pw_Mem) => v = iI (i : Nat) ∧ (∀ j, j < i → m6 o2 j = m o1 j) ∧ ∀ c, c ≠ o2 → m6 c = m c) (fun x => ∃ m' : pw_Mem, x = some m' ∧ (∀ j, j < 78 → m' o2 j = m o1 j) ∧ ∀ c, c ≠ o2 → m' c = m c) 78 (by omega) ?_ ?_ ⟨rfl, fun j hj => by omega, fun _ _ => rfl⟩
  · rintro nx i _ m6 hi ⟨rfl, h6, f6⟩ hnx
    have e1 : iI (i : Int) + iI ((1 : Nat) : Int) = iI ((i + 1 : Nat) : Int) := iN_add i 1
    simp (disch := omega) only [iN_lit, iI_le, gd_ix, iI_clN, lt_def, e1]
    rw [if_neg (by omega)]
    refine hnx _ _ ⟨rfl, fun j hj => ?_, fun c hc => ?_⟩
    · by_cases e : j = i
      · subst e
        rw [up_eq, f6 o1 ho]
      · rw [up_ne e, h6 j (by omega)]
    · rw [up_oc hc, f6 c hc]
  · rintro nx _ m6 ⟨rfl, h6, f6⟩
    simp (disch := omega) only [iN_lit, iI_le]
    rw [if_pos (by omega)]
    exact ⟨m6, rfl, h6, f6⟩
theorem RT_copy {m m' : pw_Mem} {o1 o2 : Nat} {t : TT} (h : RT m o1 t) (w : WT t) (hj : ∀ j, j < 78 → m' o2 j = m o1 j) : RT m' o2 t := by
  have hk := w.1.2.1
  have h7 := w.1.1
  obtain ⟨⟨a0, a1, a2, a3⟩, hP, hB⟩ := h
  refine ⟨⟨(hj _ (by omega)).trans a0, (hj _ (by omega)).trans a1, (hj _ (by omega)).trans a2, (hj _ (by omega)).trans a3⟩, fun q hq => ⟨(hj _ (by omega)).trans (hP q hq).1, (hj _ (by omega)).trans (hP q hq).2⟩, fun c hc => ?_⟩
  obtain ⟨b0, b1, b2, b3, b4, b5⟩ := hB c hc
  exact ⟨(hj _ (by omega)).trans b0, (hj _ (by omega)).trans b1, (hj _ (by omega)).trans b2, (hj _ (by omega)).trans b3, (hj _ (by omega)).trans b4, (hj _ (by omega)).trans b5⟩
theorem c_becomes {m : pw_Mem} {o o1 : Nat} {t : TT} (h : CT m o1 t) (w : WT t) (ho : o + 11 < o1 ∨ o1 + 11 < o) : ∃ m', fX7_becomes o o1 m = some m' ∧ CT m' o t ∧ ∀ c, c < o ∨ o + 11 < c → m' c = m c := by
  have hk := w.1.2.1
  have h7 := w.1.1
  unfold fX7_becomes
  simp only [lt_def]
  refine lpI2 (fun i v (m6 : pw_Mem) => v = iI (i : Nat) ∧ (m6 o 11 = m o1 11 ∧ m6 o 12 = m o1 12 ∧ m6 o 13 = m o1 13 ∧ m6 o 14 = m o1 14 ∧ m6 o 15 = m o1 15) ∧ (∀ j, j < i → m6 (o + 1) j = m (o1 + 1) j ∧ m6 (o + 2) j = m (o1 + 2) j) ∧ ∀ c, c < o ∨ o + 11 < c → m6 c = m c) (fun x => ∃ m' : pw_Mem, x = some m' ∧ CT m' o t ∧ ∀ c, c < o ∨ o + 11 < c → m' c = m c) 7 (by omega) ?_ ?_ ?_
  · rintro nx i _ m6 hi ⟨rfl, hd, hq, f6⟩ hnx
    have e1 : iI (i : Int) + iI ((1 : Nat) : Int) = iI ((i + 1 : Nat) : Int) := iN_add i 1
    have g1 := f6 (o1 + 1) (by omega)
    have g2 := f6 (o1 + 2) (by omega)
    simp (disch := omega) only [iN_lit, iI_le, gd_ix, iI_clN, e1]
    rw [if_neg (by omega)]
    refine hnx _ _ ⟨rfl, ?_, fun j hj => ?_, fun c hc => ?_⟩
    · simp (disch := omega) only [up_o]
      exact hd
    · by_cases e : j = i
      · subst e
        simp (disch := omega) only [up_eq, up_o, g1, g2, and_self]
      · have := hq j (by omega)
        simp (disch := omega) only [up_ne, up_o]
        exact this
    · rw [up_oc (by omega), up_oc (by omega), f6 c hc]
  · rintro nx _ m6 ⟨rfl, hd, hq, f6⟩
    simp (disch := omega) only [iN_lit, iI_le]
    rw [if_pos (by omega)]
    refine lpI2 (fun i v (m7 : pw_Mem) => v = iI (i : Nat) ∧ (m7 o = m6 o ∧ m7 (o + 1) = m6 (o + 1) ∧ m7 (o + 2) = m6 (o + 2)) ∧ (∀ j, j < i → m7 (o + 4) j = m (o1 + 4) j ∧ m7 (o + 5) j = m (o1 + 5) j ∧ m7 (o + 6) j = m (o1 + 6) j ∧ m7 (o + 7) j = m (o1 + 7) j ∧ m7 (o + 8) j = m (o1 + 8) j ∧ m7 (o + 9) j = m (o1 + 9) j ∧ m7 (o + 10) j = m (o1 + 10) j ∧ m7 (o + 11) j = m (o1 + 11) j) ∧ ∀ c, c < o ∨ o + 11 < c → m7 c = m c) (fun x => ∃ m' : pw_Mem, x = some m' ∧ CT m' o t ∧ ∀ c, c < o ∨ o + 11 < c → m' c = m c) 10 (by omega) ?_ ?_ ⟨rfl, ⟨rfl, rfl, rfl⟩, fun j hj => by omega, f6⟩
    · rintro nx i _ m7 hi ⟨rfl, hd7, hq7, f7⟩ hnx
      have e1 : iI (i : Int) + iI ((1 : Nat) : Int) = iI ((i + 1 : Nat) : Int) := iN_add i 1
      have g4 := f7 (o1 + 4) (by omega)
      have g5 := f7 (o1 + 5) (by omega)
      have g6 := f7 (o1 + 6) (by omega)
      have g7 := f7 (o1 + 7) (by omega)
      have g8 := f7 (o1 + 8) (by omega)
      have g9 := f7 (o1 + 9) (by omega)
      have g10 := f7 (o1 + 10) (by omega)
      have g11 := f7 (o1 + 11) (by omega)
      simp (disch := omega) only [iI_le, gd_ix, iI_clN, e1]
      rw [if_neg (by omega)]
      refine hnx _ _ ⟨rfl, ?_, fun j hj => ?_, fun c hc => ?_⟩
      · simp (disch := omega) only [up_oc]
        exact hd7
      · by_cases e : j = i
        · subst e
          simp (disch := omega) only [up_eq, up_o, g4, g5, g6, g7, g8, g9, g10, g11, and_self]
        · have := hq7 j (by omega)
          simp (disch := omega) only [up_ne, up_o]
          exact this
      · rw [up_oc (by omega), up_oc (by omega), up_oc (by omega), up_oc (by omega), up_oc (by omega), up_oc (by omega), up_oc (by omega), up_oc (by omega), f7 c hc]
    · rintro nx _ m7 ⟨rfl, hd7, hq7, f7⟩
      simp (disch := omega) only [iI_le]
      rw [if_pos (by omega)]
      refine ⟨m7, rfl, ?_, f7⟩
      obtain ⟨⟨a0, a1, a2, a3, a4⟩, hP, hB⟩ := h
      obtain ⟨d0, d1, d2⟩ := hd7
      refine ⟨?_, fun q hq1 => ?_, fun c hc => ?_⟩
      · rw [d0]
        exact ⟨hd.1.trans a0, hd.2.1.trans a1, hd.2.2.1.trans a2, hd.2.2.2.1.trans a3, hd.2.2.2.2.trans a4⟩
      · rw [d1, d2]
        exact ⟨(hq q (by omega)).1.trans (hP q hq1).1, (hq q (by omega)).2.trans (hP q hq1).2⟩
      · obtain ⟨x4, x5, x6, x7, x8, x9, x10, x11⟩ := hq7 c (by omega)
        obtain ⟨b0, b1, b2, b3, b4, b5, b6, b7⟩ := hB c hc
        exact ⟨x4.trans b0, x5.trans b1, x6.trans b2, x7.trans b3, x8.trans b4, x9.trans b5, x10.trans b6, x11.trans b7⟩
  · refine ⟨rfl, ?_, fun j hj => by omega, fun c hc => ?_⟩
    · have : ∀ j, pw_up m o 11 (m o1 11) o1 j = m o1 j := fun j => up_o (by omega)
      simp (disch := omega) only [up_eq, up_ne, up_o, and_self]
    · rw [up_oc (by omega), up_oc (by omega), up_oc (by omega), up_oc (by omega), up_oc (by omega)]
