/-! A YEAR -/
set_option maxRecDepth 100000
def lean (t : TT) (p : Nat) : Int := (pld t p true : Int) - (pld t p false : Int)
def stepP (t : TT) (p : Nat) : Nat := if 0 < lean t p then tP t p + 1 else if lean t p < 0 then tP t p - 1 else tP t p
theorem sumN_pos {f : Nat → Nat} : ∀ {k : Nat}, 0 < sumN f k → ∃ i, i < k ∧ 0 < f i
  | 0, h => absurd h (by simp [sumN])
  | k + 1, h => by
    simp only [sumN] at h
    by_cases h1 : 0 < f k
    · exact ⟨k, by omega, h1⟩
    · obtain ⟨i, hi, hf⟩ := sumN_pos (k := k) (f := f) (by omega)
      exact ⟨i, by omega, hf⟩
theorem sideN_pos {t : TT} (w : WT t) {p b : Nat} {r : Bool} (hb : b < tK t) (h : 0 < sideN t p r b) : ∃ q, q < tN t ∧ (if r then tP t p < tP t q else tP t q < tP t p) := by
  obtain ⟨-, -, l1, l2, -, -⟩ := w.2.2 b hb
  unfold sideN at h
  by_cases c1 : tO t b = p
  · rw [if_pos c1] at h
    refine ⟨tQ t b, l2, ?_⟩
    by_cases c : (if r then tP t p < tP t (tQ t b) else tP t (tQ t b) < tP t p)
    · exact c
    · rw [if_neg c] at h
      omega
  · rw [if_neg c1] at h
    by_cases c2 : tQ t b = p
    · rw [if_pos c2] at h
      refine ⟨tO t b, l1, ?_⟩
      by_cases c : (if r then tP t p < tP t (tO t b) else tP t (tO t b) < tP t p)
      · exact c
      · rw [if_neg c] at h
        omega
    · rw [if_neg c2] at h
      omega
theorem lean_pos {t : TT} (w : WT t) {p : Nat} (h : 0 < lean t p) : tP t p < 30 := by
  unfold lean at h
  have h1 : 0 < pld t p true := by omega
  obtain ⟨i, hi, hf⟩ := sumN_pos h1
  obtain ⟨q, hq, hc⟩ := sideN_pos w hi hf
  have := (w.2.1 q hq).1
  simp only [if_true] at hc
  omega
theorem lean_neg {t : TT} (w : WT t) {p : Nat} (h : lean t p < 0) : 0 < tP t p := by
  unfold lean at h
  have h1 : 0 < pld t p false := by omega
  obtain ⟨i, hi, hf⟩ := sumN_pos h1
  obtain ⟨q, hq, hc⟩ := sideN_pos w hi hf
  simp only [Bool.false_eq_true, if_false] at hc
  omega
theorem stepP_le {t : TT} (w : WT t) {p : Nat} (hp : p < tN t) : stepP t p ≤ 30 := by
  have := (w.2.1 p hp).1
  unfold stepP
  split
  · have := lean_pos w (by assumption)
    omega
  · split <;> omega
theorem lean_le {t : TT} (w : WT t) (p : Nat) : -1200 ≤ lean t p ∧ lean t p ≤ 1200 := by
  have := pld_le w p true
  have := pld_le w p false
  unfold lean
  omega
theorem CT_frame3 {m m' : pw_Mem} {o : Nat} {t : TT} (h : CT m o t) (hf : ∀ c, o ≤ c → c ≤ o + 11 → c ≠ o + 3 → m' c = m c) : CT m' o t := by
  obtain ⟨⟨a0, a1, a2, a3, a4⟩, hP, hB⟩ := h
  refine ⟨?_, fun q hq => ?_, fun c hc => ?_⟩
  · rw [hf o (by omega) (by omega) (by omega)]
    exact ⟨a0, a1, a2, a3, a4⟩
  · rw [hf (o + 1) (by omega) (by omega) (by omega), hf (o + 2) (by omega) (by omega) (by omega)]
    exact hP q hq
  · rw [hf (o + 4) (by omega) (by omega) (by omega), hf (o + 5) (by omega) (by omega) (by omega), hf (o + 6) (by omega) (by omega) (by omega), hf (o + 7) (by omega) (by omega) (by omega), hf (o + 8) (by omega) (by omega) (by omega), hf (o + 9) (by omega) (by omega) (by omega), hf (o + 10) (by omega) (by omega) (by omega), hf (o + 11) (by omega) (by omega) (by omega)]
    exact hB c hc
theorem pul_0 {t : TT} {b : Nat} (h : tP t (tO t b) = tP t (tQ t b)) : pul t b = 0 := by
  unfold pul strt dst
  rw [h]
  simp
def leanN (t : TT) (i p : Nat) : Int := (sumN (sideN t p true) i : Int) - (sumN (sideN t p false) i : Int)
theorem leanN_le {t : TT} (w : WT t) {i : Nat} (hi : i ≤ tK t) (p : Nat) : -1200 ≤ leanN t i p ∧ leanN t i p ≤ 1200 := by
  have := sumN_leS w p true hi
  have := sumN_leS w p false hi
  unfold leanN
  omega
def pulS (t : TT) (b : Nat) : Int := if tP t (tQ t b) ≤ tP t (tO t b) then -(pul t b : Int) else (pul t b : Int)
theorem leanN_s {t : TT} {i p : Nat} (h3 : tO t i ≠ tQ t i) : leanN t (i + 1) p = if p = tO t i then leanN t i p + pulS t i else if p = tQ t i then leanN t i p - pulS t i else leanN t i p := by
  have h0 := pul_0 (t := t) (b := i)
  unfold leanN
  simp only [sumN]
  unfold sideN pulS
  by_cases c1 : tO t i = p
  · have : p = tO t i := c1.symm
    subst this
    simp only [if_true, Bool.false_eq_true, if_false]
    by_cases q1 : tP t (tO t i) < tP t (tQ t i)
    · rw [if_pos q1, if_neg (by omega), if_neg (by omega)]
      omega
    · by_cases q2 : tP t (tQ t i) < tP t (tO t i)
      · rw [if_neg q1, if_pos q2, if_pos (by omega)]
        omega
      · rw [if_neg q1, if_neg q2, if_pos (by omega), h0 (by omega)]
        omega
  · have n1 : ¬ p = tO t i := fun q => c1 q.symm
    simp only [if_neg c1, if_neg n1]
    by_cases c2 : tQ t i = p
    · have : p = tQ t i := c2.symm
      subst this
      simp only [if_true, Bool.false_eq_true, if_false]
      by_cases q1 : tP t (tO t i) < tP t (tQ t i)
      · rw [if_neg (by omega), if_pos q1, if_neg (by omega)]
        omega
      · by_cases q2 : tP t (tQ t i) < tP t (tO t i)
        · rw [if_pos q2, if_neg q1, if_pos (by omega)]
          omega
        · rw [if_neg q2, if_neg q1, if_pos (by omega), h0 (by omega)]
          omega
    · have n2 : ¬ p = tQ t i := fun q => c2 q.symm
      simp only [if_neg c2, if_neg n2, Nat.add_zero]
theorem c_weighLeans {m : pw_Mem} {o : Nat} {t : TT} (h : CT m o t) (w : WT t) : ∃ m' : pw_Mem, fX7_weighLeans o m = some m' ∧ (∀ p, p < tN t → m' (o + 3) p = iI (lean t p)) ∧ ∀ c, c ≠ o + 3 → m' c = m c := by
  have hk := w.1.2.1
  have h7 := w.1.1
  unfold fX7_weighLeans
  refine lpI2 (fun i v (m6 : pw_Mem) => v = iI (i : Nat) ∧ (∀ j, j < i → m6 (o + 3) j = iI ((0 : Nat) : Int)) ∧ ∀ c, c ≠ o + 3 → m6 c = m c) (fun x => ∃ m' : pw_Mem, x = some m' ∧ (∀ p, p < tN t → m' (o + 3) p = iI (lean t p)) ∧ ∀ c, c ≠ o + 3 → m' c = m c) (tN t) (by omega) ?_ ?_ ⟨rfl, fun j hj => by omega, fun _ _ => rfl⟩
  · rintro nx i _ m6 hi ⟨rfl, h6, f6⟩ hnx
    have e1 : iI (i : Int) + iI ((1 : Nat) : Int) = iI ((i + 1 : Nat) : Int) := iN_add i 1
    have h61 : m6 o 11 = iI (tN t) := by rw [f6 o (by omega)]; exact h.1.1
    simp (disch := omega) only [iN_lit, h61, iI_le, gd_ix, iI_clN, lt_def, e1]
    rw [if_neg (by omega)]
    refine hnx _ _ ⟨rfl, fun j hj => ?_, fun c hc => by rw [up_oc hc, f6 c hc]⟩
    by_cases e : j = i
    · subst e
      rw [up_eq]
    · rw [up_ne e, h6 j (by omega)]
  · rintro nx _ m6 ⟨rfl, h6, f6⟩
    have h61 : m6 o 11 = iI (tN t) := by rw [f6 o (by omega)]; exact h.1.1
    simp (disch := omega) only [h61, iI_le]
    rw [if_pos (by omega)]
    refine lpI2 (fun i v (m7 : pw_Mem) => v = iI (i : Nat) ∧ (∀ j, j < tN t → m7 (o + 3) j = iI (leanN t i j)) ∧ ∀ c, c ≠ o + 3 → m7 c = m c) (fun x => ∃ m' : pw_Mem, x = some m' ∧ (∀ p, p < tN t → m' (o + 3) p = iI (lean t p)) ∧ ∀ c, c ≠ o + 3 → m' c = m c) (tK t) (by omega) ?_ ?_ ⟨rfl, fun j hj => h6 j hj, f6⟩
    · rintro nx i _ m7 hi ⟨rfl, hq7, f7⟩ hnx
      have e1 : iI (i : Int) + iI ((1 : Nat) : Int) = iI ((i + 1 : Nat) : Int) := iN_add i 1
      obtain ⟨-, -, l1, l2, l3, -⟩ := w.2.2 i hi
      have hC : CT m7 o t := CT_frame3 h (fun c _ _ hc => f7 c hc)
      obtain ⟨-, -, b2, b3, -⟩ := hC.2.2 i hi
      have q1 := (hC.2.1 _ l1).1
      have q2 := (hC.2.1 _ l2).1
      have p1 := (w.2.1 _ l1).1
      have p2 := (w.2.1 _ l2).1
      have a1 := hq7 _ l1
      have a2 := hq7 _ l2
      have hpu := pul_le w hi
      have g1 := leanN_le w (i := i) (by omega) (tO t i)
      have g2 := leanN_le w (i := i) (by omega) (tQ t i)
      simp (disch := omega) only [iN_lit, hC.1.2.1, iI_le, gd_ix, iI_clN, lt_def, b2, b3, q1, q2, c_pull hC w hi, bd_some, jn_def, e1, a1, iI_neg]
      rw [if_neg (by omega)]
      have key : ∀ v : Int, v = pulS t i → nx (iI ((i + 1 : Nat) : Int)) (pw_up (pw_up m7 (o + 3) (tO t i) (iI (leanN t i (tO t i)) + iI v)) (o + 3) (tQ t i) (pw_up m7 (o + 3) (tO t i) (iI (leanN t i (tO t i)) + iI v) (o + 3) (tQ t i) - iI v)) = nx (iI ((i + 1 : Nat) : Int)) (pw_up (pw_up m7 (o + 3) (tO t i) (iI (leanN t i (tO t i) + pulS t i))) (o + 3) (tQ t i) (iI (leanN t i (tQ t i) - pulS t i))) := by
        intro v hv
        subst hv
        rw [up_ne (Ne.symm l3), a2, iI_add, iI_sub]
      have fin : ∃ m' : pw_Mem, nx (iI ((i + 1 : Nat) : Int)) (pw_up (pw_up m7 (o + 3) (tO t i) (iI (leanN t i (tO t i) + pulS t i))) (o + 3) (tQ t i) (iI (leanN t i (tQ t i) - pulS t i))) = some m' ∧ (∀ p, p < tN t → m' (o + 3) p = iI (lean t p)) ∧ ∀ c, c ≠ o + 3 → m' c = m c := by
        refine hnx _ _ ⟨rfl, fun j hj => ?_, fun c hc => by rw [up_oc hc, up_oc hc, f7 c hc]⟩
        rw [leanN_s l3]
        by_cases c2 : j = tQ t i
        · have c1 : ¬ j = tO t i := fun q => l3 (q.symm.trans c2)
          rw [if_neg c1, if_pos c2]
          subst c2
          rw [up_eq]
        · rw [up_ne c2]
          by_cases c1 : j = tO t i
          · rw [if_pos c1]
            subst c1
            rw [up_eq]
          · rw [if_neg c1, if_neg c2, up_ne c1]
            exact hq7 j hj
      split
      · rw [key _ (by unfold pulS; rw [if_pos (by omega)])]
        exact fin
      · rw [key _ (by unfold pulS; rw [if_neg (by omega)])]
        exact fin
    · rintro nx _ m7 ⟨rfl, hq7, f7⟩
      have h71 : m7 o 12 = iI (tK t) := by rw [f7 o (by omega)]; exact h.1.2.1
      simp (disch := omega) only [h71, iI_le]
      rw [if_pos (by omega)]
      exact ⟨m7, rfl, hq7, f7⟩
/-- some have stepped: those below i -/
def stpN (t : TT) (i : Nat) : TT := sP t (fun p => if p < i then stepP t p else tP t p)
theorem stpN_s (t : TT) (i : Nat) : stpN t (i + 1) = sP (stpN t i) (up1 (tP (stpN t i)) i (stepP t i)) := by
  have : (fun p => if p < i + 1 then stepP t p else tP t p) = up1 (fun p => if p < i then stepP t p else tP t p) i (stepP t i) := by
    funext p
    by_cases e : p = i
    · subst e
      rw [up1_eq, if_pos (by omega)]
    · rw [up1_ne e]
      by_cases h : p < i
      · rw [if_pos h, if_pos (by omega)]
      · rw [if_neg h, if_neg (by omega)]
  unfold stpN
  rw [this]
  rfl
theorem stpN_0 (t : TT) : stpN t 0 = t := by
  have : (fun p => if p < 0 then stepP t p else tP t p) = tP t := by
    funext p
    rw [if_neg (by omega)]
  unfold stpN
  rw [this]
  rfl
theorem stpN_at (t : TT) (i : Nat) : tP (stpN t i) i = tP t i := by
  show (if i < i then stepP t i else tP t i) = tP t i
  rw [if_neg (by omega)]
def stpT (t : TT) : TT := stpN t (tN t)
theorem WT_stpN {t : TT} (w : WT t) (i : Nat) : WT (stpN t i) := WT_P w (fun p hp => by
  split
  · exact stepP_le w hp
  · exact (w.2.1 p hp).1)
def lnz (t : TT) (p : Nat) : Bool := !decide (lean t p = 0)
theorem c_stepAll {m : pw_Mem} {o : Nat} {t : TT} (h : CT m o t) (w : WT t) (hl : ∀ p, p < tN t → m (o + 3) p = iI (lean t p)) : ∃ m' : pw_Mem, fX7_stepAll o m = some (iI ((cnt (lnz t) (tN t) : Nat) : Int), m') ∧ CT m' o (stpT t) ∧ ∀ c, c ≠ o + 1 → m' c = m c := by
  have hk := w.1.2.1
  have h7 := w.1.1
  unfold fX7_stepAll
  refine lpI3 (fun i v1 v2 (m6 : pw_Mem) => v1 = iI ((cnt (lnz t) i : Nat) : Int) ∧ v2 = iI (i : Nat) ∧ CT m6 o (stpN t i) ∧ ∀ c, c ≠ o + 1 → m6 c = m c) (fun x => ∃ m' : pw_Mem, x = some (iI ((cnt (lnz t) (tN t) : Nat) : Int), m') ∧ CT m' o (stpT t) ∧ ∀ c, c ≠ o + 1 → m' c = m c) (tN t) (by omega) ?_ ?_ ⟨rfl, rfl, by rw [stpN_0]; exact h, fun _ _ => rfl⟩
  · rintro nx i _ _ m6 hi ⟨rfl, rfl, h6, f6⟩ hnx
    have e1 : iI (i : Int) + iI ((1 : Nat) : Int) = iI ((i + 1 : Nat) : Int) := iN_add i 1
    have h61 : m6 o 11 = iI (tN t) := h6.1.1
    have hle : m6 (o + 3) i = iI (lean t i) := by rw [f6 _ (by omega)]; exact hl i hi
    have hp : m6 (o + 1) i = iI (tP t i) := by rw [(h6.2.1 i hi).1, stpN_at]
    have ll := lean_le w i
    have p30 := (w.2.1 i hi).1
    have hc := cnt_le (lnz t) i
    have hcs : cnt (lnz t) (i + 1) = cnt (lnz t) i + (if lnz t i then 1 else 0) := rfl
    simp (disch := omega) only [iN_lit, h61, iI_le, gd_ix, iI_clN, hle, iI_eq, jn_def, lt_def, e1, hp, iN_add, iI_neg, iI_add]
    rw [if_neg (by omega)]
    by_cases c0 : lean t i = 0
    · rw [if_pos (by omega)]
      refine hnx _ _ _ ⟨?_, rfl, ?_, f6⟩
      · rw [hcs]
        simp [lnz, c0]
      · rw [stpN_s]
        have : up1 (tP (stpN t i)) i (stepP t i) = tP (stpN t i) := by
          funext p
          by_cases e : p = i
          · subst e
            rw [up1_eq, stpN_at]
            unfold stepP
            rw [if_neg (by omega), if_neg (by omega)]
          · rw [up1_ne e]
        rw [this]
        exact h6
    · rw [if_neg (by omega)]
      have hz : (if lnz t i = true then 1 else 0) = 1 := by simp [lnz, c0]
      split
      · have hn : lean t i < 0 := by omega
        have := lean_neg w hn
        refine hnx _ _ _ ⟨by rw [hcs, hz]; rfl, rfl, ?_, fun c hc => by rw [up_oc hc, f6 c hc]⟩
        rw [stpN_s]
        have hv : stepP t i = tP t i - 1 := by
          unfold stepP
          rw [if_neg (by omega), if_pos hn]
        have := CT_place (v := stepP t i) h6 hi
        rw [show (tP t i : Int) + -((1 : Nat) : Int) = ((stepP t i : Nat) : Int) by omega]
        exact this
      · have hn : 0 < lean t i := by omega
        have := lean_pos w hn
        refine hnx _ _ _ ⟨by rw [hcs, hz]; rfl, rfl, ?_, fun c hc => by rw [up_oc hc, f6 c hc]⟩
        rw [stpN_s]
        have hv : stepP t i = tP t i + 1 := by
          unfold stepP
          rw [if_pos hn]
        have := CT_place (v := stepP t i) h6 hi
        rw [hv] at this
        rw [hv]
        exact this
  · rintro nx _ _ m6 ⟨rfl, rfl, h6, f6⟩
    have h61 : m6 o 11 = iI (tN t) := h6.1.1
    simp (disch := omega) only [h61, iI_le]
    rw [if_pos (by omega)]
    exact ⟨m6, rfl, h6, f6⟩
