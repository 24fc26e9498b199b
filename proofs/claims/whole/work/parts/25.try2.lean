/-! TRYING, of the class -/
set_option maxRecDepth 100000
theorem one : (1 : Int32) = iI ((1 : Nat) : Int) := rfl
theorem one' : iI ((1 : Nat) : Int) = iI 1 := rfl
theorem i99 : (99 : Int32) = iI ((99 : Nat) : Int) := rfl
theorem c_sting {m : pw_Mem} {o : Nat} {t : TT} (h : CT m o t) (w : WT t) {p : Nat} (hp : p < tN t) : ∃ m', fX7_sting o (iI p) m = some m' ∧ CT m' o (sS t (stg1 (tS t) p)) ∧ ∀ c, c ≠ o + 2 → m' c = m c := by
  have h7 := w.1.1
  have e := (h.2.1 p hp).2
  have s99 := (w.2.1 p hp).2
  unfold fX7_sting
  simp (disch := omega) only [gd_ix, iI_clN, e, i99, iI_le, lt_def, one, iN_add]
  by_cases c : 99 ≤ tS t p
  · rw [if_pos (by omega)]
    refine ⟨m, rfl, ?_, fun _ _ => rfl⟩
    have : stg1 (tS t) p = tS t := by
      funext q
      unfold stg1
      by_cases hq : q = p
      · subst hq
        rw [up1_eq]
        omega
      · rw [up1_ne hq]
    rw [this]
    exact h
  · rw [if_neg (by omega)]
    refine ⟨_, rfl, ?_, fun c hc => up_oc hc⟩
    have := CT_stung (v := min 99 (tS t p + 1)) h hp
    rw [show min 99 (tS t p + 1) = tS t p + 1 by omega] at this
    unfold stg1
    rw [show min 99 (tS t p + 1) = tS t p + 1 by omega]
    exact this
theorem CT_snapT {m : pw_Mem} {o : Nat} {t t2 : TT} (h : CT m o t) (e : tX t2 = tX t) : msk (tX t2) (tK t) = msk (tX t) (tK t) := by rw [e]
theorem msk_or2 (P Q : Nat → Bool) (k : Nat) : msk P k ||| msk Q k = msk (fun b => P b || Q b) k := by
  apply Nat.eq_of_testBit_eq
  intro i
  rw [Nat.testBit_or, msk_bit, msk_bit, msk_bit]
  cases decide (i < k) <;> simp
/-- the stung ones of tryN, the snapped ones still as they were -/
def stgT (t : TT) (i : Nat) : TT := sS t (stgN (ovr t) (tO t) (tQ t) (tS t) i)
theorem c_tryAll {m : pw_Mem} {o : Nat} {t : TT} (h : CT m o t) (w : WT t) : ∃ m', fX7_tryAll o m = some (iI ((cnt (ovr t) (tK t) : Nat) : Int), m') ∧ CT m' o (tryT t) ∧ ∀ c, c ≠ o → c ≠ o + 2 → m' c = m c := by
  have hk := w.1.2.1
  have hc9 := w.1.2.2.1
  have hm := msk_lt' (ovr t) hk
  have hm2 := msk_lt' (tX t) hk
  unfold fX7_tryAll
  rw [h.1.2.2.2.1, c_over h w (by omega), ovC_ovr, bd_some]
  refine lpI2 (fun i v m6 => v = iI (i : Nat) ∧ CT m6 o (stgT t i) ∧ ∀ c, c ≠ o + 2 → m6 c = m c) (fun x => ∃ m', x = some (iI ((cnt (ovr t) (tK t) : Nat) : Int), m') ∧ CT m' o (tryT t) ∧ ∀ c, c ≠ o → c ≠ o + 2 → m' c = m c) (tK t) (by omega) ?_ ?_ ⟨rfl, h, fun _ _ => rfl⟩
  · rintro nx i _ m6 hi ⟨rfl, h6, f6⟩ hnx
    have h61 : m6 o 12 = iI (tK t) := h6.1.2.1
    have e1 : iI (i : Int) + iI 1 = iI ((i + 1 : Nat) : Int) := iN_add i 1
    have w6 : WT (stgT t i) := WT_S w (fun p hp => stgN_le (w.2.1 p hp).2 i)
    simp (disch := omega) only [h61, iI_le, jn_def, lt_def, i31, i1', iI_bit, msk_bit, hi, decide_true, Bool.true_and, e1]
    rw [if_neg (by omega)]
    cases ho : ovr t i
    · simp only [Bool.false_eq_true, if_false]
      rw [if_neg (by decide)]
      refine hnx _ _ ⟨rfl, ?_, f6⟩
      have : stgT t (i + 1) = stgT t i := by
        unfold stgT
        simp [stgN, ho]
      rw [this]
      exact h6
    · simp only [if_true]
      have l1 : tO t i < tN t := (w.2.2 i hi).2.2.1
      have l2 : tQ t i < tN t := (w.2.2 i hi).2.2.2.1
      obtain ⟨m12, q12, g12, f12⟩ := c_sting h6 w6 (p := tO t i) l1
      have w12 := WT_S w6 (f := stg1 (tS (stgT t i)) (tO t i)) (fun p hp => stg1_le (w6.2.1 p hp).2)
      obtain ⟨m13, q13, g13, f13⟩ := c_sting g12 w12 (p := tQ t i) l2
      have a1 : m6 (o + 6) i = iI (tO t i) := (h6.2.2 i hi).2.2.1
      have a2 : m12 (o + 7) i = iI (tQ t i) := (g12.2.2 i hi).2.2.2.1
      simp (disch := omega) only [gd_ix, iI_clN, a1, q12, bd_some, a2, q13]
      refine hnx _ _ ⟨rfl, ?_, fun c hc => ?_⟩
      · have : stgT t (i + 1) = sS (sS (stgT t i) (stg1 (tS (stgT t i)) (tO t i))) (stg1 (stg1 (tS (stgT t i)) (tO t i)) (tQ t i)) := by
          unfold stgT
          simp only [stgN, ho, if_true]
          rfl
        rw [this]
        exact g13
      · rw [f13 c hc, f12 c hc, f6 c hc]
  · rintro nx _ m6 ⟨rfl, h6, f6⟩
    have h61 : m6 o 12 = iI (tK t) := h6.1.2.1
    have h63 : m6 o 13 = iI ((msk (tX t) (tK t) : Nat) : Int) := h6.1.2.2.1
    rw [h61, if_le (by omega) (by omega) (by omega) (by omega), if_pos (by omega), lt_def, c_bitsM _ hk, bd_some, h63, iI_or (by omega) (by omega), msk_or2]
    refine ⟨_, rfl, ?_, fun c h1 h2 => ?_⟩
    · refine CT_snap (f := fun b => tX t b || (decide (b < tK t) && ovr t b)) h6 ?_
      refine msk_congr fun b hb => ?_
      have hb : b < tK t := hb
      simp [hb]
    · rw [up_oc h1, f6 c h2]
theorem c_moves {m : pw_Mem} {o : Nat} {t : TT} (h : CT m o t) (w : WT t) {p x : Nat} (hp : p < tN t) (hx : x ≤ 30) : ∃ m', fX7_moves o (iI p) (iI x) m = some (iI ((cnt (ovr (sP t (up1 (tP t) p x))) (tK t) : Nat) : Int), m') ∧ CT m' o (tryT (sP t (up1 (tP t) p x))) ∧ ∀ c, c ≠ o → c ≠ o + 1 → c ≠ o + 2 → m' c = m c := by
  have h7 := w.1.1
  have g := CT_place (v := x) h hp
  have w2 : WT (sP t (up1 (tP t) p x)) := WT_P w (fun q hq => by
    unfold up1
    split
    · exact hx
    · exact (w.2.1 q hq).1)
  obtain ⟨m', q, g', f⟩ := c_tryAll g w2
  refine ⟨m', ?_, g', fun c h1 h2 h3 => by rw [f c h1 h3, up_oc h2]⟩
  unfold fX7_moves
  simp (disch := omega) only [gd_ix, iI_clN, lt_def, q, bd2_some]
  rfl
theorem c_chills {m : pw_Mem} {o : Nat} {t : TT} (h : CT m o t) (w : WT t) {x : Nat} (hx : x ≤ 9) : ∃ m', fX7_chills o (iI x) m = some (iI ((cnt (ovr (sC t x)) (tK t) : Nat) : Int), m') ∧ CT m' o (tryT (sC t x)) ∧ ∀ c, c ≠ o → c ≠ o + 2 → m' c = m c := by
  have g := CT_cold (v := x) h
  obtain ⟨m', q, g', f⟩ := c_tryAll g (WT_C w hx)
  refine ⟨m', ?_, g', fun c h1 h2 => by rw [f c h1 h2, up_oc h1]⟩
  unfold fX7_chills
  rw [lt_def, q, bd2_some]
  rfl
theorem WT_move {t : TT} (w : WT t) {p x : Nat} (hx : x ≤ 30) : WT (sP t (up1 (tP t) p x)) := WT_P w (fun q hq => by
    unfold up1
    split
    · exact hx
    · exact (w.2.1 q hq).1)
theorem r_goesTo {m : pw_Mem} {o : Nat} {t : TT} (h : RT m o t) (w : WT t) {p x : Nat} (hp : p < tN t) (hx : x ≤ 30) : ∃ m', fX11_goesTo o (iI p) (iI x) m = some (iI ((msk (ovr (sP t (up1 (tP t) p x))) (tK t) : Nat) : Int), m') ∧ RT m' o (tryT (sP t (up1 (tP t) p x))) ∧ ∀ c, c ≠ o → m' c = m c := by
  have h7 := w.1.1
  have g := RT_place (v := x) h hp h7
  obtain ⟨m', q, g', f⟩ := r_tries g (WT_move w hx)
  refine ⟨m', ?_, g', fun c h1 => by rw [f c h1, up_oc h1]⟩
  unfold fX11_goesTo
  simp (disch := omega) only [iN_lit, iN_add, gd_ix, iI_clN, lt_def, q, bd2_some]
  rfl
-- what pulls one
def sideN (t : TT) (p : Nat) (r : Bool) (b : Nat) : Nat :=
  if tO t b = p then (if (if r then tP t p < tP t (tQ t b) else tP t (tQ t b) < tP t p) then pul t b else 0)
  else if tQ t b = p then (if (if r then tP t p < tP t (tO t b) else tP t (tO t b) < tP t p) then pul t b else 0) else 0
def sumN (f : Nat → Nat) : Nat → Nat
  | 0 => 0
  | k + 1 => sumN f k + f k
def pld (t : TT) (p : Nat) (r : Bool) : Nat := sumN (sideN t p r) (tK t)
theorem sumN_le {f : Nat → Nat} {c : Nat} : ∀ {k : Nat}, (∀ i, i < k → f i ≤ c) → sumN f k ≤ k * c
  | 0, _ => by simp [sumN]
  | k + 1, h => by
    have := sumN_le (k := k) (fun i hi => h i (by omega))
    have := h k (by omega)
    simp only [sumN, Nat.succ_mul]
    omega
theorem sumN_congr {f g : Nat → Nat} : ∀ {k : Nat}, (∀ i, i < k → f i = g i) → sumN f k = sumN g k
  | 0, _ => rfl
  | k + 1, h => by simp only [sumN, h k (by omega), sumN_congr (k := k) (fun i hi => h i (by omega))]
theorem sideN_le {t : TT} (w : WT t) (p : Nat) (r : Bool) {b : Nat} (hb : b < tK t) : sideN t p r b ≤ 120 := by
  have := pul_le w hb
  unfold sideN
  repeat' split
  all_goals omega
theorem sumN_leS {t : TT} (w : WT t) (p : Nat) (r : Bool) {i : Nat} (hi : i ≤ tK t) : sumN (sideN t p r) i ≤ 1200 := by
  have h1 := sumN_le (c := 120) (k := i) (fun b hb => sideN_le w p r (b := b) (by omega))
  have h2 := w.1.2.1
  omega
theorem pld_le {t : TT} (w : WT t) (p : Nat) (r : Bool) : pld t p r ≤ 1200 := sumN_leS w p r (Nat.le_refl _)
