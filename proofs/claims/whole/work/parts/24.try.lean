/-! CHANGES of what both sides hold, one number at a time; TRYING -/
set_option maxRecDepth 100000
theorem up_eq (m : pw_Mem) (o j : Nat) (v : Int32) : pw_up m o j v o j = v := by simp [pw_up, upd]
theorem up_ne {m : pw_Mem} {o j j' : Nat} {v : Int32} (h : j' ≠ j) : pw_up m o j v o j' = m o j' := by simp [pw_up, upd, h]
theorem up_oc {m : pw_Mem} {o j c : Nat} {v : Int32} (h : c ≠ o) : pw_up m o j v c = m c := by simp [pw_up, h]
theorem up_o {m : pw_Mem} {o j c j' : Nat} {v : Int32} (h : c ≠ o) : pw_up m o j v c j' = m c j' := by rw [up_oc h]
def up1 (f : Nat → Nat) (k v : Nat) : Nat → Nat := fun j => if j = k then v else f j
theorem up1_eq (f : Nat → Nat) (k v : Nat) : up1 f k v k = v := if_pos rfl
theorem up1_ne {f : Nat → Nat} {k v j : Nat} (h : j ≠ k) : up1 f k v j = f j := if_neg h
def upB (f : Nat → Bool) (k : Nat) (v : Bool) : Nat → Bool := fun j => if j = k then v else f j
theorem upB_eq (f : Nat → Bool) (k : Nat) (v : Bool) : upB f k v k = v := if_pos rfl
theorem upB_ne {f : Nat → Bool} {k j : Nat} {v : Bool} (h : j ≠ k) : upB f k v j = f j := if_neg h
theorem RT_stung {m : pw_Mem} {o : Nat} {t : TT} {p v : Nat} (h : RT m o t) (hp : p < tN t) (h7 : tN t ≤ 7) : RT (pw_up m o (11 + p) (iI (v : Nat))) o (sS t (up1 (tS t) p v)) := by
  obtain ⟨⟨a0, a1, a2, a3⟩, hP, hB⟩ := h
  refine ⟨⟨(up_ne (by omega)).trans a0, (up_ne (by omega)).trans a1, (up_ne (by omega)).trans a2, (up_ne (by omega)).trans a3⟩, fun q hq => ?_, fun c hc => ?_⟩
  · have hq : q < tN t := hq
    by_cases e : q = p
    · subst e
      exact ⟨(up_ne (by omega)).trans (hP q hq).1, (up_eq _ _ _ _).trans (congrArg (fun z : Nat => iI z) (up1_eq (tS t) q v).symm)⟩
    · exact ⟨(up_ne (by omega)).trans (hP q hq).1, (up_ne (by omega)).trans ((hP q hq).2.trans (congrArg (fun z : Nat => iI z) (up1_ne e).symm))⟩
  · have hc : c < tK t := hc
    obtain ⟨b0, b1, b2, b3, b4, b5⟩ := hB c hc
    exact ⟨(up_ne (by omega)).trans b0, (up_ne (by omega)).trans b1, (up_ne (by omega)).trans b2, (up_ne (by omega)).trans b3, (up_ne (by omega)).trans b4, (up_ne (by omega)).trans b5⟩
theorem RT_place {m : pw_Mem} {o : Nat} {t : TT} {p v : Nat} (h : RT m o t) (hp : p < tN t) (h7 : tN t ≤ 7) : RT (pw_up m o (4 + p) (iI (v : Nat))) o (sP t (up1 (tP t) p v)) := by
  obtain ⟨⟨a0, a1, a2, a3⟩, hP, hB⟩ := h
  refine ⟨⟨(up_ne (by omega)).trans a0, (up_ne (by omega)).trans a1, (up_ne (by omega)).trans a2, (up_ne (by omega)).trans a3⟩, fun q hq => ?_, fun c hc => ?_⟩
  · have hq : q < tN t := hq
    by_cases e : q = p
    · subst e
      exact ⟨(up_eq _ _ _ _).trans (congrArg (fun z : Nat => iI z) (up1_eq (tP t) q v).symm), (up_ne (by omega)).trans (hP q hq).2⟩
    · exact ⟨(up_ne (by omega)).trans ((hP q hq).1.trans (congrArg (fun z : Nat => iI z) (up1_ne e).symm)), (up_ne (by omega)).trans (hP q hq).2⟩
  · have hc : c < tK t := hc
    obtain ⟨b0, b1, b2, b3, b4, b5⟩ := hB c hc
    exact ⟨(up_ne (by omega)).trans b0, (up_ne (by omega)).trans b1, (up_ne (by omega)).trans b2, (up_ne (by omega)).trans b3, (up_ne (by omega)).trans b4, (up_ne (by omega)).trans b5⟩
theorem RT_age {m : pw_Mem} {o : Nat} {t : TT} {b v : Nat} (h : RT m o t) (hb : b < tK t) (h10 : tK t ≤ 10) (h7 : tN t ≤ 7) : RT (pw_up m o (18 + 6 * b + 4) (iI (v : Nat))) o (sA t (up1 (tA t) b v)) := by
  obtain ⟨⟨a0, a1, a2, a3⟩, hP, hB⟩ := h
  refine ⟨⟨(up_ne (by omega)).trans a0, (up_ne (by omega)).trans a1, (up_ne (by omega)).trans a2, (up_ne (by omega)).trans a3⟩, fun q hq => ?_, fun c hc => ?_⟩
  · have hq : q < tN t := hq
    exact ⟨(up_ne (by omega)).trans (hP q hq).1, (up_ne (by omega)).trans (hP q hq).2⟩
  · have hc : c < tK t := hc
    obtain ⟨b0, b1, b2, b3, b4, b5⟩ := hB c hc
    by_cases e : c = b
    · subst e
      exact ⟨(up_ne (by omega)).trans b0, (up_ne (by omega)).trans b1, (up_ne (by omega)).trans b2, (up_ne (by omega)).trans b3, (up_eq _ _ _ _).trans (congrArg (fun z : Nat => iI z) (up1_eq (tA t) c v).symm), (up_ne (by omega)).trans b5⟩
    · exact ⟨(up_ne (by omega)).trans b0, (up_ne (by omega)).trans b1, (up_ne (by omega)).trans b2, (up_ne (by omega)).trans b3, (up_ne (by omega)).trans (b4.trans (congrArg (fun z : Nat => iI z) (up1_ne e).symm)), (up_ne (by omega)).trans b5⟩
theorem RT_snap {m : pw_Mem} {o : Nat} {t : TT} {b : Nat} {v : Bool} (h : RT m o t) (hb : b < tK t) (h10 : tK t ≤ 10) (h7 : tN t ≤ 7) : RT (pw_up m o (18 + 6 * b + 5) (iI (if v then 1 else 0))) o (sX t (upB (tX t) b v)) := by
  obtain ⟨⟨a0, a1, a2, a3⟩, hP, hB⟩ := h
  refine ⟨⟨(up_ne (by omega)).trans a0, (up_ne (by omega)).trans a1, (up_ne (by omega)).trans a2, (up_ne (by omega)).trans a3⟩, fun q hq => ?_, fun c hc => ?_⟩
  · have hq : q < tN t := hq
    exact ⟨(up_ne (by omega)).trans (hP q hq).1, (up_ne (by omega)).trans (hP q hq).2⟩
  · have hc : c < tK t := hc
    obtain ⟨b0, b1, b2, b3, b4, b5⟩ := hB c hc
    by_cases e : c = b
    · subst e
      exact ⟨(up_ne (by omega)).trans b0, (up_ne (by omega)).trans b1, (up_ne (by omega)).trans b2, (up_ne (by omega)).trans b3, (up_ne (by omega)).trans b4, (up_eq _ _ _ _).trans (congrArg (fun z : Bool => iI (if z then 1 else 0)) (upB_eq (tX t) c v).symm)⟩
    · exact ⟨(up_ne (by omega)).trans b0, (up_ne (by omega)).trans b1, (up_ne (by omega)).trans b2, (up_ne (by omega)).trans b3, (up_ne (by omega)).trans b4, (up_ne (by omega)).trans (b5.trans (congrArg (fun z : Bool => iI (if z then 1 else 0)) (upB_ne e).symm))⟩
theorem RT_cold {m : pw_Mem} {o : Nat} {t : TT} {v : Nat} (h : RT m o t)  : RT (pw_up m o (3) (iI (v : Nat))) o (sC t v) := by
  obtain ⟨⟨a0, a1, a2, a3⟩, hP, hB⟩ := h
  refine ⟨⟨(up_ne (by omega)).trans a0, (up_ne (by omega)).trans a1, (up_ne (by omega)).trans a2, up_eq _ _ _ _⟩, fun q hq => ?_, fun c hc => ?_⟩
  · have hq : q < tN t := hq
    exact ⟨(up_ne (by omega)).trans (hP q hq).1, (up_ne (by omega)).trans (hP q hq).2⟩
  · have hc : c < tK t := hc
    obtain ⟨b0, b1, b2, b3, b4, b5⟩ := hB c hc
    exact ⟨(up_ne (by omega)).trans b0, (up_ne (by omega)).trans b1, (up_ne (by omega)).trans b2, (up_ne (by omega)).trans b3, (up_ne (by omega)).trans b4, (up_ne (by omega)).trans b5⟩
theorem RT_year {m : pw_Mem} {o : Nat} {t : TT} {v : Nat} (h : RT m o t)  : RT (pw_up m o (2) (iI (v : Nat))) o (sY t v) := by
  obtain ⟨⟨a0, a1, a2, a3⟩, hP, hB⟩ := h
  refine ⟨⟨(up_ne (by omega)).trans a0, (up_ne (by omega)).trans a1, up_eq _ _ _ _, (up_ne (by omega)).trans a3⟩, fun q hq => ?_, fun c hc => ?_⟩
  · have hq : q < tN t := hq
    exact ⟨(up_ne (by omega)).trans (hP q hq).1, (up_ne (by omega)).trans (hP q hq).2⟩
  · have hc : c < tK t := hc
    obtain ⟨b0, b1, b2, b3, b4, b5⟩ := hB c hc
    exact ⟨(up_ne (by omega)).trans b0, (up_ne (by omega)).trans b1, (up_ne (by omega)).trans b2, (up_ne (by omega)).trans b3, (up_ne (by omega)).trans b4, (up_ne (by omega)).trans b5⟩
theorem CT_stung {m : pw_Mem} {o : Nat} {t : TT} {p v : Nat} (h : CT m o t) (hp : p < tN t) : CT (pw_up m (o + 2) p (iI (v : Nat))) o (sS t (up1 (tS t) p v)) := by
  obtain ⟨⟨a0, a1, a2, a3, a4⟩, hP, hB⟩ := h
  refine ⟨⟨(up_o (by omega)).trans a0, (up_o (by omega)).trans a1, (up_o (by omega)).trans a2, (up_o (by omega)).trans a3, (up_o (by omega)).trans a4⟩, fun q hq => ?_, fun c hc => ?_⟩
  · have hq : q < tN t := hq
    by_cases e : q = p
    · subst e
      exact ⟨(up_o (by omega)).trans (hP q hq).1, (up_eq _ _ _ _).trans (congrArg (fun z : Nat => iI z) (up1_eq (tS t) q v).symm)⟩
    · exact ⟨(up_o (by omega)).trans (hP q hq).1, (up_ne (by omega)).trans ((hP q hq).2.trans (congrArg (fun z : Nat => iI z) (up1_ne e).symm))⟩
  · have hc : c < tK t := hc
    obtain ⟨b0, b1, b2, b3, b4, b5, b6, b7⟩ := hB c hc
    exact ⟨(up_o (by omega)).trans b0, (up_o (by omega)).trans b1, (up_o (by omega)).trans b2, (up_o (by omega)).trans b3, (up_o (by omega)).trans b4, (up_o (by omega)).trans b5, (up_o (by omega)).trans b6, (up_o (by omega)).trans b7⟩
theorem CT_place {m : pw_Mem} {o : Nat} {t : TT} {p v : Nat} (h : CT m o t) (hp : p < tN t) : CT (pw_up m (o + 1) p (iI (v : Nat))) o (sP t (up1 (tP t) p v)) := by
  obtain ⟨⟨a0, a1, a2, a3, a4⟩, hP, hB⟩ := h
  refine ⟨⟨(up_o (by omega)).trans a0, (up_o (by omega)).trans a1, (up_o (by omega)).trans a2, (up_o (by omega)).trans a3, (up_o (by omega)).trans a4⟩, fun q hq => ?_, fun c hc => ?_⟩
  · have hq : q < tN t := hq
    by_cases e : q = p
    · subst e
      exact ⟨(up_eq _ _ _ _).trans (congrArg (fun z : Nat => iI z) (up1_eq (tP t) q v).symm), (up_o (by omega)).trans (hP q hq).2⟩
    · exact ⟨(up_ne (by omega)).trans ((hP q hq).1.trans (congrArg (fun z : Nat => iI z) (up1_ne e).symm)), (up_o (by omega)).trans (hP q hq).2⟩
  · have hc : c < tK t := hc
    obtain ⟨b0, b1, b2, b3, b4, b5, b6, b7⟩ := hB c hc
    exact ⟨(up_o (by omega)).trans b0, (up_o (by omega)).trans b1, (up_o (by omega)).trans b2, (up_o (by omega)).trans b3, (up_o (by omega)).trans b4, (up_o (by omega)).trans b5, (up_o (by omega)).trans b6, (up_o (by omega)).trans b7⟩
theorem CT_age {m : pw_Mem} {o : Nat} {t : TT} {b v : Nat} (h : CT m o t) (hb : b < tK t) : CT (pw_up m (o + 8) b (iI (v : Nat))) o (sA t (up1 (tA t) b v)) := by
  obtain ⟨⟨a0, a1, a2, a3, a4⟩, hP, hB⟩ := h
  refine ⟨⟨(up_o (by omega)).trans a0, (up_o (by omega)).trans a1, (up_o (by omega)).trans a2, (up_o (by omega)).trans a3, (up_o (by omega)).trans a4⟩, fun q hq => ?_, fun c hc => ?_⟩
  · have hq : q < tN t := hq
    exact ⟨(up_o (by omega)).trans (hP q hq).1, (up_o (by omega)).trans (hP q hq).2⟩
  · have hc : c < tK t := hc
    obtain ⟨b0, b1, b2, b3, b4, b5, b6, b7⟩ := hB c hc
    by_cases e : c = b
    · subst e
      exact ⟨(up_o (by omega)).trans b0, (up_o (by omega)).trans b1, (up_o (by omega)).trans b2, (up_o (by omega)).trans b3, (up_eq _ _ _ _).trans (congrArg (fun z : Nat => iI z) (up1_eq (tA t) c v).symm), (up_o (by omega)).trans b5, (up_o (by omega)).trans b6, (up_o (by omega)).trans b7⟩
    · exact ⟨(up_o (by omega)).trans b0, (up_o (by omega)).trans b1, (up_o (by omega)).trans b2, (up_o (by omega)).trans b3, (up_ne (by omega)).trans (b4.trans (congrArg (fun z : Nat => iI z) (up1_ne e).symm)), (up_o (by omega)).trans b5, (up_o (by omega)).trans b6, (up_o (by omega)).trans b7⟩
theorem CT_snap {m : pw_Mem} {o : Nat} {t : TT} {x : Nat} {f : Nat → Bool} (h : CT m o t) (hm : x = msk f (tK t)) : CT (pw_up m (o) 13 (iI (x : Nat))) o (sX t f) := by
  obtain ⟨⟨a0, a1, a2, a3, a4⟩, hP, hB⟩ := h
  refine ⟨⟨(up_ne (by omega)).trans a0, (up_ne (by omega)).trans a1, (up_eq _ _ _ _).trans (congrArg (fun z : Nat => iI z) hm), (up_ne (by omega)).trans a3, (up_ne (by omega)).trans a4⟩, fun q hq => ?_, fun c hc => ?_⟩
  · have hq : q < tN t := hq
    exact ⟨(up_o (by omega)).trans (hP q hq).1, (up_o (by omega)).trans (hP q hq).2⟩
  · have hc : c < tK t := hc
    obtain ⟨b0, b1, b2, b3, b4, b5, b6, b7⟩ := hB c hc
    exact ⟨(up_o (by omega)).trans b0, (up_o (by omega)).trans b1, (up_o (by omega)).trans b2, (up_o (by omega)).trans b3, (up_o (by omega)).trans b4, (up_o (by omega)).trans b5, (up_o (by omega)).trans b6, (up_o (by omega)).trans b7⟩
theorem CT_cold {m : pw_Mem} {o : Nat} {t : TT} {v : Nat} (h : CT m o t)  : CT (pw_up m (o) 14 (iI (v : Nat))) o (sC t v) := by
  obtain ⟨⟨a0, a1, a2, a3, a4⟩, hP, hB⟩ := h
  refine ⟨⟨(up_ne (by omega)).trans a0, (up_ne (by omega)).trans a1, (up_ne (by omega)).trans a2, up_eq _ _ _ _, (up_ne (by omega)).trans a4⟩, fun q hq => ?_, fun c hc => ?_⟩
  · have hq : q < tN t := hq
    exact ⟨(up_o (by omega)).trans (hP q hq).1, (up_o (by omega)).trans (hP q hq).2⟩
  · have hc : c < tK t := hc
    obtain ⟨b0, b1, b2, b3, b4, b5, b6, b7⟩ := hB c hc
    exact ⟨(up_o (by omega)).trans b0, (up_o (by omega)).trans b1, (up_o (by omega)).trans b2, (up_o (by omega)).trans b3, (up_o (by omega)).trans b4, (up_o (by omega)).trans b5, (up_o (by omega)).trans b6, (up_o (by omega)).trans b7⟩
theorem CT_year {m : pw_Mem} {o : Nat} {t : TT} {v : Nat} (h : CT m o t)  : CT (pw_up m (o) 15 (iI (v : Nat))) o (sY t v) := by
  obtain ⟨⟨a0, a1, a2, a3, a4⟩, hP, hB⟩ := h
  refine ⟨⟨(up_ne (by omega)).trans a0, (up_ne (by omega)).trans a1, (up_ne (by omega)).trans a2, (up_ne (by omega)).trans a3, up_eq _ _ _ _⟩, fun q hq => ?_, fun c hc => ?_⟩
  · have hq : q < tN t := hq
    exact ⟨(up_o (by omega)).trans (hP q hq).1, (up_o (by omega)).trans (hP q hq).2⟩
  · have hc : c < tK t := hc
    obtain ⟨b0, b1, b2, b3, b4, b5, b6, b7⟩ := hB c hc
    exact ⟨(up_o (by omega)).trans b0, (up_o (by omega)).trans b1, (up_o (by omega)).trans b2, (up_o (by omega)).trans b3, (up_o (by omega)).trans b4, (up_o (by omega)).trans b5, (up_o (by omega)).trans b6, (up_o (by omega)).trans b7⟩
theorem CT_frame {m m' : pw_Mem} {o : Nat} {t : TT} (h : CT m o t) (hf : ∀ c, o ≤ c → c ≤ o + 11 → m' c = m c) : CT m' o t := by
  obtain ⟨⟨a0, a1, a2, a3, a4⟩, hP, hB⟩ := h
  refine ⟨?_, fun q hq => ?_, fun c hc => ?_⟩
  · rw [hf o (by omega) (by omega)]
    exact ⟨a0, a1, a2, a3, a4⟩
  · rw [hf (o + 1) (by omega) (by omega), hf (o + 2) (by omega) (by omega)]
    exact hP q hq
  · rw [hf (o + 4) (by omega) (by omega), hf (o + 5) (by omega) (by omega), hf (o + 6) (by omega) (by omega), hf (o + 7) (by omega) (by omega), hf (o + 8) (by omega) (by omega), hf (o + 9) (by omega) (by omega), hf (o + 10) (by omega) (by omega), hf (o + 11) (by omega) (by omega)]
    exact hB c hc
theorem RT_frame {m m' : pw_Mem} {o : Nat} {t : TT} (h : RT m o t) (hf : m' o = m o) : RT m' o t := by
  unfold RT
  rw [hf]
  exact h
theorem WT_S {t : TT} (w : WT t) {f : Nat → Nat} (h : ∀ p, p < tN t → f p ≤ 99) : WT (sS t f) := ⟨w.1, fun p hp => ⟨(w.2.1 p hp).1, h p hp⟩, w.2.2⟩
theorem WT_P {t : TT} (w : WT t) {f : Nat → Nat} (h : ∀ p, p < tN t → f p ≤ 30) : WT (sP t f) := ⟨w.1, fun p hp => ⟨h p hp, (w.2.1 p hp).2⟩, w.2.2⟩
theorem WT_X {t : TT} (w : WT t) (f : Nat → Bool) : WT (sX t f) := w
theorem WT_A {t : TT} (w : WT t) {f : Nat → Nat} (h : ∀ b, b < tK t → f b ≤ 99) : WT (sA t f) := ⟨w.1, w.2.1, fun b hb => ⟨(w.2.2 b hb).1, (w.2.2 b hb).2.1, (w.2.2 b hb).2.2.1, (w.2.2 b hb).2.2.2.1, (w.2.2 b hb).2.2.2.2.1, h b hb⟩⟩
theorem WT_C {t : TT} (w : WT t) {c : Nat} (h : c ≤ 9) : WT (sC t c) := ⟨⟨w.1.1, w.1.2.1, h, w.1.2.2.2⟩, w.2.1, w.2.2⟩
theorem WT_Y {t : TT} (w : WT t) {c : Nat} (h : c ≤ 5000) : WT (sY t c) := ⟨⟨w.1.1, w.1.2.1, w.1.2.2.1, h⟩, w.2.1, w.2.2⟩
-- trying
def stg1 (s : Nat → Nat) (p : Nat) : Nat → Nat := up1 s p (min 99 (s p + 1))
def stgN (ov : Nat → Bool) (e1 e2 s : Nat → Nat) : Nat → Nat → Nat
  | 0 => s
  | b + 1 => if ov b = true then stg1 (stg1 (stgN ov e1 e2 s b) (e1 b)) (e2 b) else stgN ov e1 e2 s b
def tryN (t : TT) (i : Nat) : TT := sS (sX t (fun b => tX t b || (decide (b < i) && ovr t b))) (stgN (ovr t) (tO t) (tQ t) (tS t) i)
def tryT (t : TT) : TT := tryN t (tK t)
theorem stg1_le {s : Nat → Nat} {p q : Nat} (h : s q ≤ 99) : stg1 s p q ≤ 99 := by
  unfold stg1 up1
  split
  · omega
  · exact h
theorem stgN_le {ov : Nat → Bool} {e1 e2 s : Nat → Nat} {q : Nat} (h : s q ≤ 99) : ∀ i, stgN ov e1 e2 s i q ≤ 99
  | 0 => h
  | i + 1 => by
    unfold stgN
    split
    · exact stg1_le (stg1_le (stgN_le h i))
    · exact stgN_le h i
theorem WT_tryN {t : TT} (w : WT t) (i : Nat) : WT (tryN t i) := WT_S (WT_X w _) (fun p hp => stgN_le (w.2.1 p hp).2 i)
theorem WT_tryT {t : TT} (w : WT t) : WT (tryT t) := WT_tryN w _
theorem sX_self (t : TT) : sX t (tX t) = t := rfl
theorem tryN_0 (t : TT) : tryN t 0 = t := by
  have : (fun b => tX t b || (decide (b < 0) && ovr t b)) = tX t := by
    funext b
    simp
  unfold tryN
  rw [this]
  rfl
theorem tryN_no {t : TT} {i : Nat} (h : ovr t i = false) : tryN t (i + 1) = tryN t i := by
  have e : (fun b => tX t b || (decide (b < i + 1) && ovr t b)) = (fun b => tX t b || (decide (b < i) && ovr t b)) := by
    funext b
    by_cases hb : b = i
    · subst hb
      simp [h]
    · by_cases h2 : b < i
      · simp [h2, show b < i + 1 by omega]
      · simp [h2, show ¬ b < i + 1 by omega]
  unfold tryN
  rw [e]
  simp [stgN, h]
theorem tryN_yes {t : TT} {i : Nat} (h : ovr t i = true) : tryN t (i + 1) = sS (sX (tryN t i) (upB (tX (tryN t i)) i true)) (stg1 (stg1 (tS (tryN t i)) (tO t i)) (tQ t i)) := by
  have e : (fun b => tX t b || (decide (b < i + 1) && ovr t b)) = upB (fun b => tX t b || (decide (b < i) && ovr t b)) i true := by
    funext b
    by_cases hb : b = i
    · subst hb
      rw [upB_eq]
      simp [h]
    · rw [upB_ne hb]
      by_cases h2 : b < i
      · simp [h2, show b < i + 1 by omega]
      · simp [h2, show ¬ b < i + 1 by omega]
  unfold tryN
  rw [e]
  simp only [stgN, h, if_true]
  rfl
theorem r_stings {m : pw_Mem} {o : Nat} {t : TT} (h : RT m o t) (w : WT t) {p : Nat} (hp : p < tN t) : ∃ m', fX11_stings o (iI p) m = some m' ∧ RT m' o (sS t (stg1 (tS t) p)) ∧ ∀ c, c ≠ o → m' c = m c := by
  have h7 := w.1.1
  have e := (h.2.1 p hp).2
  have s99 := (w.2.1 p hp).2
  refine ⟨pw_up m o (11 + p) (iI ((min 99 (tS t p + 1) : Nat) : Int)), ?_, RT_stung h hp h7, fun c hc => up_oc hc⟩
  unfold fX11_stings
  simp (disch := omega) only [iN_lit, iN_add, gd_ix, iI_clN, e, r_least, bd_some, lt_def]
theorem r_tries {m : pw_Mem} {o : Nat} {t : TT} (h : RT m o t) (w : WT t) : ∃ m', fX11_tries o m = some (iI ((msk (ovr t) (tK t) : Nat) : Int), m') ∧ RT m' o (tryT t) ∧ ∀ c, c ≠ o → m' c = m c := by
  have hk := w.1.2.1
  unfold fX11_tries
  refine lpI2 (fun i v1 v2 => v1 = iI ((msk (ovr t) i : Nat) : Int) ∧ v2 = iI (i : Nat)) (fun x => ∃ m', x = some (iI ((msk (ovr t) (tK t) : Nat) : Int), m') ∧ RT m' o (tryT t) ∧ ∀ c, c ≠ o → m' c = m c) (tK t) (by omega) ?_ ?_ ⟨rfl, rfl⟩
  · rintro nx i _ _ hi ⟨rfl, rfl⟩ hnx
    have e1 : iI (i : Int) + iI 1 = iI ((i + 1 : Nat) : Int) := iN_add i 1
    have hm := msk_lt' (ovr t) (show i ≤ 10 by omega)
    have one : (1 : Int32) = iI ((1 : Nat) : Int) := rfl
    have one' : iI ((1 : Nat) : Int) = iI 1 := rfl
    simp (disch := omega) only [one, gd_ix, iI_clN, h.1.2.1, iI_le, r_isOver h w hi, bd_some, jn_def, lt_def]
    rw [if_neg (by omega)]
    simp (disch := omega) only [i31, one', mskor, e1]
    have hs := msk_s (ovr t) i
    cases ho : ovr t i
    · simp only [Bool.false_eq_true, if_false]
      rw [i0, iI_or (by omega) (by omega)]
      refine hnx _ _ ⟨?_, rfl⟩
      rw [hs, ho]
      simp
    · simp only [if_true]
      refine hnx _ _ ⟨?_, rfl⟩
      rw [hs, ho]
      simp
  · rintro nx _ _ ⟨rfl, rfl⟩
    have hm := msk_lt' (ovr t) hk
    have one : (1 : Int32) = iI ((1 : Nat) : Int) := rfl
    simp (disch := omega) only [one, gd_ix, iI_clN, h.1.2.1, iI_le]
    rw [if_pos (by omega)]
    refine lpI2 (fun i v m6 => v = iI (i : Nat) ∧ RT m6 o (tryN t i) ∧ ∀ c, c ≠ o → m6 c = m c) (fun x => ∃ m', x = some (iI ((msk (ovr t) (tK t) : Nat) : Int), m') ∧ RT m' o (tryT t) ∧ ∀ c, c ≠ o → m' c = m c) (tK t) (by omega) ?_ ?_ ⟨rfl, by rw [tryN_0]; exact h, fun _ _ => rfl⟩
    · rintro nx i _ m6 hi ⟨rfl, h6, f6⟩ hnx
      have e1 : iI (i : Int) + iI ((1 : Nat) : Int) = iI ((i + 1 : Nat) : Int) := iN_add i 1
      have h61 : m6 o 1 = iI (tK t) := h6.1.2.1
      have hw6 := WT_tryN w i
      simp (disch := omega) only [gd_ix, iI_clN, h61, iI_le, r_has, bd_some, msk_bit, jn_def, lt_def, hi, decide_true, Bool.true_and, e1]
      rw [if_neg (by omega)]
      cases ho : ovr t i
      · simp only [Bool.false_eq_true, if_false]
        exact hnx _ _ ⟨rfl, by rw [tryN_no ho]; exact h6, f6⟩
      · simp only [if_true]
        have l1 : tO t i < tN t := (w.2.2 i hi).2.2.1
        have l2 : tQ t i < tN t := (w.2.2 i hi).2.2.2.1
        have g15 : RT (pw_up m6 o (18 + 6 * i + 5) (iI (if true then 1 else 0))) o (sX (tryN t i) (upB (tX (tryN t i)) i true)) := RT_snap h6 hi hk w.1.1
        have w15 := WT_X hw6 (upB (tX (tryN t i)) i true)
        obtain ⟨m17, q17, g17, f17⟩ := r_stings g15 w15 (p := tO t i) l1
        have w17 := WT_S w15 (f := stg1 (tS (sX (tryN t i) (upB (tX (tryN t i)) i true))) (tO t i)) (fun p hp => stg1_le (w15.2.1 p hp).2)
        obtain ⟨m19, q19, g19, f19⟩ := r_stings g17 w17 (p := tQ t i) l2
        have a1 : pw_up m6 o (18 + 6 * i + 5) (iI (if true then 1 else 0)) o (18 + 6 * i + 2) = iI (tO t i) := (g15.2.2 i hi).2.2.1
        have a2 : m17 o (18 + 6 * i + 3) = iI (tQ t i) := (g17.2.2 i hi).2.2.2.1
        have hone : iI ((1 : Nat) : Int) = iI (if true = true then 1 else 0) := rfl
        simp (disch := omega) only [iN_lit, r_of, bd_some, gd_ix, iI_clN]
        rw [hone, a1, q17, bd_some, a2, q19, bd_some]
        refine hnx _ _ ⟨rfl, ?_, fun c hc => ?_⟩
        · rw [tryN_yes ho]
          exact g19
        · rw [f19 c hc, f17 c hc, up_oc hc, f6 c hc]
    · rintro nx _ m6 ⟨rfl, h6, f6⟩
      have h61 : m6 o 1 = iI (tK t) := h6.1.2.1
      simp (disch := omega) only [gd_ix, iI_clN, h61, iI_le]
      rw [if_pos (by omega)]
      exact ⟨m6, rfl, h6, f6⟩
