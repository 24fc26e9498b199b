/-! CALLS: person, band, comes, goes, cold, years, cuts, ties -/
set_option maxRecDepth 100000
theorem em1 : (-1 : Int32) = iI (-1) := rfl
theorem op_person {m : pw_Mem} (hs : Sim m) (a b : Int32) : OpRR (fX10_person a b) (fX11_person a b) m := by
  obtain ⟨s, hC, hM, w⟩ := hs
  obtain ⟨z, rfl, h1, h2⟩ := rg a
  obtain ⟨q, rfl, h3, h4⟩ := rg b
  have w1 := w.1.1
  have h7 := w1.1.1
  unfold OpRR fX10_person fX11_person
  simp (disch := omega) only [c_isPerson hC.1 w1, r_isPerson hM.1 w1, bd_some, ite_dec, iN_lit, iI_eq, r_isIn]
  by_cases c : 0 ≤ z ∧ z < tN s.1
  · rw [if_pos c, if_pos c]
    obtain ⟨n, rfl⟩ := Int.eq_ofNat_of_zero_le c.1
    have hn : n < tN s.1 := by omega
    have p1 := c_pulled hC.1 w1 hn true
    have p2 := c_pulled hC.1 w1 hn false
    have p3 := r_pulled hM.1 w1 hn true
    have p4 := r_pulled hM.1 w1 hn false
    have g1 := hC.1.2.1 n hn
    have g2 := hM.1.2.1 n hn
    have e1 : iI ((1 : Nat) : Int) = iI (sgn true) := rfl
    have e2 : -iI (sgn true) = iI (sgn false) := rfl
    simp (disch := omega) only [gd_ix, iI_clN, iN_add, e1, e2, p1, p2, p3, p4, bd_some, g1.1, g1.2, g2.1, g2.2]
    by_cases c0 : q = 0
    · rw [if_pos (by omega), if_pos (by omega), if_pos (by omega)]
      exact ⟨_, rfl, rfl⟩
    · rw [if_neg (by omega)]
      by_cases c1 : q = 1
      · rw [if_pos (by omega), if_pos (by omega), if_neg (by omega), if_pos (by omega)]
        exact ⟨_, rfl, rfl⟩
      · rw [if_neg (by omega)]
        by_cases c2 : q = 2
        · rw [if_pos (by omega), if_pos (by omega), if_neg (by omega), if_neg (by omega), if_pos (by omega)]
          exact ⟨_, rfl, rfl⟩
        · rw [if_neg (by omega)]
          by_cases c3 : q = 3
          · rw [if_pos (by omega), if_pos (by omega), if_neg (by omega), if_neg (by omega), if_neg (by omega)]
            exact ⟨_, rfl, rfl⟩
          · rw [if_neg (by omega), if_neg (by omega)]
            exact ⟨_, rfl, rfl⟩
  · rw [if_neg c, if_neg c]
    exact ⟨_, rfl, rfl⟩
theorem op_band {m : pw_Mem} (hs : Sim m) (a b : Int32) : OpRR (fX10_band a b) (fX11_band a b) m := by
  obtain ⟨s, hC, hM, w⟩ := hs
  obtain ⟨z, rfl, h1, h2⟩ := rg a
  obtain ⟨q, rfl, h3, h4⟩ := rg b
  have w1 := w.1.1
  have h7 := w1.1.2.1
  unfold OpRR fX10_band fX11_band
  simp (maxSteps := 2000000) (disch := omega) only [c_isBand hC.1 w1, r_isBand hM.1 w1, bd_some, ite_dec, iN_lit, iI_eq, iI_le, r_isIn]
  by_cases c : 0 ≤ z ∧ z < tK s.1
  · rw [if_pos c, if_pos c]
    obtain ⟨n, rfl⟩ := Int.eq_ofNat_of_zero_le c.1
    have hn : n < tK s.1 := by omega
    obtain ⟨c4, c5, c6, c7, c8, -⟩ := hC.1.2.2 n hn
    obtain ⟨d0, d1, d2, d3, d4, d5⟩ := hM.1.2.2 n hn
    have a99 := (w1.2.2 n hn).2.2.2.2.2
    have hc9 := w1.1.2.2.1
    have e14 := hC.1.1.2.2.2.1
    simp (disch := omega) only [gd_ix, iI_clN, c4, c5, c6, c7, c8, e14, bd_some, c_isSnapped hC.1 w1 hn, c_stretch hC.1 w1 hn, c_pull hC.1 w1 hn, c_holdsAt hC.1 w1 hn, r_stretch hM.1 w1 hn, r_pull hM.1 w1 hn, r_holdsNow hM.1 w1 hn]
    by_cases hq : 0 ≤ q ∧ q ≤ 8
    · obtain ⟨k, rfl⟩ := Int.eq_ofNat_of_zero_le hq.1
      have hk : k ≤ 8 := by omega
      simp (disch := omega) only [r_of, bd_some, gd_ix, iI_clN]
      rcases (show k = 0 ∨ k = 1 ∨ k = 2 ∨ k = 3 ∨ k = 4 ∨ k = 5 ∨ k = 6 ∨ k = 7 ∨ k = 8 by omega) with rfl | rfl | rfl | rfl | rfl | rfl | rfl | rfl | rfl
      · exact ⟨_, rfl, congrArg some d0⟩
      · exact ⟨_, rfl, congrArg some d1⟩
      · exact ⟨_, rfl, congrArg some d2⟩
      · exact ⟨_, rfl, congrArg some d3⟩
      · exact ⟨_, rfl, congrArg some d4⟩
      · refine ⟨iI (if tX s.1 n then 1 else 0), ?_, congrArg some d5⟩
        cases tX s.1 n <;> rfl
      · exact ⟨_, rfl, rfl⟩
      · exact ⟨_, rfl, rfl⟩
      · exact ⟨_, rfl, rfl⟩
    · refine ⟨iI (-1), ?_, ?_⟩
      · rw [if_neg (by omega), if_neg (by omega), if_neg (by omega), if_neg (by omega), if_neg (by omega), if_neg (by omega), if_neg (by omega), if_neg (by omega), if_neg (by omega)]
        rfl
      · rw [if_neg (by omega)]
        rfl
  · rw [if_neg c, if_neg c]
    exact ⟨_, rfl, rfl⟩
-- one more person, one more band
def addP (t : TT) (x : Nat) : TT := (tN t + 1, tK t, tC t, tY t, up1 (tP t) (tN t) x, up1 (tS t) (tN t) 0, tI t, tF t, tO t, tQ t, tA t, tX t)
def addB (t : TT) (k f a b : Nat) : TT := (tN t, tK t + 1, tC t, tY t, tP t, tS t, up1 (tI t) (tK t) k, up1 (tF t) (tK t) f, up1 (tO t) (tK t) a, up1 (tQ t) (tK t) b, up1 (tA t) (tK t) 0, upB (tX t) (tK t) false)
theorem WT_addP {t : TT} (w : WT t) {x : Nat} (hx : x ≤ 30) (hn : tN t < 7) : WT (addP t x) := by
  refine ⟨⟨hn, w.1.2.1, w.1.2.2.1, w.1.2.2.2⟩, fun p hp => ?_, fun b hb => ?_⟩
  · have hp : p < tN t + 1 := hp
    show up1 (tP t) (tN t) x p ≤ 30 ∧ up1 (tS t) (tN t) 0 p ≤ 99
    by_cases e : p = tN t
    · subst e
      rw [up1_eq, up1_eq]
      omega
    · rw [up1_ne e, up1_ne e]
      exact w.2.1 p (by omega)
  · obtain ⟨a1, a2, a3, a4, a5, a6⟩ := w.2.2 b hb
    exact ⟨a1, a2, Nat.lt_succ_of_lt a3, Nat.lt_succ_of_lt a4, a5, a6⟩
theorem WT_addB {t : TT} (w : WT t) {k f a b : Nat} (hk : k ≤ 7) (hf : f ≤ 9) (ha : a < tN t) (hb : b < tN t) (hab : a ≠ b) (hn : tK t < 10) : WT (addB t k f a b) := by
  refine ⟨⟨w.1.1, hn, w.1.2.2.1, w.1.2.2.2⟩, w.2.1, fun c hc => ?_⟩
  have hc : c < tK t + 1 := hc
  show up1 (tI t) (tK t) k c ≤ 7 ∧ up1 (tF t) (tK t) f c ≤ 9 ∧ up1 (tO t) (tK t) a c < tN t ∧ up1 (tQ t) (tK t) b c < tN t ∧ up1 (tO t) (tK t) a c ≠ up1 (tQ t) (tK t) b c ∧ up1 (tA t) (tK t) 0 c ≤ 99
  by_cases e : c = tK t
  · subst e
    simp only [up1_eq]
    exact ⟨hk, hf, ha, hb, hab, by omega⟩
  · simp only [up1_ne e]
    exact w.2.2 c (by omega)
theorem Calm_try (t : TT) : Calm (tryT t) := by
  intro b hb
  have hb : b < tK t := hb
  have e : ovr (tryT t) b = (!(tX t b || (decide (b < tK t) && ovr t b)) && decide (hnow t b < strt t b)) := rfl
  rw [e]
  simp only [hb, decide_true, Bool.true_and]
  unfold ovr
  cases tX t b <;> simp
theorem Calm_addP {t : TT} (w : WT t) (h : Calm t) (x : Nat) : Calm (addP t x) := by
  intro b hb
  have hb : b < tK t := hb
  obtain ⟨-, -, l1, l2, -, -⟩ := w.2.2 b hb
  have e : ovr (addP t x) b = ovr t b := by
    unfold ovr strt
    show (!tX t b && decide (hnow t b < dst (up1 (tP t) (tN t) x (tO t b)) (up1 (tP t) (tN t) x (tQ t b)) - slk (tI t b) (tF t b))) = _
    rw [up1_ne (by omega), up1_ne (by omega)]
  rw [e]
  exact h b hb
theorem Calm_X {t : TT} (h : Calm t) {f : Nat → Bool} (hf : ∀ b, tX t b = true → f b = true) : Calm (sX t f) := by
  intro b hb
  have := h b hb
  have e : ovr (sX t f) b = (!f b && decide (hnow t b < strt t b)) := rfl
  rw [e]
  unfold ovr at this
  cases hx : tX t b
  · rw [hx] at this
    simp only [Bool.not_false, Bool.true_and] at this
    rw [this]
    simp
  · rw [hf b hx]
    rfl
theorem c_addPerson {m : pw_Mem} {o : Nat} {t : TT} (h : CT m o t) (w : WT t) {x : Nat} (hn : tN t < 7) : ∃ m' : pw_Mem, fX7_addPerson o (iI x) m = some (iI (tN t), m') ∧ CT m' o (addP t x) ∧ ∀ c, c < o ∨ o + 11 < c → m' c = m c := by
  have e := h.1.1
  refine ⟨pw_up (pw_up (pw_up m (o + 1) (tN t) (iI x)) (o + 2) (tN t) (iI ((0 : Nat) : Int))) o 11 (iI ((tN t + 1 : Nat) : Int)), ?_, ?_, fun c hc => by rw [up_oc (by omega), up_oc (by omega), up_oc (by omega)]⟩
  · unfold fX7_addPerson
    have e2 : pw_up (pw_up m (o + 1) (tN t) (iI x)) (o + 2) (tN t) (iI ((0 : Nat) : Int)) o 11 = iI (tN t) := by
      rw [up_o (by omega), up_o (by omega)]
      exact e
    simp (disch := omega) only [lt_def, e, gd_ix, iI_clN, iN_lit, e2, iN_add]
  · obtain ⟨⟨a0, a1, a2, a3, a4⟩, hP, hB⟩ := h
    refine ⟨?_, fun q hq => ?_, fun c hc => ?_⟩
    · simp (disch := omega) only [up_eq, up_ne, up_o]
      exact ⟨rfl, a1, a2, a3, a4⟩
    · have hq : q < tN t + 1 := hq
      show _ = iI ((up1 (tP t) (tN t) x q : Nat) : Int) ∧ _ = iI ((up1 (tS t) (tN t) 0 q : Nat) : Int)
      by_cases e1 : q = tN t
      · subst e1
        simp (disch := omega) only [up_eq, up_ne, up_o, up1_eq, and_self]
      · rw [up1_ne e1, up1_ne e1]
        simp (disch := omega) only [up_ne, up_o]
        exact hP q (by omega)
    · simp (disch := omega) only [up_o]
      exact hB c hc
theorem r_addsPerson {m : pw_Mem} {t : TT} (h : RT m 72 t) (w : WT t) {x : Nat} (hn : tN t < 7) : ∃ m' : pw_Mem, fX11_addsPerson (iI x) m = some m' ∧ RT m' 72 (addP t x) ∧ ∀ c, c ≠ 72 → m' c = m c := by
  have e := h.1.1
  have hk := w.1.2.1
  refine ⟨pw_up (pw_up (pw_up m 72 (4 + tN t) (iI x)) 72 (11 + tN t) (iI ((0 : Nat) : Int))) 72 0 (iI ((tN t + 1 : Nat) : Int)), ?_, ?_, fun c hc => by rw [up_oc hc, up_oc hc, up_oc hc]⟩
  · unfold fX11_addsPerson
    have e1 : pw_up m 72 (4 + tN t) (iI x) 72 0 = iI (tN t) := by
      rw [up_ne (by omega)]
      exact e
    have e2 : pw_up (pw_up m 72 (4 + tN t) (iI x)) 72 (11 + tN t) (iI ((0 : Nat) : Int)) 72 0 = iI (tN t) := by
      rw [up_ne (by omega), up_ne (by omega)]
      exact e
    simp (disch := omega) only [lt_def, e, gd_ix, iI_clN, iN_lit, iN_add, e1, e2]
  · obtain ⟨⟨a0, a1, a2, a3⟩, hP, hB⟩ := h
    refine ⟨?_, fun q hq => ?_, fun c hc => ?_⟩
    · simp (disch := omega) only [up_eq, up_ne]
      exact ⟨rfl, a1, a2, a3⟩
    · have hq : q < tN t + 1 := hq
      show _ = iI ((up1 (tP t) (tN t) x q : Nat) : Int) ∧ _ = iI ((up1 (tS t) (tN t) 0 q : Nat) : Int)
      by_cases e1 : q = tN t
      · subst e1
        simp (disch := omega) only [up_eq, up_ne, up1_eq, and_self]
      · rw [up1_ne e1, up1_ne e1]
        simp (disch := omega) only [up_ne]
        exact hP q (by omega)
    · have hc : c < tK t := hc
      simp (disch := omega) only [up_ne]
      exact hB c hc
theorem CS_t {m : pw_Mem} {s : SS} {t : TT} {m1 : pw_Mem} (h : CS m s) (ht : CT m1 1 t) (hf : ∀ c, c < 1 ∨ 12 < c → m1 c = m c) : CS m1 (t, s.2) := by
  refine ⟨ht, ?_, fun ti hti => CT_frame (h.2.2.1 ti hti) (fun c h1 h2 => hf c (by omega)), fun d hd => CSh_f (h.2.2.2 d hd) (hf _ (by omega)) (hf _ (by omega))⟩
  rw [hf 0 (by omega)]
  exact h.2.1
theorem MS_t {m : pw_Mem} {s : SS} {t : TT} {m1 : pw_Mem} (h : MS m s) (ht : RT m1 72 t) (h5 : m1 71 5 = m 71 5) (hf : ∀ c, (c = 74 ∨ (80 ≤ c ∧ c ≤ 85)) → m1 c = m c) : MS m1 (t, s.2) := by
  refine ⟨ht, by rw [h5]; exact h.2.1, fun ti hti => RT_frame (h.2.2.1 ti hti) (hf 74 (by omega)), fun d hd => ?_⟩
  unfold MSh
  rw [hf 80 (by omega), hf 81 (by omega), hf 82 (by omega), hf 83 (by omega), hf 84 (by omega), hf 85 (by omega)]
  exact h.2.2.2 d hd
/-- a call that changes the town alone, seen from both sides -/
theorem op_town {α : Type} {m : pw_Mem} {f g : pw_Mem → Option (α × pw_Mem)} {s : SS} (hC : CS m s) (hM : MS m s) (w : WS s) {r : α} {t : TT} (wt : WU t)
    (hc : ∃ m1, f m = some (r, m1) ∧ CT m1 1 t ∧ ∀ c, c < 1 ∨ 12 < c → m1 c = m c)
    (hm : ∀ m1, MS m1 s → ∃ m2, g m1 = some (r, m2) ∧ RT m2 72 t ∧ m2 71 5 = m1 71 5 ∧ ∀ c, c ≠ 71 → c ≠ 72 → c ≠ 73 → c ≠ 75 → c ≠ 76 → c ≠ 77 → c ≠ 78 → c ≠ 79 → m2 c = m1 c) : OpWW f g m := by
  obtain ⟨m1, q1, g1, f1⟩ := hc
  have hM1 : MS m1 s := MS_c hM (fun c hc => f1 c (by omega))
  obtain ⟨m2, q2, g2, f5, f2⟩ := hm m1 hM1
  have hC1 := CS_t hC g1 f1
  refine ⟨r, m1, m2, q1, q2, (t, s.2), CS_m hC1 (fun c hc => f2 c (by omega) (by omega) (by omega) (by omega) (by omega) (by omega) (by omega) (by omega)), MS_t hM1 g2 f5 (fun c hc => f2 c (by omega) (by omega) (by omega) (by omega) (by omega) (by omega) (by omega) (by omega)), wt, w.2⟩
theorem op_same {α : Type} {m : pw_Mem} {f g : pw_Mem → Option (α × pw_Mem)} (hs : Sim m) {r : α} (h1 : f m = some (r, m)) (h2 : g m = some (r, m)) : OpWW f g m := ⟨r, m, m, h1, h2, hs⟩
theorem op_comes {m : pw_Mem} (hs : Sim m) (a : Int32) : OpWW (fX10_comes a) (fX11_comes a) m := by
  have hs0 := hs
  obtain ⟨s, hC, hM, w⟩ := hs
  obtain ⟨z, rfl, h1, h2⟩ := rg a
  have w1 := w.1.1
  have h7 := w1.1.1
  by_cases c : 0 ≤ z ∧ z ≤ 30
  · obtain ⟨n, rfl⟩ := Int.eq_ofNat_of_zero_le c.1
    by_cases c7 : tN s.1 = 7
    · refine op_same hs0 (r := -2) ?_ ?_
      · unfold fX10_comes
        simp (disch := omega) only [iN_lit, c_isUpTo, bd_some, ite_dec, hC.1.1.1, iI_le]
        rw [if_pos (by omega), if_pos (by omega)]
      · unfold fX11_comes
        simp (disch := omega) only [r_isPlace, bd_some, ite_dec, iN_lit, gd_ix, iI_clN, hM.1.1.1, iI_eq]
        rw [if_pos (by omega), if_pos (by omega)]
    · refine op_town hC hM w (r := iI (tN s.1)) (t := addP s.1 n) ⟨WT_addP w1 (by omega) (by omega), w.1.2.1, Calm_addP w1 w.1.2.2 n⟩ ?_ ?_
      · obtain ⟨m1, q1, g1, f1⟩ := c_addPerson hC.1 w1 (x := n) (by omega)
        refine ⟨m1, ?_, g1, fun c hc => f1 c (by omega)⟩
        unfold fX10_comes
        simp (disch := omega) only [iN_lit, c_isUpTo, bd_some, ite_dec, hC.1.1.1, iI_le, q1, bd2_some]
        rw [if_pos (by omega), if_neg (by omega)]
      · intro m1 hM1
        obtain ⟨m2, q2, g2, f2⟩ := r_addsPerson hM1.1 w1 (x := n) (by omega)
        have e2 : m2 72 0 = iI ((tN s.1 + 1 : Nat) : Int) := g2.1.1
        refine ⟨m2, ?_, g2, by rw [f2 71 (by omega)], fun c _ hc _ _ _ _ _ _ => f2 c hc⟩
        unfold fX11_comes
        simp (disch := omega) only [r_isPlace, bd_some, ite_dec, iN_lit, gd_ix, iI_clN, hM1.1.1.1, iI_eq, q2, e2, iI_sub]
        rw [if_pos (by omega), if_neg (by omega), show ((tN s.1 + 1 : Nat) : Int) - ((1 : Nat) : Int) = (tN s.1 : Int) by omega]
  · refine op_same hs0 (r := -1) ?_ ?_
    · unfold fX10_comes
      simp (disch := omega) only [iN_lit, c_isUpTo, bd_some, ite_dec]
      rw [if_neg (by omega)]
    · unfold fX11_comes
      simp (disch := omega) only [r_isPlace, bd_some, ite_dec]
      rw [if_neg (by omega)]
theorem op_goes {m : pw_Mem} (hs : Sim m) (a b : Int32) : OpWW (fX10_goes a b) (fX11_goes a b) m := by
  have hs0 := hs
  obtain ⟨s, hC, hM, w⟩ := hs
  obtain ⟨z, rfl, h1, h2⟩ := rg a
  obtain ⟨q, rfl, h3, h4⟩ := rg b
  have w1 := w.1.1
  have h7 := w1.1.1
  have hk := w1.1.2.1
  by_cases c : (0 ≤ z ∧ z < tN s.1) ∧ 0 ≤ q ∧ q ≤ 30
  · obtain ⟨n, rfl⟩ := Int.eq_ofNat_of_zero_le c.1.1
    obtain ⟨x, rfl⟩ := Int.eq_ofNat_of_zero_le c.2.1
    have hn : n < tN s.1 := by omega
    have hx : x ≤ 30 := by omega
    refine op_town hC hM w (r := iI ((cnt (ovr (sP s.1 (up1 (tP s.1) n x))) (tK s.1) : Nat) : Int)) (t := tryT (sP s.1 (up1 (tP s.1) n x))) ⟨WT_tryT (WT_move w1 hx), w.1.2.1, Calm_try _⟩ ?_ ?_
    · obtain ⟨m1, q1, g1, f1⟩ := c_moves hC.1 w1 hn hx
      refine ⟨m1, ?_, g1, fun c hc => f1 c (by omega) (by omega) (by omega)⟩
      unfold fX10_goes
      simp (disch := omega) only [c_isPerson hC.1 w1, iN_lit, c_isUpTo, bd_some, ite_dec, q1, bd2_some]
      rw [if_pos (by omega), if_pos (by omega)]
    · intro m1 hM1
      obtain ⟨m2, q2, g2, f2⟩ := r_goesTo hM1.1 w1 hn hx
      refine ⟨m2, ?_, g2, by rw [f2 71 (by omega)], fun c _ hc _ _ _ _ _ _ => f2 c hc⟩
      unfold fX11_goes
      simp (disch := omega) only [r_isPerson hM1.1 w1, r_isPlace, bd_some, ite_dec, q2, bd2_some, r_bitsM]
      rw [if_pos (by omega), if_pos (by omega)]
  · refine op_same hs0 (r := -1) ?_ ?_
    · unfold fX10_goes
      simp (disch := omega) only [c_isPerson hC.1 w1, iN_lit, c_isUpTo, bd_some, ite_dec]
      by_cases c1 : 0 ≤ z ∧ z < tN s.1
      · rw [if_pos c1, if_neg (by omega)]
      · rw [if_neg c1]
    · unfold fX11_goes
      simp (disch := omega) only [r_isPerson hM.1 w1, r_isPlace, bd_some, ite_dec]
      by_cases c1 : 0 ≤ z ∧ z < tN s.1
      · rw [if_pos c1, if_neg (by omega)]
      · rw [if_neg c1]
theorem op_cold {m : pw_Mem} (hs : Sim m) (a : Int32) : OpWW (fX10_cold a) (fX11_cold a) m := by
  have hs0 := hs
  obtain ⟨s, hC, hM, w⟩ := hs
  obtain ⟨z, rfl, h1, h2⟩ := rg a
  have w1 := w.1.1
  have h7 := w1.1.1
  have hk := w1.1.2.1
  by_cases c : 0 ≤ z ∧ z ≤ 9
  · obtain ⟨x, rfl⟩ := Int.eq_ofNat_of_zero_le c.1
    have hx : x ≤ 9 := by omega
    refine op_town hC hM w (r := iI ((cnt (ovr (sC s.1 x)) (tK s.1) : Nat) : Int)) (t := tryT (sC s.1 x)) ⟨WT_tryT (WT_C w1 hx), w.1.2.1, Calm_try _⟩ ?_ ?_
    · obtain ⟨m1, q1, g1, f1⟩ := c_chills hC.1 w1 hx
      refine ⟨m1, ?_, g1, fun c hc => f1 c (by omega) (by omega)⟩
      unfold fX10_cold
      simp (disch := omega) only [iN_lit, c_isUpTo, bd_some, ite_dec, q1, bd2_some]
      rw [if_pos (by omega)]
    · intro m1 hM1
      have g := RT_cold (v := x) hM1.1
      obtain ⟨m2, q2, g2, f2⟩ := r_tries g (WT_C w1 hx)
      have k1 : tK (sC s.1 x) = tK s.1 := rfl
      rw [k1] at q2
      refine ⟨m2, ?_, g2, by rw [f2 71 (by omega), up_oc (by omega)], fun c _ hc _ _ _ _ _ _ => by rw [f2 c hc, up_oc hc]⟩
      unfold fX11_cold
      simp (disch := omega) only [iN_lit, r_isIn, bd_some, ite_dec, gd_ix, iI_clN, lt_def, q2, bd2_some, r_bitsM]
      rw [if_pos (by omega)]
  · refine op_same hs0 (r := -1) ?_ ?_
    · unfold fX10_cold
      simp (disch := omega) only [iN_lit, c_isUpTo, bd_some, ite_dec]
      rw [if_neg (by omega)]
    · unfold fX11_cold
      simp (disch := omega) only [iN_lit, r_isIn, bd_some, ite_dec]
      rw [if_neg (by omega)]
