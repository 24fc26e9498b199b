/-! CALLS: mayGo, rest -/
set_option maxRecDepth 100000
def atP (t : TT) (p x : Nat) : TT := sP t (up1 (tP t) p x)
theorem atP_self (t : TT) (p : Nat) : atP t p (tP t p) = t := by
  have : up1 (tP t) p (tP t p) = tP t := by
    funext j
    by_cases e : j = p
    · subst e
      exact up1_eq _ _ _
    · exact up1_ne e
  unfold atP
  rw [this]
  rfl
theorem atP_atP (t : TT) (p x y : Nat) : sP (atP t p x) (up1 (tP (atP t p x)) p y) = atP t p y := by
  have : up1 (tP (atP t p x)) p y = up1 (tP t) p y := by
    funext j
    by_cases e : j = p
    · subst e
      rw [up1_eq, up1_eq]
    · rw [up1_ne e, up1_ne e]
      exact up1_ne e
  rw [this]
  rfl
theorem atP_n (t : TT) (p x : Nat) : tN (atP t p x) = tN t ∧ tK (atP t p x) = tK t ∧ tC (atP t p x) = tC t := ⟨rfl, rfl, rfl⟩
theorem WT_atP {t : TT} (w : WT t) {p x : Nat} (hx : x ≤ 30) : WT (atP t p x) := WT_move w hx
def anyO (t : TT) : Nat := msk (ovr t) (tK t)
def onR (r : Bool) (x : Nat) : Bool := if r then decide (x < 30) else decide (0 < x)
def nxR (r : Bool) (x : Nat) : Nat := if r then x + 1 else x - 1
def roadV (t : TT) (p : Nat) (r : Bool) : Nat → Nat → Nat
  | 0, x => x
  | f + 1, x => if onR r x = true then (if anyO (atP t p (nxR r x)) = 0 then roadV t p r f (nxR r x) else x) else x
theorem roadV_le (t : TT) (p : Nat) (r : Bool) : ∀ f x, x ≤ 30 → roadV t p r f x ≤ 30
  | 0, x, h => h
  | f + 1, x, h => by
    simp only [roadV]
    split
    · rename_i h2
      split
      · apply roadV_le
        unfold nxR
        unfold onR at h2
        cases r
        · simp
          omega
        · simp at h2 ⊢
          omega
      · exact h
    · exact h
theorem iI_sgn (x : Nat) (r : Bool) : iI (x : Int) + iI (sgn r) = iI ((x : Int) + sgn r) := iI_add _ _
theorem nxR_i {r : Bool} {x : Nat} (h : onR r x = true) : (x : Int) + sgn r = ((nxR r x : Nat) : Int) ∧ nxR r x ≤ 30 + (x - 30) := by
  unfold onR at h
  unfold nxR sgn
  cases r
  · simp at h ⊢
    omega
  · simp at h ⊢
    omega
theorem nxR_n {r : Bool} {x : Nat} (hx : x ≤ 30) (h : onR r x = false) : ¬ (0 ≤ (x : Int) + sgn r ∧ (x : Int) + sgn r ≤ 30) := by
  unfold onR at h
  unfold sgn
  cases r
  · simp at h ⊢
    omega
  · simp at h ⊢
    omega
theorem sgn_b (r : Bool) : -1 ≤ sgn r ∧ sgn r ≤ 1 := by
  cases r <;> decide
theorem c_road {m : pw_Mem} {s : SS} (hC : CS m s) (w : WS s) {p : Nat} (hp : p < tN s.1) (r : Bool) : ∃ m1 : pw_Mem, fX4_endOfTheRoad (iI p) (iI (sgn r)) m = some (iI ((roadV s.1 p r 30 (tP s.1 p) : Nat) : Int), m1) ∧ ∀ c, c < 13 ∨ 24 < c → m1 c = m c := by
  obtain ⟨m1, q1, g1, f1⟩ := c_mind hC w
  have w1 := w.1.1
  have h7 := w1.1.1
  have hk := w1.1.2.1
  have hc9 := w1.1.2.2.1
  have hp30 := (w1.2.1 p hp).1
  have sb := sgn_b r
  obtain ⟨R, hR⟩ : ∃ R, ∀ _ : Unit, roadV s.1 p r 30 (tP s.1 p) = R := ⟨_, fun _ => rfl⟩
  rw [hR ()]
  have e2 : m1 (1 + 1) (iI (p : Int)).toNatClampNeg = iI (tP s.1 p : Nat) := by
    rw [iI_clN (by omega), f1 (1 + 1) (by omega)]
    exact (hC.1.2.1 p hp).1
  unfold fX4_endOfTheRoad
  rw [q1, bd_some, gd_ix (by omega) (by omega) (by omega), lt_def, e2]
  refine lpI3 (fun i v3 v4 (m5 : pw_Mem) => ∃ x : Nat, v3 = iI (x : Nat) ∧ v4 = iI ((i + 1 : Nat) : Int) ∧ x ≤ 30 ∧ (∀ _ : Unit, roadV s.1 p r (30 - i) x = R) ∧ CT m5 13 (atP s.1 p x) ∧ ∀ c, c < 13 ∨ 24 < c → m5 c = m c) (fun z => ∃ m2 : pw_Mem, z = some (iI (R : Nat), m2) ∧ ∀ c, c < 13 ∨ 24 < c → m2 c = m c) 30 (by omega) ?_ ?_ ⟨tP s.1 p, rfl, rfl, hp30, hR, by rw [atP_self]; exact g1, f1⟩
  · rintro nx i _ _ m5 hi ⟨x, rfl, rfl, hx, hv, h5, f5⟩ hnx
    have n30 : ¬ (30 : Int32) < iI ((i + 1 : Nat) : Int) := by
      rw [iN_lit, iI_lt (by omega) (by omega) (by omega) (by omega)]
      omega
    have hv := hv ()
    rw [show 30 - i = (29 - i) + 1 by omega] at hv
    simp only [roadV] at hv
    have e30 : (30 : Int32) = iI 30 := rfl
    rw [if_neg n30, lt_def, iI_sgn, e30, c_isUpTo _ (by omega) (by omega) (by omega) (by omega), bd_some]
    cases ho : onR r x
    · rw [decide_eq_false (nxR_n hx ho), if_neg (by decide)]
      rw [ho, if_neg (by decide)] at hv
      rw [← hv]
      exact ⟨m5, rfl, f5⟩
    · obtain ⟨n1, n2⟩ := nxR_i ho
      rw [ho, if_pos rfl] at hv
      rw [n1, decide_eq_true (by omega), if_pos rfl, gd_ix (by omega) (by omega) (by omega), iI_clN (by omega), lt_def]
      have g6 := CT_place (v := nxR r x) h5 hp
      rw [atP_atP] at g6
      have w6 := WT_atP (p := p) w1 (show nxR r x ≤ 30 by omega)
      have ec : pw_up m5 (13 + 1) p (iI (nxR r x : Nat)) 13 14 = iI (tC s.1 : Nat) := g6.1.2.2.2.1
      have eo := c_over g6 w6 (c := tC s.1) (by omega)
      rw [ec, eo, bd_some]
      have ef : ∀ c, c < 13 ∨ 24 < c → pw_up m5 (13 + 1) p (iI (nxR r x : Nat)) c = m c := fun c hc => by rw [up_oc (by omega), f5 c hc]
      have ea : msk (ovC (atP s.1 p (nxR r x)) (tC s.1)) (tK (atP s.1 p (nxR r x))) = anyO (atP s.1 p (nxR r x)) := rfl
      rw [ea]
      by_cases c0 : anyO (atP s.1 p (nxR r x)) = 0
      · rw [if_pos c0] at hv
        rw [c0, if_pos (by rfl), lt_def]
        exact hnx _ _ _ ⟨nxR r x, rfl, iN_add (i + 1) 1, by omega, fun _ => by rw [show 30 - (i + 1) = 29 - i by omega]; exact hv, g6, ef⟩
      · rw [if_neg c0] at hv
        have b := msk_lt' (ovr (atP s.1 p (nxR r x))) hk
        have b' : anyO (atP s.1 p (nxR r x)) < 2 ^ 10 := b
        have y0 : ¬ iI ((anyO (atP s.1 p (nxR r x)) : Nat) : Int) = 0 := by
          rw [i0, iI_eq (by omega) (by omega) (by omega) (by omega)]
          omega
        rw [if_neg y0, ← hv]
        exact ⟨_, rfl, ef⟩
  · rintro nx _ _ m5 ⟨x, rfl, rfl, hx, hv, h5, f5⟩
    have n30 : (30 : Int32) < iI ((30 + 1 : Nat) : Int) := by
      rw [iN_lit, iI_lt (by omega) (by omega) (by omega) (by omega)]
      omega
    have e : x = R := hv ()
    rw [if_pos n30, e]
    exact ⟨m5, rfl, f5⟩
theorem r_road {m : pw_Mem} {s : SS} (hM : MS m s) (w : WS s) {p : Nat} (hp : p < tN s.1) (r : Bool) : ∃ m1 : pw_Mem, fX11_farthestOf (iI p) (iI (sgn r)) m = some (iI ((roadV s.1 p r 30 (tP s.1 p) : Nat) : Int), m1) ∧ ∀ c, c ≠ 73 → m1 c = m c := by
  obtain ⟨m1, q1, g1, f1⟩ := r_work hM w
  have w1 := w.1.1
  have h7 := w1.1.1
  have hk := w1.1.2.1
  have hp30 := (w1.2.1 p hp).1
  have sb := sgn_b r
  obtain ⟨R, hR⟩ : ∃ R, ∀ _ : Unit, roadV s.1 p r 30 (tP s.1 p) = R := ⟨_, fun _ => rfl⟩
  rw [hR ()]
  have a4 : (4 : Int32) + iI (p : Int) = iI ((4 + p : Nat) : Int) := iN_add 4 p
  have e2 : m1 72 (iI ((4 + p : Nat) : Int)).toNatClampNeg = iI (tP s.1 p : Nat) := by
    rw [iI_clN (by omega), f1 72 (by omega)]
    exact (hM.1.2.1 p hp).1
  unfold fX11_farthestOf
  rw [q1, bd_some, a4, gd_ix (by omega) (by omega) (by omega), lt_def, e2]
  refine lpI2 (fun i v3 (m5 : pw_Mem) => ∃ x : Nat, v3 = iI (x : Nat) ∧ x ≤ 30 ∧ (if r then x = tP s.1 p + i else x + i = tP s.1 p) ∧ (∀ _ : Unit, roadV s.1 p r (30 - i) x = R) ∧ RT m5 73 (atP s.1 p x) ∧ ∀ c, c ≠ 73 → m5 c = m c) (fun z => ∃ m2 : pw_Mem, z = some (iI (R : Nat), m2) ∧ ∀ c, c ≠ 73 → m2 c = m c) 30 (by omega) ?_ ?_ ⟨tP s.1 p, rfl, hp30, by cases r <;> simp, hR, by rw [atP_self]; exact g1, f1⟩
  · rintro nx i _ m5 hi ⟨x, rfl, hx, hxi, hv, h5, f5⟩ hnx
    have hv := hv ()
    rw [show 30 - i = (29 - i) + 1 by omega] at hv
    simp only [roadV] at hv
    rw [iI_sgn, r_isPlace _ (by omega) (by omega), bd_some]
    cases ho : onR r x
    · rw [decide_eq_false (nxR_n hx ho), if_neg (by decide)]
      rw [ho, if_neg (by decide)] at hv
      rw [← hv]
      exact ⟨m5, rfl, f5⟩
    · obtain ⟨n1, n2⟩ := nxR_i ho
      rw [ho, if_pos rfl] at hv
      rw [n1, decide_eq_true (by omega), if_pos rfl, gd_ix (by omega) (by omega) (by omega), iI_clN (by omega), lt_def]
      have g6 := RT_place (v := nxR r x) h5 hp h7
      rw [atP_atP] at g6
      have w6 := WT_atP (p := p) w1 (show nxR r x ≤ 30 by omega)
      have ef : ∀ c, c ≠ 73 → pw_up m5 73 (4 + p) (iI (nxR r x : Nat)) c = m c := fun c hc => by rw [up_oc hc, f5 c hc]
      have ek : pw_up m5 73 (4 + p) (iI (nxR r x : Nat)) 73 1 = iI (tK s.1 : Nat) := g6.1.2.1
      have e1c : (1 : Int32).toNatClampNeg = 1 := rfl
      rcases low_ex (ovr (atP s.1 p (nxR r x))) (tK s.1) with h | ⟨b, hb1, hb2, hb3⟩
      · have a0 : anyO (atP s.1 p (nxR r x)) = 0 := msk_z h
        rw [if_pos a0] at hv
        refine lpI1 (fun j v => v = iI (j : Nat)) (fun z => ∃ m2 : pw_Mem, z = some (iI (R : Nat), m2) ∧ ∀ c, c ≠ 73 → m2 c = m c) (tK s.1) (by omega) ?_ ?_ rfl
        · rintro nx2 j _ hj rfl hnx2
          have e1 : iI (j : Int) + 1 = iI ((j + 1 : Nat) : Int) := iN_add j 1
          rw [gd_true (by decide), e1c, ek, if_neg (by rw [iI_le (by omega) (by omega) (by omega) (by omega)]; omega), r_isOver g6 w6 hj, bd_some, h j hj, if_neg (by decide), lt_def, e1]
          exact hnx2 _ rfl
        · rintro nx2 _ rfl
          rw [gd_true (by decide), e1c, ek, if_pos (by rw [iI_le (by omega) (by omega) (by omega) (by omega)]; omega), lt_def]
          refine hnx _ _ ⟨nxR r x, rfl, by omega, ?_, fun _ => by rw [show 30 - (i + 1) = 29 - i by omega]; exact hv, g6, ef⟩
          unfold onR at ho
          unfold nxR
          cases r
          · simp at ho hxi ⊢
            omega
          · simp at ho hxi ⊢
            omega
      · have a0 : ¬ anyO (atP s.1 p (nxR r x)) = 0 := fun e => by
          have := msk_0 e b hb1
          rw [hb2] at this
          exact absurd this (by decide)
        rw [if_neg a0] at hv
        refine lpI1 (fun j v => v = iI (j : Nat)) (fun z => ∃ m2 : pw_Mem, z = some (iI (R : Nat), m2) ∧ ∀ c, c ≠ 73 → m2 c = m c) b (by omega) ?_ ?_ rfl
        · rintro nx2 j _ hj rfl hnx2
          have e1 : iI (j : Int) + 1 = iI ((j + 1 : Nat) : Int) := iN_add j 1
          rw [gd_true (by decide), e1c, ek, if_neg (by rw [iI_le (by omega) (by omega) (by omega) (by omega)]; omega), r_isOver g6 w6 (show j < tK s.1 by omega), bd_some, hb3 j hj, if_neg (by decide), lt_def, e1]
          exact hnx2 _ rfl
        · rintro nx2 _ rfl
          rw [gd_true (by decide), e1c, ek, if_neg (by rw [iI_le (by omega) (by omega) (by omega) (by omega)]; omega), r_isOver g6 w6 hb1, bd_some, hb2, if_pos rfl, ← hv]
          exact ⟨_, rfl, ef⟩
  · rintro nx _ m5 ⟨x, rfl, hx, hxi, hv, h5, f5⟩
    have e : x = R := hv ()
    have ho : onR r x = false := by
      unfold onR
      cases r
      · simp at hxi ⊢
        omega
      · simp at hxi ⊢
        omega
    rw [iI_sgn, r_isPlace _ (by omega) (by omega), bd_some, decide_eq_false (nxR_n hx ho), if_neg (by decide), e]
    exact ⟨m5, rfl, f5⟩
theorem op_mayGo {m : pw_Mem} (hs : Sim m) (a b : Int32) : OpWW (fX10_mayGo a b) (fX11_mayGo a b) m := by
  have hs0 := hs
  obtain ⟨s, hC, hM, w⟩ := hs
  obtain ⟨z, rfl, h1, h2⟩ := rg a
  obtain ⟨q, rfl, h3, h4⟩ := rg b
  have w1 := w.1.1
  have h7 := w1.1.1
  by_cases c : (0 ≤ z ∧ z < tN s.1) ∧ 0 ≤ q ∧ q ≤ 1
  · obtain ⟨n, rfl⟩ := Int.eq_ofNat_of_zero_le c.1.1
    have hn : n < tN s.1 := by omega
    have e1 : (1 : Int32) = iI 1 := rfl
    have e0 : (0 : Int32) = iI 0 := rfl
    refine op_calc hC hM w (r := iI (roadV s.1 n (decide (q = 1)) 30 (tP s.1 n) : Nat)) ?_ ?_
    · obtain ⟨m1, q1, f1⟩ := c_road hC w hn (decide (q = 1))
      refine ⟨m1, ?_, fun c hc => f1 c (by omega)⟩
      unfold fX10_mayGo
      rw [c_isPerson hC.1 w1 h1 h2, bd_some, ite_dec, if_pos c.1, e1, c_isUpTo _ h3 h4 (by omega) (by omega), bd_some, ite_dec, if_pos c.2, e0, if_eq (by omega) (by omega) (by omega) (by omega)]
      rcases (show q = 0 ∨ q = 1 by omega) with rfl | rfl
      · rw [if_pos rfl]
        have : fX4_endOfTheRoad (iI n) (-iI 1) m = _ := q1
        rw [this, bd2_some]
      · rw [if_neg (by omega)]
        have : fX4_endOfTheRoad (iI n) (iI 1) m = _ := q1
        rw [this, bd2_some]
    · intro m1 hM1
      obtain ⟨m2, q2, f2⟩ := r_road hM1 w hn (decide (q = 1))
      refine ⟨m2, ?_, by rw [f2 71 (by omega)], fun c hc => f2 c (by omega)⟩
      unfold fX11_mayGo
      rw [r_isPerson hM1.1 w1 h1 h2, bd_some, ite_dec, if_pos c.1, e0, e1, r_isIn _ _ _ _ (by omega) (by omega) (by omega), bd_some, ite_dec, if_pos c.2, if_eq (by omega) (by omega) (by omega) (by omega)]
      rcases (show q = 0 ∨ q = 1 by omega) with rfl | rfl
      · rw [if_pos rfl]
        have : fX11_farthestOf (iI n) (-iI 1) m1 = _ := q2
        rw [this, bd2_some]
      · rw [if_neg (by omega)]
        have : fX11_farthestOf (iI n) (iI 1) m1 = _ := q2
        rw [this, bd2_some]
  · have e1 : (1 : Int32) = iI 1 := rfl
    have e0 : (0 : Int32) = iI 0 := rfl
    refine op_same hs0 (r := -1) ?_ ?_
    · unfold fX10_mayGo
      rw [c_isPerson hC.1 w1 h1 h2, bd_some, ite_dec]
      by_cases c1 : 0 ≤ z ∧ z < tN s.1
      · rw [if_pos c1, e1, c_isUpTo _ h3 h4 (by omega) (by omega), bd_some, ite_dec, if_neg (by omega)]
      · rw [if_neg c1]
    · unfold fX11_mayGo
      rw [r_isPerson hM.1 w1 h1 h2, bd_some, ite_dec]
      by_cases c1 : 0 ≤ z ∧ z < tN s.1
      · rw [if_pos c1, e0, e1, r_isIn _ _ _ _ (by omega) (by omega) (by omega), bd_some, ite_dec, if_neg (by omega)]
      · rw [if_neg c1]
