/-! CALLS: still, firstSnap -/
set_option maxRecDepth 100000
def stillV (t : TT) : Nat → Nat → Int
  | 0, _ => -4
  | f + 1, v => if stirN (yrI t v) = 0 then v else stillV t f (v + 1)
def allB (P : Nat → Bool) : Nat → Bool
  | 0 => true
  | k + 1 => allB P k && P k
theorem allB_t {P : Nat → Bool} : ∀ {k : Nat}, allB P k = true ↔ ∀ p, p < k → P p = true
  | 0 => ⟨fun _ p hp => absurd hp (Nat.not_lt_zero p), fun _ => rfl⟩
  | k + 1 => by
    simp only [allB, Bool.and_eq_true, allB_t (k := k)]
    constructor
    · rintro ⟨h1, h2⟩ p hp
      by_cases e : p = k
      · subst e
        exact h2
      · exact h1 p (by omega)
    · intro h
      exact ⟨fun p hp => h p (by omega), h k (by omega)⟩
theorem jnB {τ : Type} {b : Bool} {p : Prop} (h : b = true ↔ p) {hp : Decidable p} (K : Int32 → Option τ) : jn K (fun k => if p then k (iI ((1 : Nat) : Int)) else k (iI ((0 : Nat) : Int))) = K (iI (if b = true then 1 else 0)) := by
  by_cases q : p
  · have e : b = true := h.mpr q
    subst e
    rw [jn_def, if_pos q]
    rfl
  · have e : b = false := by
      cases b
      · rfl
      · exact absurd (h.mp rfl) q
    subst e
    rw [jn_def, if_neg q]
    rfl
theorem ifB {b c : Bool} (h : b = c) {hb : Decidable (b = true)} {hc : Decidable (c = true)} : iI (if b = true then 1 else 0) = iI (if c = true then 1 else 0) := by
  subst h
  by_cases q : b = true
  · rw [if_pos q, if_pos q]
  · rw [if_neg q, if_neg q]
theorem and01 (b c : Bool) : iI (if b then 1 else 0) &&& iI (if c then 1 else 0) = iI (if (b && c) then 1 else 0) := by
  cases b <;> cases c <;> decide
theorem op_still {m : pw_Mem} (hs : Sim m) : OpWW fX10_still fX11_still m := by
  obtain ⟨s, hC, hM, w⟩ := hs
  have w1 := w.1.1
  have h7 := w1.1.1
  have hk := w1.1.2.1
  have hy := w.1.2.1
  obtain ⟨R, hR⟩ : ∃ R, stillV s.1 61 0 = R := ⟨_, rfl⟩
  refine op_calc hC hM w (r := iI R) ?_ ?_
  · obtain ⟨m1, q1, g1, f1⟩ := c_mind hC w
    unfold fX10_still fX9_yearsToStillness
    rw [q1, bd_some]
    have key : ∃ m2 : pw_Mem, lp (κ := Int32 → pw_Mem → Option (Int32 × pw_Mem)) (fun _ _ => none) (fun nx4 v2 m3 => if (60 : Int32) < v2 then some ((-4 : Int32), m3) else bd2 (fX7_passYear 13 m3) fun y6 m7 => if y6 = true then lt (v2 + (1 : Int32)) fun x8 => nx4 x8 m7 else some (v2, m7)) FU (0 : Int32) m1 = some (iI R, m2) ∧ ∀ c, c < 13 ∨ 24 < c → m2 c = m c := by
      refine lpI2 (fun i v (m6 : pw_Mem) => v = iI (i : Nat) ∧ stillV s.1 (61 - i) i = R ∧ CT m6 13 (yrI s.1 i) ∧ ∀ c, c < 13 ∨ 24 < c → m6 c = m c) (fun x => ∃ m2 : pw_Mem, x = some (iI R, m2) ∧ ∀ c, c < 13 ∨ 24 < c → m2 c = m c) 61 (by omega) ?_ ?_ ⟨rfl, hR, g1, f1⟩
      · rintro nx i _ m6 hi ⟨rfl, hv, h6, f6⟩ hnx
        have hyi := yrI_n s.1 i
        obtain ⟨m7, q7, g7, f7⟩ := c_year h6 (WT_yrI w1 i (by omega)) (by omega)
        have e1 : iI (i : Int) + iI ((1 : Nat) : Int) = iI ((i + 1 : Nat) : Int) := iN_add i 1
        have f67 : ∀ c, c < 13 ∨ 24 < c → m7 c = m c := fun c hc => by rw [f7 c (by omega), f6 c hc]
        rw [show 61 - i = (60 - i) + 1 by omega] at hv
        simp only [stillV] at hv
        simp (disch := omega) only [iN_lit, iI_lt, q7, bd2_some, lt_def, e1, ite_dec]
        rw [if_neg (by omega)]
        by_cases c0 : stirN (yrI s.1 i) = 0
        · rw [if_pos c0] at hv
          rw [if_neg (by omega), ← hv]
          exact ⟨m7, rfl, f67⟩
        · rw [if_neg c0] at hv
          rw [if_pos (by omega)]
          exact hnx _ _ ⟨rfl, by rw [show 61 - (i + 1) = 60 - i by omega]; exact hv, g7, f67⟩
      · rintro nx _ m6 ⟨rfl, hv, h6, f6⟩
        simp (disch := omega) only [iN_lit, iI_lt]
        have e4 : R = -4 := hv.symm
        rw [if_pos (by omega), e4]
        exact ⟨m6, by rw [iI_neg]; rfl, f6⟩
    obtain ⟨m2, q2, f2⟩ := key
    refine ⟨m2, ?_, fun c hc => f2 c (by omega)⟩
    rw [q2, bd2_some]
  · intro m1 hM1
    obtain ⟨m2, q2, g2, f2⟩ := r_work hM1 w
    unfold fX11_still
    rw [q2, bd_some]
    refine lpI2 (fun i v (m6 : pw_Mem) => v = iI (i : Nat) ∧ stillV s.1 (61 - i) i = R ∧ RT m6 73 (yrI s.1 i) ∧ ∀ c, c ≠ 73 → c ≠ 75 → c ≠ 76 → m6 c = m1 c) (fun x => ∃ m2 : pw_Mem, x = some (iI R, m2) ∧ m2 71 5 = m1 71 5 ∧ ∀ c, (c < 71 ∨ c = 72 ∨ c = 74 ∨ 80 ≤ c) → m2 c = m1 c) 61 (by omega) ?_ ?_ ⟨rfl, hR, g2, fun c h _ _ => f2 c h⟩
    · rintro nx i _ m6 hi ⟨rfl, hv, h6, f6⟩ hnx
      have hyi := yrI_n s.1 i
      have wi := WT_yrI w1 i (by omega)
      obtain ⟨m5, q5, g5, f5⟩ := r_copies m6 (o1 := 73) (o2 := 75) (by omega)
      have r5 : RT m5 73 (yrI s.1 i) := RT_frame h6 (f5 73 (by omega))
      obtain ⟨m7, q7, g7, f7⟩ := r_year r5 wi (by omega) (by decide)
      have r75 : RT m7 75 (yrI s.1 i) := RT_frame (RT_copy h6 wi g5) (f7 75 (by omega) (by omega))
      have e1 : iI (i : Int) + iI ((1 : Nat) : Int) = iI ((i + 1 : Nat) : Int) := iN_add i 1
      have f67 : ∀ c, c ≠ 73 → c ≠ 75 → c ≠ 76 → m7 c = m1 c := fun c h1 h2 h3 => by rw [f7 c h1 h3, f5 c h2, f6 c h1 h2 h3]
      have n7 : m7 73 0 = iI (tN s.1) := by
        rw [g7.1.1, (yrT_n _).1, hyi.1]
      have b2 := msk_lt' (newY (yrI s.1 i)) (k := tK s.1) hk
      have s0 := stir_0 wi (by omega)
      rw [hyi.2.1] at q7 s0
      rw [hyi.1] at s0
      rw [show 61 - i = (60 - i) + 1 by omega] at hv
      simp only [stillV] at hv
      obtain ⟨B, hB⟩ : ∃ B : Bool, B = true ↔ ((msk (newY (yrI s.1 i)) (tK s.1) : Nat) : Int) = ((0 : Nat) : Int) := ⟨decide _, decide_eq_true_iff⟩
      obtain ⟨P, hP⟩ : ∃ P : Nat → Bool, ∀ p, P p = true ↔ ((tP (yrT (yrI s.1 i)) p : Nat) : Int) = ((tP (yrI s.1 i) p : Nat) : Int) := ⟨fun p => decide _, fun p => decide_eq_true_iff⟩
      simp (disch := omega) only [iN_lit, iI_lt, q5, bd_some, q7, bd2_some, lt_def, e1, jnB hB, gd_ix, iI_clN, n7, iI_eq]
      rw [if_neg (by omega)]
      refine lpI2 (fun j v10 v11 => v10 = iI (if (B && allB P j) then 1 else 0) ∧ v11 = iI (j : Nat)) (fun x => ∃ m2 : pw_Mem, x = some (iI R, m2) ∧ m2 71 5 = m1 71 5 ∧ ∀ c, (c < 71 ∨ c = 72 ∨ c = 74 ∨ 80 ≤ c) → m2 c = m1 c) (tN s.1) (by omega) ?_ ?_ ⟨?_, rfl⟩
      · rintro nx2 j _ _ hj ⟨rfl, rfl⟩ hnx2
        have e2 := (g7.2.1 j (by rw [(yrT_n _).1, hyi.1]; exact hj)).1
        have e3 := (r75.2.1 j (by rw [hyi.1]; exact hj)).1
        have e4 : iI (j : Int) + iI ((1 : Nat) : Int) = iI ((j + 1 : Nat) : Int) := iN_add j 1
        have p1 := ((WT_yrT wi (by omega)).2.1 j (by rw [(yrT_n _).1, hyi.1]; exact hj)).1
        have p2 := (wi.2.1 j (by rw [hyi.1]; exact hj)).1
        simp (disch := omega) only [iI_le, iN_add, gd_ix, iI_clN, e2, e3, iI_eq, e4, jnB (hP j), and01]
        rw [if_neg (by omega)]
        refine hnx2 _ _ ⟨?_, rfl⟩
        exact ifB (by simp only [allB, Bool.and_assoc])
      · rintro nx2 _ _ ⟨rfl, rfl⟩
        simp (disch := omega) only [iI_le]
        rw [if_pos (by omega)]
        have hall := allB_t (P := P) (k := tN s.1)
        by_cases c0 : stirN (yrI s.1 i) = 0
        · obtain ⟨a1, a2⟩ := s0.mp c0
          rw [if_pos c0] at hv
          rw [hB.mpr (by omega), hall.mpr (fun p hp => (hP p).mpr (by have := a2 p hp; omega)), ← hv]
          rw [if_neg (by decide)]
          exact ⟨m7, rfl, by rw [f67 71 (by omega) (by omega) (by omega)], fun c hc => f67 c (by omega) (by omega) (by omega)⟩
        · rw [if_neg c0] at hv
          have : (B && allB P (tN s.1)) = false := by
            cases hb : B
            · rfl
            · cases h : allB P (tN s.1)
              · rfl
              · exact absurd (s0.mpr ⟨by have := hB.mp hb; omega, fun p hp => by have := (hP p).mp (hall.mp h p hp); omega⟩) c0
          rw [this, if_pos (by rfl)]
          exact hnx _ _ ⟨rfl, by rw [show 61 - (i + 1) = 60 - i by omega]; exact hv, g7, f67⟩
      · simp only [allB, Bool.and_true]
    · rintro nx _ m6 ⟨rfl, hv, h6, f6⟩
      simp (disch := omega) only [iN_lit, iI_lt]
      have e4 : R = -4 := hv.symm
      rw [if_pos (by omega), e4]
      exact ⟨m6, by rw [iI_neg]; rfl, by rw [f6 71 (by omega) (by omega) (by omega)], fun c hc => f6 c (by omega) (by omega) (by omega)⟩
