/-! CALLS: judge -/
set_option maxRecDepth 100000
theorem fst_ex (P : Nat → Bool) (L : Nat) (f : Nat → Int) (z : Int) : ∃ R : Int, ((∀ i, i < L → P i = true) → R = z) ∧ ∀ i, i < L → (∀ j, j < i → P j = true) → P i = false → R = f i := by
  rcases low_ex (fun i => !P i) L with h | ⟨b, h1, h2, h3⟩
  · refine ⟨z, fun _ => rfl, fun i hi _ h2 => ?_⟩
    have := h i hi
    rw [h2] at this
    exact absurd this (by decide)
  · have hb : P b = false := by
      cases q : P b
      · rfl
      · rw [q] at h2
        exact absurd h2 (by decide)
    refine ⟨f b, fun h => ?_, fun i hi h4 h5 => ?_⟩
    · have := h b h1
      rw [hb] at this
      exact absurd this (by decide)
    · rcases Nat.lt_trichotomy i b with q | q | q
      · have := h3 i q
        rw [h5] at this
        exact absurd this (by decide)
      · rw [q]
      · have := h4 b q
        rw [hb] at this
        exact absurd this (by decide)
theorem all_s {P : Nat → Bool} {i : Nat} (h : ∀ j, j < i → P j = true) (hi : P i = true) : ∀ j, j < i + 1 → P j = true := fun j hj => by
  by_cases e : j = i
  · rw [e]
    exact hi
  · exact h j (by omega)
def jdB (h : ShT) (t : TT) (i : Nat) : Bool := decide (hE h i = lst (hS h)) || decide (hE h i = (cnt (tX (yrI t i)) (tK t) : Nat))
theorem CS_mind {m m' : pw_Mem} {s : SS} (h : CS m s) (hf : ∀ c, c < 13 ∨ 24 < c → m' c = m c) : CS m' s := CS_f h (fun c hc => hf c (by omega))
theorem MS_work {m m' : pw_Mem} {s : SS} (h : MS m s) (hf : ∀ c, c ≠ 73 → c ≠ 76 → m' c = m c) : MS m' s := MS_f h (by rw [hf 71 (by omega) (by omega)]) (fun c hc => hf c (by omega) (by omega))
theorem op_judge {m : pw_Mem} (hs : Sim m) (a : Int32) : OpWW (fX10_judge a) (fX11_judge a) m := by
  have hs0 := hs
  obtain ⟨s, hC, hM, w⟩ := hs
  obtain ⟨d, rfl, h1, h2⟩ := rg a
  have w1 := w.1.1
  have hk := w1.1.2.1
  have hy := w.1.2.1
  have kb := noRow_b s d (-1)
  have wr : ∀ m', MS m' s → fX11_wrongRow (iI d) (-1) m' = some (iI (noRow s d (-1))) := fun _ h => r_wr1 h w h1 h2
  by_cases c : noRow s d (-1) = 0
  · obtain ⟨n, hn, rfl, hh, -⟩ := noRow_0 c
    obtain ⟨w3, wL, wE⟩ := (w.2.2 n hn).2.2 hh
    have lb := lst_b (hS (s.2.2 n))
    have r0 : iI (noRow s (n : Int) (-1)) = 0 := by rw [c]; rfl
    obtain ⟨R, hR1, hR2⟩ := fst_ex (jdB (s.2.2 n) s.1) (hL (s.2.2 n)) (fun i => (i : Int)) (-4)
    refine op_calc hC hM w (r := iI R) ?_ ?_
    · have key : ∃ m2 : pw_Mem, fX9_firstUntrue (55 + 2 * n) m = some (iI R, m2) ∧ ∀ c, c < 13 ∨ 24 < c → m2 c = m c := by
        obtain ⟨m1, q1, g1, f1⟩ := c_mind hC w
        unfold fX9_firstUntrue
        rw [q1, bd_some]
        refine lpI2 (fun i v (m3 : pw_Mem) => v = iI (i : Nat) ∧ (∀ j, j < i → jdB (s.2.2 n) s.1 j = true) ∧ CT m3 13 (yrI s.1 i) ∧ ∀ c, c < 13 ∨ 24 < c → m3 c = m c) (fun r => ∃ m2 : pw_Mem, r = some (iI R, m2) ∧ ∀ c, c < 13 ∨ 24 < c → m2 c = m c) (hL (s.2.2 n)) (by omega) ?_ ?_ ⟨rfl, fun j hj => absurd hj (Nat.not_lt_zero j), g1, f1⟩
        · rintro nx i _ m3 hi ⟨rfl, hlow, h3, f3⟩ hnx
          have hC3 := CS_mind hC f3
          have hyi := yrI_n s.1 i
          have wy := WT_yrI w1 i (by omega)
          have we := (wE i hi).1
          have cb := cnt_le (tX (yrI s.1 i)) (tK s.1)
          obtain ⟨m7, q7, g7, f7⟩ := c_year h3 wy (by omega)
          have e5 := (c_rw hC3 hn hh).1
          have sc := c_snappedCount h3 wy
          rw [hyi.2.1] at sc
          have go : jdB (s.2.2 n) s.1 i = true → ∃ m2 : pw_Mem, nx (iI ((i + 1 : Nat) : Int)) m7 = some (iI R, m2) ∧ ∀ c, c < 13 ∨ 24 < c → m2 c = m c := fun hj => hnx _ _ ⟨rfl, all_s hlow hj, g7, fun c hc => by rw [f7 c (by omega), f3 c hc]⟩
          rw [e5, leF (by omega), c_skip hC3 w hn hh hi, bd_some, jn_def, q7, bd2_some, lt_def, inc1]
          by_cases k1 : hE (s.2.2 n) i = lst (hS (s.2.2 n))
          · rw [decide_eq_true k1, itT]
            exact go (by unfold jdB; rw [decide_eq_true k1]; rfl)
          · rw [decide_eq_false k1, itF, c_at hC3 w hn hh hi, bd_some, sc, bd_some]
            by_cases k2 : hE (s.2.2 n) i = (cnt (tX (yrI s.1 i)) (tK s.1) : Nat)
            · rw [eqT k2]
              exact go (by unfold jdB; rw [decide_eq_true k2, Bool.or_true])
            · rw [eqF (by omega), hR2 i hi hlow (by unfold jdB; rw [decide_eq_false k1, decide_eq_false k2]; rfl)]
              exact ⟨m3, rfl, f3⟩
        · rintro nx _ m3 ⟨rfl, hlow, h3, f3⟩
          have hC3 := CS_mind hC f3
          have e5 := (c_rw hC3 hn hh).1
          rw [e5, leT (by omega), hR1 hlow]
          exact ⟨m3, rfl, f3⟩
      obtain ⟨m2, q2, f2⟩ := key
      refine ⟨m2, ?_, fun c hc => f2 c (by omega)⟩
      unfold fX10_judge
      rw [c_rowRef hC w h1 h2, bd_some, r0, if_pos rfl, gdN (by omega), clN (by omega), q2, bd2_some]
    · intro m1 hM1
      obtain ⟨m2, q2, g2, f2⟩ := r_work hM1 w
      unfold fX11_judge
      rw [wr m1 hM1, bd_some, r0, if_pos rfl, q2, bd_some]
      refine lpI2 (fun i v (m3 : pw_Mem) => v = iI (i : Nat) ∧ (∀ j, j < i → jdB (s.2.2 n) s.1 j = true) ∧ RT m3 73 (yrI s.1 i) ∧ ∀ c, c ≠ 73 → c ≠ 76 → m3 c = m1 c) (fun r => ∃ m2 : pw_Mem, r = some (iI R, m2) ∧ m2 71 5 = m1 71 5 ∧ ∀ c, (c < 71 ∨ c = 72 ∨ c = 74 ∨ 80 ≤ c) → m2 c = m1 c) (hL (s.2.2 n)) (by omega) ?_ ?_ ⟨rfl, fun j hj => absurd hj (Nat.not_lt_zero j), g2, fun c h _ => f2 c h⟩
      · rintro nx i _ m3 hi ⟨rfl, hlow, h3, f3⟩ hnx
        have hM3 := MS_work hM1 f3
        have hyi := yrI_n s.1 i
        have wy := WT_yrI w1 i (by omega)
        obtain ⟨eL, eS, -, -⟩ := r_rw hM3 w hn hh
        obtain ⟨ea, eE, we, h8⟩ := r_el hM3 w hn hh hi
        have cb := cnt_le (tX (yrI s.1 i)) (tK s.1)
        obtain ⟨m7, q7, g7, f7⟩ := r_year h3 wy (by omega) (by decide)
        have ss := r_snappedSet h3 wy
        rw [hyi.2.1] at ss
        have go : jdB (s.2.2 n) s.1 i = true → ∃ m2 : pw_Mem, nx (iI ((i + 1 : Nat) : Int)) m7 = some (iI R, m2) ∧ m2 71 5 = m1 71 5 ∧ ∀ c, (c < 71 ∨ c = 72 ∨ c = 74 ∨ 80 ≤ c) → m2 c = m1 c := fun hj => hnx _ _ ⟨rfl, all_s hlow hj, g7, fun c h h' => by rw [f7 c h h', f3 c h h']⟩
        rw [gdN (by omega), eL, leF (by omega), ea, gdN (by omega), lt_def, eE, gdN (by omega), eS, r_leastOf _ _ w3, bd_some, jn_def, q7, bd2_some, lt_def, inc1]
        by_cases k1 : hE (s.2.2 n) i = lst (hS (s.2.2 n))
        · rw [eqT k1]
          exact go (by unfold jdB; rw [decide_eq_true k1]; rfl)
        · rw [eqF (by omega), ss, bd_some, r_bitsM _ hk, bd_some]
          by_cases k2 : hE (s.2.2 n) i = (cnt (tX (yrI s.1 i)) (tK s.1) : Nat)
          · rw [eqT k2]
            exact go (by unfold jdB; rw [decide_eq_true k2, Bool.or_true])
          · rw [eqF (by omega), hR2 i hi hlow (by unfold jdB; rw [decide_eq_false k1, decide_eq_false k2]; rfl)]
            exact ⟨m3, rfl, by rw [f3 71 (by omega) (by omega)], fun c hc => f3 c (by omega) (by omega)⟩
      · rintro nx _ m3 ⟨rfl, hlow, h3, f3⟩
        have hM3 := MS_work hM1 f3
        obtain ⟨eL, eS, -, -⟩ := r_rw hM3 w hn hh
        rw [gdN (by omega), eL, leT (by omega), hR1 hlow]
        exact ⟨m3, rfl, by rw [f3 71 (by omega) (by omega)], fun c hc => f3 c (by omega) (by omega)⟩
  · have r0 : ¬ iI (noRow s d (-1)) = 0 := by
      rw [i0, iI_eq (by omega) (by omega) (by omega) (by omega)]
      exact c
    refine op_same hs0 (r := iI (noRow s d (-1))) ?_ ?_
    · unfold fX10_judge
      rw [c_rowRef hC w h1 h2, bd_some, if_neg r0]
    · unfold fX11_judge
      rw [wr m hM, bd_some, if_neg r0]
