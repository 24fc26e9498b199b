/-! GOINGS: told ones, drawn ones; CALLS: forged -/
set_option maxRecDepth 100000
def gG (t : TT) (p x : Nat → Nat) : Nat → TT
  | 0 => t
  | i + 1 => tryT (sP (gG t p x i) (up1 (tP (gG t p x i)) (p i) (x i)))
def mvG (t : TT) (p x : Nat → Nat) (i : Nat) : TT := sP (gG t p x i) (up1 (tP (gG t p x i)) (p i) (x i))
theorem gG_s (t : TT) (p x : Nat → Nat) (i : Nat) : gG t p x (i + 1) = tryT (mvG t p x i) := rfl
theorem gG_n (t : TT) (p x : Nat → Nat) : ∀ i, tN (gG t p x i) = tN t ∧ tK (gG t p x i) = tK t
  | 0 => ⟨rfl, rfl⟩
  | i + 1 => by
    obtain ⟨a, b⟩ := gG_n t p x i
    exact ⟨a, b⟩
theorem mvG_n (t : TT) (p x : Nat → Nat) (i : Nat) : tN (mvG t p x i) = tN t ∧ tK (mvG t p x i) = tK t := gG_n t p x i
theorem WT_gG {t : TT} (w : WT t) {p x : Nat → Nat} : ∀ {i}, (∀ j, j < i → x j ≤ 30) → WT (gG t p x i)
  | 0, _ => w
  | i + 1, h => WT_tryT (WT_move (WT_gG w (fun j hj => h j (by omega))) (h i (by omega)))
theorem gG_m {t : TT} {p x : Nat → Nat} {b : Nat} (hb : b < tK t) (h : tX t b = true) : ∀ i, tX (gG t p x i) b = true
  | 0 => h
  | i + 1 => by
    rw [gG_s, tX_tryT (by rw [(mvG_n t p x i).2]; exact hb)]
    have : tX (mvG t p x i) b = tX (gG t p x i) b := rfl
    rw [this, gG_m hb h i]
    rfl
theorem c_at0 {m : pw_Mem} {s : SS} (h : CS m s) (w : WS s) {n : Nat} (hn : n < 8) (hh : hH (s.2.2 n) = 2) {i : Nat} (hi : hL (s.2.2 n) ≤ i) (hb : i < 1000) : fX5_at (55 + 2 * n) (iI i) m = some (iI ((0 : Nat) : Int)) := by
  obtain ⟨w3, wL, wE⟩ := (w.2.2 n hn).2.2 hh
  have e5 := (c_rw h hn hh).1
  unfold fX5_at fX5_hasPlace
  rw [if_neg (NL (by omega) (by omega) (by omega)), e5, leT (by omega), bd_some, itF]
  rfl
/-- a pair is a going -/
def gdB (h : ShT) (t : TT) (i : Nat) : Bool := decide (0 ≤ hE h (2 * i) ∧ hE h (2 * i) < tN t) && (decide (hL h ≤ 2 * i + 1) || decide (0 ≤ hE h (2 * i + 1) ∧ hE h (2 * i + 1) ≤ 30))
theorem c_goings {m : pw_Mem} {s : SS} (hC : CS m s) (w : WS s) {n : Nat} (hn : n < 8) (hh : hH (s.2.2 n) = 2) : ∃ B : Bool, fX1_areGoings (55 + 2 * n) m = some B ∧ (B = true ↔ ((∀ i, i < (hL (s.2.2 n) + 1) / 2 → gdB (s.2.2 n) s.1 i = true) ∧ hL (s.2.2 n) % 2 = 0)) := by
  obtain ⟨w3, wL, wE⟩ := (w.2.2 n hn).2.2 hh
  have w1 := w.1.1
  have e5 := (c_rw hC hn hh).1
  unfold fX1_areGoings
  refine lpI1 (fun i v => v = iI ((2 * i : Nat) : Int) ∧ ∀ j, j < i → gdB (s.2.2 n) s.1 j = true) (fun r => ∃ B : Bool, r = some B ∧ (B = true ↔ ((∀ i, i < (hL (s.2.2 n) + 1) / 2 → gdB (s.2.2 n) s.1 i = true) ∧ hL (s.2.2 n) % 2 = 0))) ((hL (s.2.2 n) + 1) / 2) (by omega) ?_ ?_ ⟨rfl, fun j hj => absurd hj (Nat.not_lt_zero j)⟩
  · rintro nx i _ hi ⟨rfl, hlow⟩ hnx
    have we := (wE (2 * i) (by omega)).1
    have bad : gdB (s.2.2 n) s.1 i = false → ∃ B : Bool, some false = some B ∧ (B = true ↔ ((∀ i, i < (hL (s.2.2 n) + 1) / 2 → gdB (s.2.2 n) s.1 i = true) ∧ hL (s.2.2 n) % 2 = 0)) := fun hb => ⟨false, rfl, fun h => absurd h (by decide), fun h => by
      rw [h.1 i hi] at hb
      exact absurd hb (by decide)⟩
    have e2 : iI ((2 * i : Nat) : Int) + 2 = iI ((2 * (i + 1) : Nat) : Int) := iN_add (2 * i) 2
    rw [e5, leF (by omega), c_at hC w hn hh (by omega), bd_some, c_isPerson hC.1 w1 (by omega) (by omega), bd_some, ite_dec]
    by_cases k1 : 0 ≤ hE (s.2.2 n) (2 * i) ∧ hE (s.2.2 n) (2 * i) < tN s.1
    · rw [if_pos k1, inc1]
      by_cases k2 : hL (s.2.2 n) ≤ 2 * i + 1
      · have up : fX10_isUpTo (iI ((0 : Nat) : Int)) 30 m = some (decide ((0 : Int) ≤ 0 ∧ (0 : Int) ≤ 30)) := c_isUpTo (k := 30) m (by omega) (by omega) (by omega) (by omega)
        rw [c_at0 hC w hn hh k2 (by omega), bd_some, up, bd_some, ite_dec, if_pos (by omega), lt_def, e2]
        exact hnx _ ⟨rfl, all_s hlow (by unfold gdB; rw [decide_eq_true k1, decide_eq_true k2]; rfl)⟩
      · have we2 := (wE (2 * i + 1) (by omega)).1
        have up : fX10_isUpTo (iI (hE (s.2.2 n) (2 * i + 1))) 30 m = some (decide (0 ≤ hE (s.2.2 n) (2 * i + 1) ∧ hE (s.2.2 n) (2 * i + 1) ≤ 30)) := c_isUpTo (k := 30) m (by omega) (by omega) (by omega) (by omega)
        rw [c_at hC w hn hh (by omega), bd_some, up, bd_some, ite_dec]
        by_cases k3 : 0 ≤ hE (s.2.2 n) (2 * i + 1) ∧ hE (s.2.2 n) (2 * i + 1) ≤ 30
        · rw [if_pos k3, lt_def, e2]
          exact hnx _ ⟨rfl, all_s hlow (by unfold gdB; rw [decide_eq_true k1, decide_eq_true k3, Bool.or_true]; rfl)⟩
        · rw [if_neg k3]
          exact bad (by unfold gdB; rw [decide_eq_false k2, decide_eq_false k3]; simp)
    · rw [if_neg k1]
      exact bad (by unfold gdB; rw [decide_eq_false k1]; rfl)
  · rintro nx _ ⟨rfl, hlow⟩
    rw [e5, leT (by omega), n2, iI_div (by omega) (by omega) (by omega) (by omega), iI_mul, iI_sub, n0]
    by_cases k : hL (s.2.2 n) % 2 = 0
    · rw [eqT (by omega)]
      exact ⟨true, rfl, fun _ => ⟨hlow, k⟩, fun _ => rfl⟩
    · rw [eqF (by omega)]
      exact ⟨false, rfl, fun h => absurd h (by decide), fun h => absurd h.2 k⟩
def pE (h : ShT) (i : Nat) : Nat := (hE h (2 * i)).toNat
def xE (h : ShT) (i : Nat) : Nat := (hE h (2 * i + 1)).toNat
def okG (t : TT) (p x : Nat → Nat) (i : Nat) : Bool := decide (cnt (ovr (mvG t p x i)) (tK t) = 0)
theorem gdB_t {h : ShT} {t : TT} {i : Nat} (hb : gdB h t i = true) (hi : 2 * i + 1 < hL h) : (hE h (2 * i) = pE h i ∧ pE h i < tN t) ∧ hE h (2 * i + 1) = xE h i ∧ xE h i ≤ 30 := by
  unfold gdB at hb
  rw [Bool.and_eq_true, Bool.or_eq_true] at hb
  have h1 := of_decide_eq_true hb.1
  have h2 : 0 ≤ hE h (2 * i + 1) ∧ hE h (2 * i + 1) ≤ 30 := by
    rcases hb.2 with q | q
    · have := of_decide_eq_true q
      omega
    · exact of_decide_eq_true q
  unfold pE xE
  omega
theorem op_forged {m : pw_Mem} (hs : Sim m) (a : Int32) : OpWW (fX10_forged a) (fX11_forged a) m := by
  have hs0 := hs
  obtain ⟨s, hC, hM, w⟩ := hs
  obtain ⟨d, rfl, h1, h2⟩ := rg a
  have w1 := w.1.1
  have hk := w1.1.2.1
  have h7 := w1.1.1
  have kb := noRow_b s d (-1)
  have wr : ∀ m', MS m' s → fX11_wrongRow (iI d) (-1) m' = some (iI (noRow s d (-1))) := fun _ h => r_wr1 h w h1 h2
  by_cases c : noRow s d (-1) = 0
  · obtain ⟨n, hn, rfl, hh, -⟩ := noRow_0 c
    obtain ⟨w3, wL, wE⟩ := (w.2.2 n hn).2.2 hh
    have r0 : iI (noRow s (n : Int) (-1)) = 0 := by rw [c]; rfl
    obtain ⟨B, hB1, hB2⟩ := c_goings hC w hn hh
    have par : ∀ m', MS m' s → ∀ (τ : Type) (x y : τ), (if ((m' 84 (iI (n : Int)).toNatClampNeg) - (m' 84 (iI (n : Int)).toNatClampNeg) / (2 : Int32) * (2 : Int32)) = (1 : Int32) then x else y) = if hL (s.2.2 n) % 2 = 1 then x else y := fun m' h τ x y => by
      obtain ⟨eL, -, -, -⟩ := r_rw h w hn hh
      rw [eL, n2, iI_div (by omega) (by omega) (by omega) (by omega), iI_mul, iI_sub, n1]
      by_cases q : hL (s.2.2 n) % 2 = 1
      · rw [eqT (by omega), if_pos q]
      · rw [eqF (by omega), if_neg q]
    by_cases cB : B = true
    · obtain ⟨hall, hev⟩ := hB2.mp cB
      have hx : ∀ i, i < hL (s.2.2 n) / 2 → (hE (s.2.2 n) (2 * i) = pE (s.2.2 n) i ∧ pE (s.2.2 n) i < tN s.1) ∧ hE (s.2.2 n) (2 * i + 1) = xE (s.2.2 n) i ∧ xE (s.2.2 n) i ≤ 30 := fun i hi => gdB_t (hall i (by omega)) (by omega)
      obtain ⟨p, hp⟩ : ∃ p, p = pE (s.2.2 n) := ⟨_, rfl⟩
      obtain ⟨x, hxx⟩ : ∃ x, x = xE (s.2.2 n) := ⟨_, rfl⟩
      rw [← hp, ← hxx] at hx
      clear hp hxx
      obtain ⟨R, hR1, hR2⟩ := fst_ex (okG s.1 p x) (hL (s.2.2 n) / 2) (fun i => (i : Int)) (-4)
      refine op_calc hC hM w (r := iI R) ?_ ?_
      · have key : ∃ m2 : pw_Mem, fX1_firstSnapping (55 + 2 * n) m = some (iI R, m2) ∧ ∀ c, c < 13 ∨ 24 < c → m2 c = m c := by
          obtain ⟨m1, q1, g1, f1⟩ := c_mind hC w
          unfold fX1_firstSnapping
          rw [q1, bd_some]
          refine lpI2 (fun i v (m3 : pw_Mem) => v = iI (i : Nat) ∧ (∀ j, j < i → okG s.1 p x j = true) ∧ CT m3 13 (gG s.1 p x i) ∧ ∀ c, c < 13 ∨ 24 < c → m3 c = m c) (fun r => ∃ m2 : pw_Mem, r = some (iI R, m2) ∧ ∀ c, c < 13 ∨ 24 < c → m2 c = m c) (hL (s.2.2 n) / 2) (by omega) ?_ ?_ ⟨rfl, fun j hj => absurd hj (Nat.not_lt_zero j), g1, f1⟩
          · rintro nx i _ m3 hi ⟨rfl, hlow, h3, f3⟩ hnx
            have hC3 := CS_mind hC f3
            have gn := gG_n s.1 p x i
            have wg := WT_gG w1 (p := p) (x := x) (i := i) (fun j hj => (hx j (by omega)).2.2)
            obtain ⟨⟨x1, x2⟩, x3, x4⟩ := hx i hi
            obtain ⟨m7, q7, g7, f7⟩ := c_moves h3 wg (p := p i) (x := x i) (by omega) x4
            rw [gn.2] at q7
            have ecn : cnt (ovr (sP (gG s.1 p x i) (up1 (tP (gG s.1 p x i)) (p i) (x i)))) (tK s.1) = cnt (ovr (mvG s.1 p x i)) (tK s.1) := rfl
            rw [ecn] at q7
            have cb := cnt_le (ovr (mvG s.1 p x i)) (tK s.1)
            have e5 := (c_rw hC3 hn hh).1
            have em : (2 : Int32) * iI (i : Int) = iI ((2 * i : Nat) : Int) := iN_mul 2 i
            have e1 := c_at hC3 w hn hh (i := 2 * i) (by omega)
            have e2 := c_at hC3 w hn hh (i := 2 * i + 1) (by omega)
            rw [e5, n2, iI_div (by omega) (by omega) (by omega) (by omega), leF (by omega), ← n2, em, e1, bd_some, inc1, e2, bd_some, x1, x3, q7, bd2_some, n0]
            by_cases k : cnt (ovr (mvG s.1 p x i)) (tK s.1) = 0
            · rw [leT (by omega), lt_def, inc1]
              exact hnx _ _ ⟨rfl, all_s hlow (decide_eq_true k), g7, fun c hc => by rw [f7 c (by omega) (by omega) (by omega), f3 c hc]⟩
            · rw [leF (by omega), hR2 i hi hlow (decide_eq_false k)]
              exact ⟨m7, rfl, fun c hc => by rw [f7 c (by omega) (by omega) (by omega), f3 c hc]⟩
          · rintro nx _ m3 ⟨rfl, hlow, h3, f3⟩
            have hC3 := CS_mind hC f3
            have e5 := (c_rw hC3 hn hh).1
            rw [e5, n2, iI_div (by omega) (by omega) (by omega) (by omega), leT (by omega), hR1 hlow]
            exact ⟨m3, rfl, f3⟩
        obtain ⟨m2, q2, f2⟩ := key
        refine ⟨m2, ?_, fun c hc => f2 c (by omega)⟩
        unfold fX10_forged
        rw [c_rowRef hC w h1 h2, bd_some, r0, if_pos rfl, gdN (by omega), cl55 hn, hB1, bd_some, if_pos cB, gdN (by omega), q2, bd2_some]
      · intro m1 hM1
        obtain ⟨eL1, -, -, -⟩ := r_rw hM1 w hn hh
        have hall' : ∀ i, i < hL (s.2.2 n) / 2 → (hE (s.2.2 n) (2 * i) = p i ∧ p i < tN s.1) ∧ hE (s.2.2 n) (2 * i + 1) = x i ∧ x i ≤ 30 := hx
        unfold fX11_forged
        rw [wr m1 hM1, bd_some, jn_def, r0, if_pos rfl, gdN (by omega), par m1 hM1, if_neg (by omega)]
        refine lpI2 (fun i v3 v4 => v3 = 0 ∧ v4 = iI ((2 * i : Nat) : Int)) (fun r => ∃ m2 : pw_Mem, r = some (iI R, m2) ∧ m2 71 5 = m1 71 5 ∧ ∀ c, (c < 71 ∨ c = 72 ∨ c = 74 ∨ 80 ≤ c) → m2 c = m1 c) (hL (s.2.2 n) / 2) (by omega) ?_ ?_ ⟨rfl, rfl⟩
        · rintro nx i _ _ hi ⟨rfl, rfl⟩ hnx
          obtain ⟨⟨x1, x2⟩, x3, x4⟩ := hx i hi
          obtain ⟨ea, eE, we, h8⟩ := r_el hM1 w hn hh (j := 2 * i) (by omega)
          obtain ⟨eb, eF, wf, h9⟩ := r_el hM1 w hn hh (j := 2 * i + 1) (by omega)
          have e2 : iI ((2 * i : Nat) : Int) + 2 = iI ((2 * (i + 1) : Nat) : Int) := iN_add (2 * i) 2
          have eF' : m1 85 (iI ((100 * n + 2 * i + 1 : Nat) : Int)).toNatClampNeg = iI (hE (s.2.2 n) (2 * i + 1)) := eF
          have ip := r_isPerson hM1.1 w1 (z := hE (s.2.2 n) (2 * i)) (by omega) (by omega)
          have il := r_isPlace m1 (z := hE (s.2.2 n) (2 * i + 1)) (by omega) (by omega)
          rw [jn_def, if_pos rfl, gdN (by omega), eL1, leF (by omega), ea, gdN (by omega), eE, ip, bd_some, jn_def, jn_def, ite_dec, if_pos (by omega), inc1, gdN (by omega), eF', il, bd_some, ite_dec, if_pos (by omega)]
          simp only [lt_def, e2]
          exact hnx _ _ ⟨rfl, rfl⟩
        · rintro nx _ _ ⟨rfl, rfl⟩
          obtain ⟨m2, q2, g2, f2⟩ := r_work hM1 w
          rw [jn_def, if_pos rfl, gdN (by omega), eL1, leT (by omega), if_pos rfl, q2, bd_some]
          refine lpI2 (fun i v (m3 : pw_Mem) => v = iI ((2 * i : Nat) : Int) ∧ (∀ j, j < i → okG s.1 p x j = true) ∧ RT m3 73 (gG s.1 p x i) ∧ ∀ c, c ≠ 73 → m3 c = m1 c) (fun r => ∃ m2 : pw_Mem, r = some (iI R, m2) ∧ m2 71 5 = m1 71 5 ∧ ∀ c, (c < 71 ∨ c = 72 ∨ c = 74 ∨ 80 ≤ c) → m2 c = m1 c) (hL (s.2.2 n) / 2) (by omega) ?_ ?_ ⟨rfl, fun j hj => absurd hj (Nat.not_lt_zero j), g2, f2⟩
          · rintro nx i _ m3 hi ⟨rfl, hlow, h3, f3⟩ hnx
            have hM3 := MS_work hM1 (fun c h _ => f3 c h)
            obtain ⟨eL, eS, -, -⟩ := r_rw hM3 w hn hh
            have gn := gG_n s.1 p x i
            have wg := WT_gG w1 (p := p) (x := x) (i := i) (fun j hj => (hx j (by omega)).2.2)
            obtain ⟨⟨x1, x2⟩, x3, x4⟩ := hx i hi
            obtain ⟨ea, eE, we, h8⟩ := r_el hM3 w hn hh (j := 2 * i) (by omega)
            obtain ⟨eb, eF, wf, h9⟩ := r_el hM3 w hn hh (j := 2 * i + 1) (by omega)
            have eF' : m3 85 (iI ((100 * n + 2 * i + 1 : Nat) : Int)).toNatClampNeg = iI (hE (s.2.2 n) (2 * i + 1)) := eF
            obtain ⟨m7, q7, g7, f7⟩ := r_goesTo h3 wg (p := p i) (x := x i) (by omega) x4
            rw [gn.2] at q7
            have ecn : msk (ovr (sP (gG s.1 p x i) (up1 (tP (gG s.1 p x i)) (p i) (x i)))) (tK s.1) = msk (ovr (mvG s.1 p x i)) (tK s.1) := rfl
            rw [ecn] at q7
            have mb := msk_lt' (ovr (mvG s.1 p x i)) hk
            have e2 : iI ((2 * i : Nat) : Int) + 2 = iI ((2 * (i + 1) : Nat) : Int) := iN_add (2 * i) 2
            have fr : ∀ c, c ≠ 73 → m7 c = m1 c := fun c hc => by rw [f7 c hc, f3 c hc]
            rw [gdN (by omega), eL, leF (by omega), ea, gdN (by omega), inc1, gdN (by omega), eE, eF', x1, x3, q7, bd2_some]
            by_cases k : cnt (ovr (mvG s.1 p x i)) (tK s.1) = 0
            · rw [msk_z (cnt_0 k), if_pos (by rfl), lt_def, e2]
              exact hnx _ _ ⟨rfl, all_s hlow (decide_eq_true k), g7, fr⟩
            · have mne : msk (ovr (mvG s.1 p x i)) (tK s.1) ≠ 0 := fun q => k (cnt_z (msk_0 q))
              rw [n0, eqF (by omega), n2, iI_div (by omega) (by omega) (by omega) (by omega), hR2 i hi hlow (decide_eq_false k)]
              exact ⟨m7, by rw [show ((2 * i : Nat) : Int) / ((2 : Nat) : Int) = (i : Int) by omega], by rw [fr 71 (by omega)], fun c hc => fr c (by omega)⟩
          · rintro nx _ m3 ⟨rfl, hlow, h3, f3⟩
            have hM3 := MS_work hM1 (fun c h _ => f3 c h)
            obtain ⟨eL, eS, -, -⟩ := r_rw hM3 w hn hh
            rw [gdN (by omega), eL, leT (by omega), hR1 hlow]
            exact ⟨m3, rfl, by rw [f3 71 (by omega)], fun c hc => f3 c (by omega)⟩
    · refine op_same hs0 (r := -13) ?_ ?_
      · unfold fX10_forged
        rw [c_rowRef hC w h1 h2, bd_some, r0, if_pos rfl, gdN (by omega), cl55 hn, hB1, bd_some, if_neg cB]
      · obtain ⟨eL, -, -, -⟩ := r_rw hM w hn hh
        have n13 : ¬ (-13 : Int32) = 0 := by decide
        unfold fX11_forged
        rw [wr m hM, bd_some, jn_def, r0, if_pos rfl, gdN (by omega), par m hM]
        by_cases ev : hL (s.2.2 n) % 2 = 1
        · rw [if_pos ev]
          refine lpI2 (fun _ v3 _ => v3 = -13) (fun r => r = some (-13, m)) 0 (by omega) ?_ ?_ rfl
          · rintro nx i _ _ hi
            omega
          · rintro nx _ _ rfl
            rw [jn_def, if_neg n13, if_neg n13]
        · rw [if_neg ev]
          rcases low_ex (fun i => !gdB (s.2.2 n) s.1 i) ((hL (s.2.2 n) + 1) / 2) with hno | ⟨b, hb, hb1, hb2⟩
          · refine absurd (hB2.mpr ⟨fun i hi => ?_, by omega⟩) cB
            have := hno i hi
            simpa using this
          · have stp : ∀ (nx : Int32 → Int32 → Option (Int32 × pw_Mem)) (i : Nat), 2 * i + 1 < hL (s.2.2 n) → bd (fX11_isPerson (iI (hE (s.2.2 n) (2 * i))) m) (fun y24 => jn (κ := Int32 → Option (Int32 × pw_Mem)) (fun v25 => lt (iI ((2 * i : Nat) : Int) + (2 : Int32)) fun x26 => nx v25 x26) (fun k27 => jn (κ := Option (Int32 × pw_Mem)) (k27 (-13 : Int32)) (fun k29 => if y24 = true then gd (ix (iI ((100 * n + 2 * i + 1 : Nat) : Int)) 800) (bd (fX11_isPlace (m 85 (iI ((100 * n + 2 * i + 1 : Nat) : Int)).toNatClampNeg) m) fun y31 => if y31 = true then k27 0 else k29) else k29))) = nx (if gdB (s.2.2 n) s.1 i = true then 0 else -13) (iI ((2 * (i + 1) : Nat) : Int)) := fun nx i hi => by
              obtain ⟨ea, eE, we, h8⟩ := r_el hM w hn hh (j := 2 * i) (by omega)
              obtain ⟨eb, eF, wf, h9⟩ := r_el hM w hn hh (j := 2 * i + 1) (by omega)
              have e2 : iI ((2 * i : Nat) : Int) + 2 = iI ((2 * (i + 1) : Nat) : Int) := iN_add (2 * i) 2
              have eF' : m 85 (iI ((100 * n + 2 * i + 1 : Nat) : Int)).toNatClampNeg = iI (hE (s.2.2 n) (2 * i + 1)) := eF
              have ip := r_isPerson hM.1 w1 (z := hE (s.2.2 n) (2 * i)) (by omega) (by omega)
              have il := r_isPlace m (z := hE (s.2.2 n) (2 * i + 1)) (by omega) (by omega)
              unfold gdB
              rw [ip, bd_some, jn_def, jn_def, ite_dec]
              simp only [lt_def, e2]
              rw [decide_eq_false (show ¬ hL (s.2.2 n) ≤ 2 * i + 1 by omega), Bool.false_or]
              by_cases k1 : 0 ≤ hE (s.2.2 n) (2 * i) ∧ hE (s.2.2 n) (2 * i) < tN s.1
              · rw [if_pos k1, gdN (by omega), eF', il, bd_some, ite_dec, decide_eq_true k1, Bool.true_and]
                by_cases k2 : 0 ≤ hE (s.2.2 n) (2 * i + 1) ∧ hE (s.2.2 n) (2 * i + 1) ≤ 30
                · rw [if_pos k2, decide_eq_true k2, itT]
                · rw [if_neg k2, decide_eq_false k2, itF]
              · rw [if_neg k1, decide_eq_false k1, Bool.false_and, itF]
            have hbf : gdB (s.2.2 n) s.1 b = false := by simpa using hb1
            refine lpI2 (fun i v3 v4 => v3 = (if i = b + 1 then -13 else 0) ∧ v4 = iI ((2 * i : Nat) : Int)) (fun r => r = some (-13, m)) (b + 1) (by omega) ?_ ?_ ⟨by rw [if_neg (by omega)], rfl⟩
            · rintro nx i _ _ hi ⟨rfl, rfl⟩ hnx
              obtain ⟨ea, eE, we, h8⟩ := r_el hM w hn hh (j := 2 * i) (by omega)
              rw [if_neg (show ¬ i = b + 1 by omega), jn_def, if_pos rfl, gdN (by omega), eL, leF (by omega), ea, gdN (by omega), eE, inc1, stp nx i (by omega)]
              refine hnx _ _ ⟨?_, rfl⟩
              by_cases k : i = b
              · subst k
                rw [hbf, itF, if_pos rfl]
              · have : gdB (s.2.2 n) s.1 i = true := by
                  have := hb2 i (by omega)
                  simpa using this
                rw [this, itT, if_neg (by omega)]
            · rintro nx _ _ ⟨rfl, rfl⟩
              rw [if_pos rfl, jn_def, if_neg n13, if_neg n13]
  · have r0 : ¬ iI (noRow s d (-1)) = 0 := by
      rw [i0, iI_eq (by omega) (by omega) (by omega) (by omega)]
      exact c
    refine op_same hs0 (r := iI (noRow s d (-1))) ?_ ?_
    · unfold fX10_forged
      rw [c_rowRef hC w h1 h2, bd_some, if_neg r0]
    · unfold fX11_forged
      rw [wr m hM, bd_some, jn_def, if_neg r0]
      refine lpI2 (fun _ v3 _ => v3 = iI (noRow s d (-1))) (fun r => r = some (iI (noRow s d (-1)), m)) 0 (by omega) ?_ ?_ rfl
      · rintro nx i _ _ hi
        omega
      · rintro nx _ _ rfl
        rw [jn_def, if_neg r0, if_neg r0]
