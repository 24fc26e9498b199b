/-! CALLS: rest -/
set_option maxRecDepth 100000
theorem iI_jabs {a b : Nat} (ha : a < 100000) (hb : b < 100000) : jabs (iI ((a : Int) - (b : Int))) = iI ((dst a b : Nat) : Int) := by
  have e0 : (0 : Int32) = iI 0 := rfl
  unfold jabs dst
  rw [e0, if_le (by omega) (by omega) (by omega) (by omega), iI_sub]
  split
  · exact congrArg iI (by omega)
  · exact congrArg iI (by omega)
def rstN (d : Nat → Nat) (y c : Nat) : Nat → Nat × Nat
  | 0 => (y, c)
  | i + 1 => if d (y + i) < (rstN d y c i).2 then (y + i, d (y + i)) else rstN d y c i
theorem rst_s (d : Nat → Nat) (y c i : Nat) : rstN d y c (i + 1) = if d (y + i) < (rstN d y c i).2 then (y + i, d (y + i)) else rstN d y c i := rfl
theorem rstN_eq {d : Nat → Nat} {y c c' : Nat} : ∀ {n : Nat}, (∀ i, i < n → d (y + i) < c ∧ d (y + i) < c') → (rstN d y c n).1 = (rstN d y c' n).1 ∧ (0 < n → rstN d y c n = rstN d y c' n)
  | 0, _ => ⟨rfl, fun h => absurd h (Nat.lt_irrefl 0)⟩
  | n + 1, h => by
    have ih := rstN_eq (d := d) (y := y) (c := c) (c' := c') (n := n) (fun i hi => h i (by omega))
    have key : rstN d y c (n + 1) = rstN d y c' (n + 1) := by
      cases n with
      | zero =>
        have := h 0 (by omega)
        have a : rstN d y c (0 + 1) = (y + 0, d (y + 0)) := if_pos this.1
        have b : rstN d y c' (0 + 1) = (y + 0, d (y + 0)) := if_pos this.2
        rw [a, b]
      | succ k =>
        rw [rst_s d y c (k + 1), rst_s d y c' (k + 1), ih.2 (by omega)]
    exact ⟨by rw [key], fun _ => key⟩
theorem rstN_le {d : Nat → Nat} {y c B : Nat} : ∀ {n : Nat}, (∀ i, i < n → d (y + i) ≤ B) → (rstN d y c n).1 ≤ y + n ∧ ((rstN d y c n).2 ≤ B ∨ (rstN d y c n).2 = c)
  | 0, _ => ⟨Nat.le_refl _, Or.inr rfl⟩
  | n + 1, h => by
    have ih := rstN_le (d := d) (y := y) (c := c) (n := n) (fun i hi => h i (by omega))
    have := h n (by omega)
    simp only [rstN]
    split
    · exact ⟨by show y + n ≤ _; omega, Or.inl this⟩
    · exact ⟨by omega, ih.2⟩
def dR (t : TT) (p x : Nat) : Nat := dst (pld (atP t p x) p true) (pld (atP t p x) p false)
theorem dR_le {t : TT} (w : WT t) {p x : Nat} (hx : x ≤ 30) : dR t p x ≤ 1200 := by
  have h1 := pld_le (WT_atP (p := p) w hx) p true
  have h2 := pld_le (WT_atP (p := p) w hx) p false
  unfold dR dst
  omega
theorem op_rest {m : pw_Mem} (hs : Sim m) (a : Int32) : OpWW (fX10_rest a) (fX11_rest a) m := by
  have hs0 := hs
  obtain ⟨s, hC, hM, w⟩ := hs
  obtain ⟨z, rfl, h1, h2⟩ := rg a
  have w1 := w.1.1
  have h7 := w1.1.1
  by_cases c : 0 ≤ z ∧ z < tN s.1
  · obtain ⟨p, rfl⟩ := Int.eq_ofNat_of_zero_le c.1
    have hp : p < tN s.1 := by omega
    have hp30 := (w1.2.1 p hp).1
    obtain ⟨y1, hy1⟩ : ∃ y, y = roadV s.1 p false 30 (tP s.1 p) := ⟨_, rfl⟩
    obtain ⟨y3, hy3⟩ : ∃ y, y = roadV s.1 p true 30 (tP s.1 p) := ⟨_, rfl⟩
    have b1 : y1 ≤ 30 := by
      rw [hy1]
      exact roadV_le _ _ _ _ _ hp30
    have b3 : y3 ≤ 30 := by
      rw [hy3]
      exact roadV_le _ _ _ _ _ hp30
    have hd : ∀ i, i < y3 + 1 - y1 → dR s.1 p (y1 + i) ≤ 1200 := fun i hi => dR_le w1 (by omega)
    have eR := (rstN_eq (d := dR s.1 p) (y := y1) (c := 1000000) (c' := 1000000000) (n := y3 + 1 - y1) (fun i hi => by have := hd i hi; omega)).1
    refine op_calc hC hM w (r := iI ((rstN (dR s.1 p) y1 1000000 (y3 + 1 - y1)).1 : Nat)) ?_ ?_
    · obtain ⟨m1, q1, f1⟩ := c_road hC w hp false
      have hC1 : CS m1 s := CS_f hC (fun c hc => f1 c (by omega))
      obtain ⟨m2, q2, f2⟩ := c_road hC1 w hp true
      have hC2 : CS m2 s := CS_f hC1 (fun c hc => f2 c (by omega))
      obtain ⟨m3, q3, g3, f3⟩ := c_mind hC2 w
      have f13 : ∀ c, c < 13 ∨ 24 < c → m3 c = m c := fun c hc => by rw [f3 c hc, f2 c hc, f1 c hc]
      rw [← hy1] at q1
      rw [← hy3] at q2
      have q1' : fX4_endOfTheRoad (iI p) (-1) m = some (iI (y1 : Nat), m1) := q1
      have q2' : fX4_endOfTheRoad (iI p) 1 m1 = some (iI (y3 : Nat), m2) := q2
      have key : ∃ m9 : pw_Mem, fX4_restingPlace (iI p) m = some (iI ((rstN (dR s.1 p) y1 1000000 (y3 + 1 - y1)).1 : Nat), m9) ∧ ∀ c, c < 13 ∨ 24 < c → m9 c = m c := by
        unfold fX4_restingPlace
        rw [q1', bd2_some, q2', bd2_some, q3, bd_some]
        refine lpI4 (fun i v6 v7 v8 (m9 : pw_Mem) => v6 = iI ((rstN (dR s.1 p) y1 1000000 i).1 : Nat) ∧ v7 = iI ((rstN (dR s.1 p) y1 1000000 i).2 : Nat) ∧ v8 = iI ((y1 + i : Nat) : Int) ∧ (∃ x, CT m9 13 (atP s.1 p x)) ∧ ∀ c, c < 13 ∨ 24 < c → m9 c = m c) (fun z => ∃ m9 : pw_Mem, z = some (iI ((rstN (dR s.1 p) y1 1000000 (y3 + 1 - y1)).1 : Nat), m9) ∧ ∀ c, c < 13 ∨ 24 < c → m9 c = m c) (y3 + 1 - y1) (by omega) ?_ ?_ ⟨rfl, rfl, rfl, ⟨tP s.1 p, by rw [atP_self]; exact g3⟩, f13⟩
        · rintro nx i _ _ _ m9 hi ⟨rfl, rfl, rfl, ⟨x, h9⟩, f9⟩ hnx
          have g := CT_place (v := y1 + i) h9 hp
          rw [atP_atP] at g
          have wx := WT_atP (p := p) w1 (show y1 + i ≤ 30 by omega)
          obtain ⟨m5, q5, l5, f5⟩ := c_weighLeans g wx
          have g5 : CT m5 13 (atP s.1 p (y1 + i)) := CT_frame3 g (fun c _ _ h3 => f5 c h3)
          have f59 : ∀ c, c < 13 ∨ 24 < c → m5 c = m c := fun c hc => by rw [f5 c (by omega), up_oc (by omega), f9 c hc]
          have el : jabs (m5 (13 + 3) p) = iI (dR s.1 p (y1 + i) : Nat) := by
            rw [l5 p hp]
            have h1 := pld_le wx p true
            have h2 := pld_le wx p false
            exact iI_jabs (by omega) (by omega)
          have ei : (iI (p : Int)).toNatClampNeg = p := iI_clN (by omega)
          have q5' : fX7_weighLeans 13 (pw_up m9 (13 + 1) (iI (p : Int)).toNatClampNeg (iI ((y1 + i : Nat) : Int))) = some m5 := by
            rw [ei]
            exact q5
          have el' : jabs (m5 (13 + 3) (iI (p : Int)).toNatClampNeg) = iI (dR s.1 p (y1 + i) : Nat) := by
            rw [ei]
            exact el
          have e1 : iI ((y1 + i : Nat) : Int) + 1 = iI ((y1 + (i + 1) : Nat) : Int) := iN_add (y1 + i) 1
          have bD := hd i hi
          have bS := (rstN_le (d := dR s.1 p) (y := y1) (c := 1000000) (B := 1200) (n := i) (fun j hj => hd j (by omega))).2
          rw [if_neg (by rw [iI_lt (by omega) (by omega) (by omega) (by omega)]; omega), gd_ix (by omega) (by omega) (by omega), lt_def, q5', bd_some, gd_ix (by omega) (by omega) (by omega), lt_def, el', jn_def, if_le (by omega) (by omega) (by omega) (by omega)]
          by_cases cd : dR s.1 p (y1 + i) < (rstN (dR s.1 p) y1 1000000 i).2
          · have er : rstN (dR s.1 p) y1 1000000 (i + 1) = (y1 + i, dR s.1 p (y1 + i)) := by
              rw [rstN]
              exact if_pos cd
            rw [if_neg (by omega)]
            simp only [lt_def, e1]
            exact hnx _ _ _ _ ⟨by rw [er], by rw [er], rfl, ⟨_, g5⟩, f59⟩
          · have er : rstN (dR s.1 p) y1 1000000 (i + 1) = rstN (dR s.1 p) y1 1000000 i := by
              rw [rstN]
              exact if_neg cd
            rw [if_pos (by omega)]
            simp only [lt_def, e1]
            exact hnx _ _ _ _ ⟨by rw [er], by rw [er], rfl, ⟨_, g5⟩, f59⟩
        · rintro nx _ _ _ m9 ⟨rfl, rfl, rfl, -, f9⟩
          rw [if_pos (by rw [iI_lt (by omega) (by omega) (by omega) (by omega)]; omega)]
          exact ⟨m9, rfl, f9⟩
      obtain ⟨m9, q9, f9⟩ := key
      refine ⟨m9, ?_, fun c hc => f9 c (by omega)⟩
      unfold fX10_rest
      rw [c_isPerson hC.1 w1 h1 h2, bd_some, ite_dec, if_pos c, q9, bd2_some]
    · intro m0 hM0
      rw [eR]
      obtain ⟨m1, q1, f1⟩ := r_road hM0 w hp false
      have hM1 : MS m1 s := MS_f hM0 (by rw [f1 71 (by omega)]) (fun c hc => f1 c (by omega))
      obtain ⟨m2, q2, f2⟩ := r_road hM1 w hp true
      have hM2 : MS m2 s := MS_f hM1 (by rw [f2 71 (by omega)]) (fun c hc => f2 c (by omega))
      obtain ⟨m3, q3, g3, f3⟩ := r_work hM2 w
      have f13 : ∀ c, c ≠ 73 → m3 c = m0 c := fun c hc => by rw [f3 c hc, f2 c hc, f1 c hc]
      rw [← hy1] at q1
      rw [← hy3] at q2
      have q1' : fX11_farthestOf (iI p) (-1) m0 = some (iI (y1 : Nat), m1) := q1
      have q2' : fX11_farthestOf (iI p) 1 m1 = some (iI (y3 : Nat), m2) := q2
      unfold fX11_rest
      rw [r_isPerson hM0.1 w1 h1 h2, bd_some, ite_dec, if_pos c, q1', bd2_some, q2', bd2_some, q3, bd_some]
      have a4 : (4 : Int32) + iI (p : Int) = iI ((4 + p : Nat) : Int) := iN_add 4 p
      refine lpI4 (fun i v6 v7 v8 (m9 : pw_Mem) => v6 = iI ((rstN (dR s.1 p) y1 1000000000 i).1 : Nat) ∧ v7 = iI ((rstN (dR s.1 p) y1 1000000000 i).2 : Nat) ∧ v8 = iI ((y1 + i : Nat) : Int) ∧ (∃ x, RT m9 73 (atP s.1 p x)) ∧ ∀ c, c ≠ 73 → m9 c = m0 c) (fun z => ∃ m9 : pw_Mem, z = some (iI ((rstN (dR s.1 p) y1 1000000000 (y3 + 1 - y1)).1 : Nat), m9) ∧ m9 71 5 = m0 71 5 ∧ ∀ c, (c < 71 ∨ c = 72 ∨ c = 74 ∨ 80 ≤ c) → m9 c = m0 c) (y3 + 1 - y1) (by omega) ?_ ?_ ⟨rfl, rfl, rfl, ⟨tP s.1 p, by rw [atP_self]; exact g3⟩, f13⟩
      · rintro nx i _ _ _ m9 hi ⟨rfl, rfl, rfl, ⟨x, h9⟩, f9⟩ hnx
        have g := RT_place (v := y1 + i) h9 hp h7
        rw [atP_atP] at g
        have wx := WT_atP (p := p) w1 (show y1 + i ≤ 30 by omega)
        have f59 : ∀ c, c ≠ 73 → pw_up m9 73 (4 + p) (iI ((y1 + i : Nat) : Int)) c = m0 c := fun c hc => by rw [up_oc hc, f9 c hc]
        have e1 : iI ((y1 + i : Nat) : Int) + 1 = iI ((y1 + (i + 1) : Nat) : Int) := iN_add (y1 + i) 1
        have bD := hd i hi
        have bS := (rstN_le (d := dR s.1 p) (y := y1) (c := 1000000000) (B := 1200) (n := i) (fun j hj => hd j (by omega))).2
        have p1 : fX11_pulled 73 (iI p) 1 (pw_up m9 73 (4 + p) (iI ((y1 + i : Nat) : Int))) = some (iI ((pld (atP s.1 p (y1 + i)) p true : Nat) : Int)) := r_pulled g wx hp true
        have p2 : fX11_pulled 73 (iI p) (-1) (pw_up m9 73 (4 + p) (iI ((y1 + i : Nat) : Int))) = some (iI ((pld (atP s.1 p (y1 + i)) p false : Nat) : Int)) := r_pulled g wx hp false
        have k1 := pld_le wx p true
        have k2 := pld_le wx p false
        have ed : dst (pld (atP s.1 p (y1 + i)) p true) (pld (atP s.1 p (y1 + i)) p false) = dR s.1 p (y1 + i) := rfl
        rw [if_neg (by rw [iI_lt (by omega) (by omega) (by omega) (by omega)]; omega), a4, gd_ix (by omega) (by omega) (by omega), iI_clN (by omega), lt_def, p1, bd_some, p2, bd_some, r_far _ _ _ (by omega) (by omega), bd_some, jn_def, ed, if_lt (by omega) (by omega) (by omega) (by omega)]
        by_cases cd : dR s.1 p (y1 + i) < (rstN (dR s.1 p) y1 1000000000 i).2
        · have er : rstN (dR s.1 p) y1 1000000000 (i + 1) = (y1 + i, dR s.1 p (y1 + i)) := by
            rw [rstN]
            exact if_pos cd
          rw [if_pos (by omega)]
          simp only [lt_def, e1]
          exact hnx _ _ _ _ ⟨by rw [er], by rw [er], rfl, ⟨_, g⟩, f59⟩
        · have er : rstN (dR s.1 p) y1 1000000000 (i + 1) = rstN (dR s.1 p) y1 1000000000 i := by
            rw [rstN]
            exact if_neg cd
          rw [if_neg (by omega)]
          simp only [lt_def, e1]
          exact hnx _ _ _ _ ⟨by rw [er], by rw [er], rfl, ⟨_, g⟩, f59⟩
      · rintro nx _ _ _ m9 ⟨rfl, rfl, rfl, -, f9⟩
        rw [if_pos (by rw [iI_lt (by omega) (by omega) (by omega) (by omega)]; omega)]
        exact ⟨m9, rfl, by rw [f9 71 (by omega)], fun c hc => f9 c (by omega)⟩
  · refine op_same hs0 (r := -1) ?_ ?_
    · unfold fX10_rest
      rw [c_isPerson hC.1 w1 h1 h2, bd_some, ite_dec, if_neg c]
    · unfold fX11_rest
      rw [r_isPerson hM.1 w1 h1 h2, bd_some, ite_dec, if_neg c]
