/-! CALLS: letGo, christmas -/
set_option maxRecDepth 100000
theorem op_letGo {m : pw_Mem} (hs : Sim m) (a b : Int32) : OpWW (fX10_letGo a b) (fX11_letGo a b) m := by
  have hs0 := hs
  obtain ⟨s, hC, hM, w⟩ := hs
  obtain ⟨z, rfl, h1, h2⟩ := rg a
  obtain ⟨q, rfl, h3, h4⟩ := rg b
  have w1 := w.1.1
  have h7 := w1.1.1
  have hk := w1.1.2.1
  have hc9 := w1.1.2.2.1
  have e30 : (30 : Int32) = iI 30 := rfl
  by_cases c : (0 ≤ z ∧ z < tN s.1) ∧ 0 ≤ q ∧ q ≤ 30
  · obtain ⟨p, rfl⟩ := Int.eq_ofNat_of_zero_le c.1.1
    obtain ⟨x, rfl⟩ := Int.eq_ofNat_of_zero_le c.2.1
    have hp : p < tN s.1 := by omega
    have wx := WT_atP (p := p) w1 (show x ≤ 30 by omega)
    refine op_calc hC hM w (r := iI (msk (ovr (sP s.1 (up1 (tP s.1) p x))) (tK s.1) : Nat)) ?_ ?_
    · obtain ⟨m1, q1, g1, f1⟩ := c_mind hC w
      have g := CT_place (v := x) g1 hp
      have ec : pw_up m1 (13 + 1) p (iI (x : Nat)) 13 14 = iI (tC s.1 : Nat) := g.1.2.2.2.1
      have eo := c_over g wx (c := tC s.1) (by omega)
      refine ⟨pw_up m1 (13 + 1) p (iI (x : Nat)), ?_, fun c hc => by rw [up_oc (by omega), f1 c (by omega)]⟩
      unfold fX10_letGo fX4_snappedByGoing
      rw [c_isPerson hC.1 w1 h1 h2, bd_some, ite_dec, if_pos c.1, e30, c_isUpTo _ h3 h4 (by omega) (by omega), bd_some, ite_dec, if_pos c.2, q1, bd_some, gd_ix (by omega) (by omega) (by omega), lt_def, iI_clN (by omega), ec, eo, bd_some, bd2_some]
      rfl
    · intro m1 hM1
      obtain ⟨m2, q2, g2, f2⟩ := r_work hM1 w
      obtain ⟨m3, q3, g3, f3⟩ := r_goesTo g2 w1 hp (x := x) (by omega)
      refine ⟨m3, ?_, by rw [f3 71 (by omega), f2 71 (by omega)], fun c hc => by rw [f3 c (by omega), f2 c (by omega)]⟩
      unfold fX11_letGo
      rw [r_isPerson hM1.1 w1 h1 h2, bd_some, ite_dec, if_pos c.1, r_isPlace _ h3 h4, bd_some, ite_dec, if_pos c.2, q2, bd_some, q3, bd2_some]
  · refine op_same hs0 (r := -1) ?_ ?_
    · unfold fX10_letGo
      rw [c_isPerson hC.1 w1 h1 h2, bd_some, ite_dec]
      by_cases c1 : 0 ≤ z ∧ z < tN s.1
      · rw [if_pos c1, e30, c_isUpTo _ h3 h4 (by omega) (by omega), bd_some, ite_dec, if_neg (by omega)]
      · rw [if_neg c1]
    · unfold fX11_letGo
      rw [r_isPerson hM.1 w1 h1 h2, bd_some, ite_dec]
      by_cases c1 : 0 ≤ z ∧ z < tN s.1
      · rw [if_pos c1, r_isPlace _ h3 h4, bd_some, ite_dec, if_neg (by omega)]
      · rw [if_neg c1]
def farV (t : TT) (x : Nat) : Nat := sumN (fun p => dst x (tP t p)) (tN t)
theorem farS_le {t : TT} (w : WT t) {x : Nat} (hx : x ≤ 30) {i : Nat} (hi : i ≤ tN t) : sumN (fun p => dst x (tP t p)) i ≤ 210 := by
  have h7 := w.1.1
  have := sumN_le (f := fun p => dst x (tP t p)) (c := 30) (k := i) (fun p hp => dst_le hx (w.2.1 p (by omega)).1)
  omega
theorem c_farTo {m : pw_Mem} {t : TT} (h : CT m 1 t) (w : WT t) {x : Nat} (hx : x ≤ 30) : fX4_farTo (iI x) m = some (iI (farV t x : Nat)) := by
  have h7 := w.1.1
  unfold fX4_farTo
  refine lpI2 (fun i v1 v2 => v1 = iI (sumN (fun p => dst x (tP t p)) i : Nat) ∧ v2 = iI (i : Nat)) (fun z => z = _) (tN t) (by omega) ?_ ?_ ⟨rfl, rfl⟩
  · rintro nx i _ _ hi ⟨rfl, rfl⟩ hnx
    have e := (h.2.1 i hi).1
    have b := (w.2.1 i hi).1
    have e1 : iI (i : Int) + 1 = iI ((i + 1 : Nat) : Int) := iN_add i 1
    have ei : (iI (i : Int)).toNatClampNeg = i := iI_clN (by omega)
    have ed : dst (tP t i) x = dst x (tP t i) := by
      unfold dst
      omega
    rw [h.1.1, if_neg (by rw [iI_le (by omega) (by omega) (by omega) (by omega)]; omega), gd_ix (by omega) (by omega) (by omega), lt_def, lt_def, ei, e, iI_sub, iI_jabs (by omega) (by omega), ed, iN_add, e1]
    exact hnx _ _ ⟨rfl, rfl⟩
  · rintro nx _ _ ⟨rfl, rfl⟩
    rw [h.1.1, if_pos (by rw [iI_le (by omega) (by omega) (by omega) (by omega)]; omega)]
    rfl
theorem r_farAll {m : pw_Mem} {t : TT} (h : RT m 72 t) (w : WT t) {x : Nat} (hx : x ≤ 30) : fX11_farAll (iI x) m = some (iI (farV t x : Nat)) := by
  have h7 := w.1.1
  have e0c : (0 : Int32).toNatClampNeg = 0 := rfl
  unfold fX11_farAll
  refine lpI2 (fun i v1 v2 => v1 = iI (sumN (fun p => dst x (tP t p)) i : Nat) ∧ v2 = iI (i : Nat)) (fun z => z = _) (tN t) (by omega) ?_ ?_ ⟨rfl, rfl⟩
  · rintro nx i _ _ hi ⟨rfl, rfl⟩ hnx
    have e := (h.2.1 i hi).1
    have b := (w.2.1 i hi).1
    have e1 : iI (i : Int) + 1 = iI ((i + 1 : Nat) : Int) := iN_add i 1
    have a4 : (4 : Int32) + iI (i : Int) = iI ((4 + i : Nat) : Int) := iN_add 4 i
    have ei : (iI ((4 + i : Nat) : Int)).toNatClampNeg = 4 + i := iI_clN (by omega)
    rw [gd_true (by decide), e0c, h.1.1, if_neg (by rw [iI_le (by omega) (by omega) (by omega) (by omega)]; omega), a4, gd_ix (by omega) (by omega) (by omega), ei, e, r_far _ _ _ (by omega) (by omega), bd_some, lt_def, lt_def, iN_add, e1]
    exact hnx _ _ ⟨rfl, rfl⟩
  · rintro nx _ _ ⟨rfl, rfl⟩
    rw [gd_true (by decide), e0c, h.1.1, if_pos (by rw [iI_le (by omega) (by omega) (by omega) (by omega)]; omega)]
    rfl
def meetN (t : TT) : Nat → Nat
  | 0 => 0
  | i + 1 => if farV t (meetN t i) ≤ farV t (i + 1) then meetN t i else i + 1
theorem meetN_le (t : TT) : ∀ i, meetN t i ≤ i
  | 0 => Nat.le_refl _
  | i + 1 => by
    have := meetN_le t i
    simp only [meetN]
    split <;> omega
theorem meet_s (t : TT) (i : Nat) : meetN t (i + 1) = if farV t (meetN t i) ≤ farV t (i + 1) then meetN t i else i + 1 := rfl
theorem c_meet {m : pw_Mem} {t : TT} (h : CT m 1 t) (w : WT t) : fX4_meetingPlace m = some (iI (meetN t 30 : Nat)) := by
  obtain ⟨R, hR⟩ : ∃ R, ∀ _ : Unit, meetN t 30 = R := ⟨_, fun _ => rfl⟩
  rw [hR ()]
  unfold fX4_meetingPlace
  refine lpI2 (fun i v1 v2 => v1 = iI (meetN t i : Nat) ∧ v2 = iI ((i + 1 : Nat) : Int)) (fun z => z = some (iI (R : Nat))) 30 (by omega) ?_ ?_ ⟨rfl, rfl⟩
  · rintro nx i _ _ hi ⟨rfl, rfl⟩ hnx
    have l := meetN_le t i
    have b1 : farV t (i + 1) ≤ 210 := farS_le w (by omega) (Nat.le_refl _)
    have b2 : farV t (meetN t i) ≤ 210 := farS_le w (by omega) (Nat.le_refl _)
    have e1 : iI ((i + 1 : Nat) : Int) + 1 = iI ((i + 1 + 1 : Nat) : Int) := iN_add (i + 1) 1
    have e30 : (30 : Int32) = iI 30 := rfl
    rw [e30, if_neg (by rw [iI_lt (by omega) (by omega) (by omega) (by omega)]; omega), c_farTo h w (by omega), bd_some, c_farTo h w (by omega), bd_some, jn_def, if_le (by omega) (by omega) (by omega) (by omega)]
    by_cases c : farV t (meetN t i) ≤ farV t (i + 1)
    · rw [if_pos (by omega)]
      simp only [lt_def, e1]
      exact hnx _ _ ⟨by rw [meet_s, if_pos c], rfl⟩
    · rw [if_neg (by omega)]
      simp only [lt_def, e1]
      exact hnx _ _ ⟨by rw [meet_s, if_neg c], rfl⟩
  · rintro nx _ _ ⟨rfl, rfl⟩
    have e30 : (30 : Int32) = iI 30 := rfl
    rw [e30, if_pos (by rw [iI_lt (by omega) (by omega) (by omega) (by omega)]; omega), hR ()]
theorem r_meet {m : pw_Mem} {t : TT} (h : RT m 72 t) (w : WT t) : fX11_christmasPlace m = some (iI (meetN t 30 : Nat)) := by
  obtain ⟨R, hR⟩ : ∃ R, ∀ _ : Unit, meetN t 30 = R := ⟨_, fun _ => rfl⟩
  rw [hR ()]
  unfold fX11_christmasPlace
  refine lpI2 (fun i v1 v2 => v1 = iI (meetN t i : Nat) ∧ v2 = iI ((i + 1 : Nat) : Int)) (fun z => z = some (iI (R : Nat))) 30 (by omega) ?_ ?_ ⟨rfl, rfl⟩
  · rintro nx i _ _ hi ⟨rfl, rfl⟩ hnx
    have l := meetN_le t i
    have b1 : farV t (i + 1) ≤ 210 := farS_le w (by omega) (Nat.le_refl _)
    have b2 : farV t (meetN t i) ≤ 210 := farS_le w (by omega) (Nat.le_refl _)
    have e1 : iI ((i + 1 : Nat) : Int) + 1 = iI ((i + 1 + 1 : Nat) : Int) := iN_add (i + 1) 1
    have e30 : (30 : Int32) = iI 30 := rfl
    rw [e30, if_neg (by rw [iI_lt (by omega) (by omega) (by omega) (by omega)]; omega), r_farAll h w (by omega), bd_some, r_farAll h w (by omega), bd_some, jn_def, if_le (by omega) (by omega) (by omega) (by omega)]
    by_cases c : farV t (meetN t i) ≤ farV t (i + 1)
    · rw [if_pos (by omega)]
      simp only [lt_def, e1]
      exact hnx _ _ ⟨by rw [meet_s, if_pos c], rfl⟩
    · rw [if_neg (by omega)]
      simp only [lt_def, e1]
      exact hnx _ _ ⟨by rw [meet_s, if_neg c], rfl⟩
  · rintro nx _ _ ⟨rfl, rfl⟩
    have e30 : (30 : Int32) = iI 30 := rfl
    rw [e30, if_pos (by rw [iI_lt (by omega) (by omega) (by omega) (by omega)]; omega), hR ()]
