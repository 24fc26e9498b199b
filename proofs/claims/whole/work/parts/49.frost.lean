/-! CALLS: frost -/
set_option maxRecDepth 100000
theorem op_calcR {α : Type} {m : pw_Mem} {f : pw_Mem → Option α} {g : pw_Mem → Option (α × pw_Mem)} {s : SS} (hC : CS m s) (hM : MS m s) (w : WS s) {r : α} (hc : f m = some r)
    (hm : ∃ m2, g m = some (r, m2) ∧ m2 71 5 = m 71 5 ∧ ∀ c, (c < 71 ∨ c = 72 ∨ c = 74 ∨ 80 ≤ c) → m2 c = m c) : OpRW f g m := by
  obtain ⟨m2, q2, f5, f2⟩ := hm
  exact ⟨r, m2, hc, q2, s, CS_m hC (fun c hc => f2 c (by omega)), MS_f hM f5 (fun c hc => f2 c (by omega)), w⟩
def anyC (t : TT) (c : Nat) : Bool := decide (msk (ovC t c) (tK t) ≠ 0)
theorem op_frost {m : pw_Mem} (hs : Sim m) (a : Int32) : OpRW (fX10_frost a) (fX11_frost a) m := by
  obtain ⟨s, hC, hM, w⟩ := hs
  obtain ⟨z, rfl, h1, h2⟩ := rg a
  have w1 := w.1.1
  have h7 := w1.1.1
  have hk := w1.1.2.1
  by_cases c : 0 ≤ z ∧ z ≤ 1
  · -- the class
    have cls : ∀ x : Int, x = 0 ∨ x = 1 → ∀ R : Int, ((∀ c, c < 10 → anyC s.1 c = false) → R = -4) → (∀ c b, c < 10 → b < tK s.1 → (∀ d, d < c → anyC s.1 d = false) → ovC s.1 c b = true → (∀ d, d < b → ovC s.1 c d = false) → R = if x = 0 then (b : Int) else (c : Int)) → fX2_firstFrost (iI x) m = some (iI R) := by
      intro x hx R hR1 hR2
      have n10 : ∀ i : Nat, i < 10 → ¬ (9 : Int32) < iI (i : Int) := fun i hi => by
        have e9 : (9 : Int32) = iI ((9 : Nat) : Int) := rfl
        rw [e9, iI_lt (by omega) (by omega) (by omega) (by omega)]
        omega
      have lowc : ∀ i, anyC s.1 i = false → msk (ovC s.1 i) (tK s.1) = 0 := fun i h => by
        unfold anyC at h
        have := of_decide_eq_false h
        omega
      unfold fX2_firstFrost
      rcases low_ex (anyC s.1) 10 with hn | ⟨c0, hc0, hc1, hlow⟩
      · rw [hR1 hn]
        refine lpI1 (fun i v => v = iI (i : Nat)) (fun r => r = _) 10 (by omega) ?_ ?_ rfl
        · rintro nx i _ hi rfl hnx
          have e1 : iI (i : Int) + 1 = iI ((i + 1 : Nat) : Int) := iN_add i 1
          rw [if_neg (n10 i hi), c_over hC.1 w1 (by omega), bd_some, lowc i (hn i hi), if_pos (by rfl), lt_def, e1]
          exact hnx _ rfl
        · rintro nx _ rfl
          rw [if_pos (by decide)]
          rfl
      · have cne : msk (ovC s.1 c0) (tK s.1) ≠ 0 := of_decide_eq_true hc1
        rcases low_ex (ovC s.1 c0) (tK s.1) with hn | ⟨b, hb, hb1, hb2⟩
        · exact absurd (msk_z hn) cne
        · have hm := msk_lt' (ovC s.1 c0) hk
          rw [hR2 c0 b hc0 hb hlow hb1 hb2]
          refine lpI1 (fun i v => v = iI (i : Nat)) (fun r => r = _) c0 (by omega) ?_ ?_ rfl
          · rintro nx i _ hi rfl hnx
            have e1 : iI (i : Int) + 1 = iI ((i + 1 : Nat) : Int) := iN_add i 1
            rw [if_neg (n10 i (by omega)), c_over hC.1 w1 (by omega), bd_some, lowc i (hlow i hi), if_pos (by rfl), lt_def, e1]
            exact hnx _ rfl
          · rintro nx _ rfl
            rw [if_neg (n10 c0 hc0), c_over hC.1 w1 (by omega), bd_some, if_neg (by rw [i0, iI_eq (by omega) (by omega) (by omega) (by omega)]; omega)]
            rcases hx with rfl | rfl
            · rw [if_pos (by rfl), c_lowestOf hk cne, bd_some, lowN_at hb1 (Nat.zero_le _) (by omega) hb2, if_pos rfl]
            · rw [if_neg (by decide), if_neg (by decide)]
    obtain ⟨R, hR1, hR2⟩ : ∃ R : Int, ((∀ c, c < 10 → anyC s.1 c = false) → R = -4) ∧ (∀ c b, c < 10 → b < tK s.1 → (∀ d, d < c → anyC s.1 d = false) → ovC s.1 c b = true → (∀ d, d < b → ovC s.1 c d = false) → R = if (1 - z) = 0 then (b : Int) else (c : Int)) := by
      have an : ∀ c b, b < tK s.1 → ovC s.1 c b = true → anyC s.1 c = true := fun c b hb h => decide_eq_true (fun e => by
        have := msk_0 e b hb
        rw [h] at this
        exact absurd this (by decide))
      rcases low_ex (anyC s.1) 10 with hn | ⟨c0, hc0, hc1, hlow⟩
      · refine ⟨-4, fun _ => rfl, fun c b h1 h2 _ h4 _ => ?_⟩
        have := hn c h1
        rw [an c b h2 h4] at this
        exact absurd this (by decide)
      · have cne : msk (ovC s.1 c0) (tK s.1) ≠ 0 := of_decide_eq_true hc1
        rcases low_ex (ovC s.1 c0) (tK s.1) with hn | ⟨b0, hb, hb1, hb2⟩
        · exact absurd (msk_z hn) cne
        · refine ⟨if (1 - z) = 0 then (b0 : Int) else (c0 : Int), fun h => ?_, fun c b h1 h2 h3 h4 h5 => ?_⟩
          · have := h c0 hc0
            rw [hc1] at this
            exact absurd this (by decide)
          · have ec : c = c0 := by
              rcases Nat.lt_trichotomy c c0 with q | q | q
              · have := hlow c q
                rw [an c b h2 h4] at this
                exact absurd this (by decide)
              · exact q
              · have := h3 c0 q
                rw [hc1] at this
                exact absurd this (by decide)
            subst ec
            have eb : b = b0 := by
              rcases Nat.lt_trichotomy b b0 with q | q | q
              · have := hb2 b q
                rw [h4] at this
                exact absurd this (by decide)
              · exact q
              · have := h5 b0 q
                rw [hb1] at this
                exact absurd this (by decide)
            rw [eb]
    refine op_calcR hC hM w (r := iI R) ?_ ?_
    · have q := cls (1 - z) (by omega) R hR1 hR2
      unfold fX10_frost
      rw [upTo1 _ h1 h2, bd_some, ite_dec, if_pos c]
      rcases (show z = 0 ∨ z = 1 by omega) with rfl | rfl
      · have q' : fX2_firstFrost 1 m = some (iI R) := q
        rw [if_pos (by rfl), q', bd_some]
      · have q' : fX2_firstFrost 0 m = some (iI R) := q
        rw [if_neg (by decide), q', bd_some]
    · obtain ⟨m2, q2, g2, f2⟩ := r_work hM w
      have n10 : ∀ i : Nat, i < 10 → ¬ (10 : Int32) ≤ iI (i : Int) := fun i hi => by
        have e9 : (10 : Int32) = iI ((10 : Nat) : Int) := rfl
        rw [e9, iI_le (by omega) (by omega) (by omega) (by omega)]
        omega
      have e3c : (3 : Int32).toNatClampNeg = 3 := rfl
      unfold fX11_frost
      rw [isIn01 _ h1 h2, bd_some, ite_dec, if_pos c, q2, bd_some]
      refine lpI2 (fun i v (m4 : pw_Mem) => v = iI (i : Nat) ∧ (∀ d, d < i → anyC s.1 d = false) ∧ (∃ x, RT m4 73 (sC s.1 x)) ∧ ∀ c, c ≠ 73 → m4 c = m c) (fun r => ∃ m2 : pw_Mem, r = some (iI R, m2) ∧ m2 71 5 = m 71 5 ∧ ∀ c, (c < 71 ∨ c = 72 ∨ c = 74 ∨ 80 ≤ c) → m2 c = m c) 10 (by omega) ?_ ?_ ⟨rfl, fun d hd => absurd hd (Nat.not_lt_zero d), ⟨tC s.1, g2⟩, f2⟩
      · rintro nx i _ m4 hi ⟨rfl, hlow, ⟨x, g4⟩, f4⟩ hnx
        have g7' := RT_cold (v := i) g4
        have g7 : RT (pw_up m4 73 3 (iI (i : Nat))) 73 (sC s.1 i) := g7'
        have w7 : WT (sC s.1 i) := WT_C w1 (by omega)
        have f7 : ∀ c, c ≠ 73 → pw_up m4 73 3 (iI (i : Nat)) c = m c := fun c hc => by rw [up_oc hc, f4 c hc]
        have eK : pw_up m4 73 3 (iI (i : Nat)) 73 (1 : Int32).toNatClampNeg = iI (tK s.1 : Nat) := g7.1.2.1
        have e1 : iI (i : Int) + 1 = iI ((i + 1 : Nat) : Int) := iN_add i 1
        have eo : ∀ b, ovr (sC s.1 i) b = ovC s.1 i b := fun _ => rfl
        rw [if_neg (n10 i hi), gd_true (by decide), lt_def, e3c]
        rcases low_ex (ovC s.1 i) (tK s.1) with hn | ⟨b, hb, hb1, hb2⟩
        · refine lpI1 (fun j v => v = iI (j : Nat)) (fun r => ∃ m2 : pw_Mem, r = some (iI R, m2) ∧ m2 71 5 = m 71 5 ∧ ∀ c, (c < 71 ∨ c = 72 ∨ c = 74 ∨ 80 ≤ c) → m2 c = m c) (tK s.1) (by omega) ?_ ?_ rfl
          · rintro nx2 j _ hj rfl hnx2
            have e2 : iI (j : Int) + 1 = iI ((j + 1 : Nat) : Int) := iN_add j 1
            rw [gd_true (by decide), eK, if_neg (by rw [iI_le (by omega) (by omega) (by omega) (by omega)]; omega), r_isOver g7 w7 hj, bd_some, eo, hn j hj, if_neg (by decide), lt_def, e2]
            exact hnx2 _ rfl
          · rintro nx2 _ rfl
            rw [gd_true (by decide), eK, if_pos (by rw [iI_le (by omega) (by omega) (by omega) (by omega)]; omega), lt_def, e1]
            refine hnx _ _ ⟨rfl, fun d hd => ?_, ⟨i, g7⟩, f7⟩
            by_cases e : d = i
            · subst e
              unfold anyC
              rw [msk_z hn]
              rfl
            · exact hlow d (by omega)
        · have er := hR2 i b hi hb hlow hb1 hb2
          refine lpI1 (fun j v => v = iI (j : Nat)) (fun r => ∃ m2 : pw_Mem, r = some (iI R, m2) ∧ m2 71 5 = m 71 5 ∧ ∀ c, (c < 71 ∨ c = 72 ∨ c = 74 ∨ 80 ≤ c) → m2 c = m c) b (by omega) ?_ ?_ rfl
          · rintro nx2 j _ hj rfl hnx2
            have e2 : iI (j : Int) + 1 = iI ((j + 1 : Nat) : Int) := iN_add j 1
            rw [gd_true (by decide), eK, if_neg (by rw [iI_le (by omega) (by omega) (by omega) (by omega)]; omega), r_isOver g7 w7 (show j < tK s.1 by omega), bd_some, eo, hb2 j hj, if_neg (by decide), lt_def, e2]
            exact hnx2 _ rfl
          · rintro nx2 _ rfl
            rw [gd_true (by decide), eK, if_neg (by rw [iI_le (by omega) (by omega) (by omega) (by omega)]; omega), r_isOver g7 w7 hb, bd_some, eo, hb1, if_pos rfl, er]
            have hF : pw_up m4 73 3 (iI (i : Nat)) 71 5 = m 71 5 ∧ ∀ c, (c < 71 ∨ c = 72 ∨ c = 74 ∨ 80 ≤ c) → pw_up m4 73 3 (iI (i : Nat)) c = m c := ⟨by rw [f7 71 (by omega)], fun c hc => f7 c (by omega)⟩
            rcases (show z = 0 ∨ z = 1 by omega) with rfl | rfl
            · rw [if_pos (by rfl), if_neg (by decide)]
              exact ⟨_, rfl, hF⟩
            · rw [if_neg (by decide), if_pos (by decide)]
              exact ⟨_, rfl, hF⟩
      · rintro nx _ m4 ⟨rfl, hlow, -, f4⟩
        rw [if_pos (by decide), hR1 hlow]
        exact ⟨m4, rfl, by rw [f4 71 (by omega)], fun c hc => f4 c (by omega)⟩
  · refine op_calcR hC hM w (r := -1) ?_ ⟨m, ?_, rfl, fun _ _ => rfl⟩
    · unfold fX10_frost
      rw [upTo1 _ h1 h2, bd_some, ite_dec, if_neg c]
    · unfold fX11_frost
      rw [isIn01 _ h1 h2, bd_some, ite_dec, if_neg c]
