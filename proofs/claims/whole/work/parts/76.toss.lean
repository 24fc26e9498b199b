/-! toss and element: both sides alike -/
theorem c_fail (k f : Nat) (hk : k ≤ 7) (hf : f ≤ 9) : fX3_fail (iI k) (iI f) = some (if f = 0 then 0 else if k = 3 then 0 else if k = 7 then 0 else if k = 2 then 1 else if k = 1 then 2 else if k = 5 then 2 else 3) := by
  have h : ∀ k : Fin 8, ∀ f : Fin 10, fX3_fail (iI (k : Nat)) (iI (f : Nat)) = some (if (f : Nat) = 0 then 0 else if (k : Nat) = 3 then 0 else if (k : Nat) = 7 then 0 else if (k : Nat) = 2 then 1 else if (k : Nat) = 1 then 2 else if (k : Nat) = 5 then 2 else 3) := by decide +kernel
  exact h ⟨k, by omega⟩ ⟨f, by omega⟩
theorem c_tossed (k f : Nat) (m : pw_Mem) (hk : k ≤ 7) (hf : f ≤ 9) : (bd (fX3_fail (iI k) (iI f)) fun n => fX10_tossK (iI k) (iI f) m n) = some (iI (if f = 0 ∨ k = 3 ∨ k = 7 then -15 else if k = 2 then ((200 + cst k f : Nat) : Int) else if k = 1 ∨ k = 5 then ((100 + f : Nat) : Int) else ((f : Nat) : Int))) := by
  rw [c_fail k f hk hf, bd_some]
  by_cases f0 : f = 0
  · rw [if_pos f0, if_pos (Or.inl f0)]
    rfl
  · rw [if_neg f0]
    by_cases k3 : k = 3
    · rw [if_pos k3, if_pos (Or.inr (Or.inl k3))]
      rfl
    · rw [if_neg k3]
      by_cases k7 : k = 7
      · rw [if_pos k7, if_pos (Or.inr (Or.inr k7))]
        rfl
      · rw [if_neg k7, if_neg (show ¬ (f = 0 ∨ k = 3 ∨ k = 7) by omega)]
        by_cases k2 : k = 2
        · rw [if_pos k2, if_pos k2]
          show (bd (fX3_costs (iI k) (iI f) m) fun y => some ((200 : Int32) + y)) = _
          rw [c_costs k f m hk hf, bd_some]
          have e : (200 : Int32) = iI ((200 : Nat) : Int) := rfl
          rw [e, iN_add]
        · rw [if_neg k2, if_neg k2]
          by_cases k1 : k = 1
          · rw [if_pos k1, if_pos (Or.inl k1)]
            show some ((100 : Int32) + iI f) = _
            have e : (100 : Int32) = iI ((100 : Nat) : Int) := rfl
            rw [e, iN_add]
          · rw [if_neg k1]
            by_cases k5 : k = 5
            · rw [if_pos k5, if_pos (Or.inr k5)]
              show some ((100 : Int32) + iI f) = _
              have e : (100 : Int32) = iI ((100 : Nat) : Int) := rfl
              rw [e, iN_add]
            · rw [if_neg k5, if_neg (by omega)]
              rfl
theorem r_tossed (k f : Nat) (m : pw_Mem) (hk : k ≤ 7) (hf : f ≤ 9) : (if iI k = (3 : Int32) then some (-15 : Int32) else if iI k = (7 : Int32) then some (-15 : Int32) else if iI f = 0 then some (-15 : Int32) else if iI k = (2 : Int32) then bd (fX11_costBy (iI k) (iI f) m) fun y8 => some ((200 : Int32) + y8) else if iI k = (1 : Int32) then some ((100 : Int32) + iI f) else if iI k = (5 : Int32) then some ((100 : Int32) + iI f) else some (iI f)) = some (iI (if f = 0 ∨ k = 3 ∨ k = 7 then -15 else if k = 2 then ((200 + cst k f : Nat) : Int) else if k = 1 ∨ k = 5 then ((100 + f : Nat) : Int) else ((f : Nat) : Int))) := by
  have key : ∀ n : Nat, n ≤ 7 → (iI (k : Int) = iI (n : Int) ↔ k = n) := fun n hn => by
    rw [iI_eq (by omega) (by omega) (by omega) (by omega)]
    omega
  have e3 : iI (k : Int) = (3 : Int32) ↔ k = 3 := key 3 (by omega)
  have e7 : iI (k : Int) = (7 : Int32) ↔ k = 7 := key 7 (by omega)
  have e2 : iI (k : Int) = (2 : Int32) ↔ k = 2 := key 2 (by omega)
  have e1 : iI (k : Int) = (1 : Int32) ↔ k = 1 := key 1 (by omega)
  have e5 : iI (k : Int) = (5 : Int32) ↔ k = 5 := key 5 (by omega)
  have e0 : iI (f : Int) = 0 ↔ f = 0 := by
    rw [show (0 : Int32) = iI ((0 : Nat) : Int) from rfl, iI_eq (by omega) (by omega) (by omega) (by omega)]
    omega
  have m15 : (-15 : Int32) = iI (-15) := rfl
  by_cases k3 : k = 3
  · rw [if_pos (e3.mpr k3), if_pos (Or.inr (Or.inl k3)), m15]
  · rw [if_neg (fun h => k3 (e3.mp h))]
    by_cases k7 : k = 7
    · rw [if_pos (e7.mpr k7), if_pos (Or.inr (Or.inr k7)), m15]
    · rw [if_neg (fun h => k7 (e7.mp h))]
      by_cases f0 : f = 0
      · rw [if_pos (e0.mpr f0), if_pos (Or.inl f0), m15]
      · rw [if_neg (fun h => f0 (e0.mp h)), if_neg (show ¬ (f = 0 ∨ k = 3 ∨ k = 7) by omega)]
        by_cases k2 : k = 2
        · rw [if_pos (e2.mpr k2), if_pos k2, r_costBy k f m hk hf, bd_some]
          have e : (200 : Int32) = iI ((200 : Nat) : Int) := rfl
          rw [e, iN_add]
        · rw [if_neg (fun h => k2 (e2.mp h)), if_neg k2]
          have e : (100 : Int32) = iI ((100 : Nat) : Int) := rfl
          by_cases k1 : k = 1
          · rw [if_pos (e1.mpr k1), if_pos (Or.inl k1), e, iN_add]
          · rw [if_neg (fun h => k1 (e1.mp h))]
            by_cases k5 : k = 5
            · rw [if_pos (e5.mpr k5), if_pos (Or.inr k5), e, iN_add]
            · rw [if_neg (fun h => k5 (e5.mp h)), if_neg (by omega)]
theorem op_toss {m : pw_Mem} (hs : Sim m) (a : Int32) : OpRR (fX10_toss a) (fX11_toss a) m := by
  obtain ⟨s, hC, hM, w⟩ := hs
  obtain ⟨d, rfl, h1, h2⟩ := rg a
  have kb := noKind_b s d
  unfold OpRR fX10_toss fX11_toss
  rw [c_kindRef hC w h1 h2, r_wrongKept hM w h1 h2, bd_some, bd_some]
  by_cases c : noKind s d = 0
  · obtain ⟨n, hd, rfl, hh⟩ := noKind_0 w c
    obtain ⟨hk7, hf9⟩ := (w.2.2 n hd).2.1 hh
    obtain ⟨e2, e3⟩ := (hC.2.2.2 n hd).2.1 hh
    obtain ⟨e4, e5⟩ := (hM.2.2.2 n hd).2.1 hh
    have r0 : iI (noKind s (n : Int)) = 0 := congrArg iI c
    rw [if_pos r0, if_pos r0]
    simp (disch := omega) only [gd_ix, iI_clN, e2, e3, e4, e5, lt_def]
    rw [c_tossed _ _ _ hk7 hf9, r_tossed _ _ _ hk7 hf9]
    exact ⟨_, rfl, rfl⟩
  · have r0 : ¬ iI (noKind s d) = 0 := by
      rw [show (0 : Int32) = iI ((0 : Nat) : Int) from rfl, iI_eq (by omega) (by omega) (by omega) (by omega)]
      exact c
    rw [if_neg r0, if_neg r0]
    exact ⟨_, rfl, rfl⟩
/-- both sides' elements: the same fault; the same element; the reference's memory -/
def OpEl (a1 a2 : Int32) (m : pw_Mem) : Prop := ∃ (n : Nat) (v : Int64) (u : Int64) (m2 : pw_Mem), fX10_element a1 a2 m = some (n, v) ∧ fX11_element a1 a2 m = some (u, m2) ∧ fX11_thrown m2 = some (px_k n) ∧ (px_k n = 0 → n = 0 ∧ v = u) ∧ Sim m2
theorem op_element {m : pw_Mem} (hs : Sim m) (a1 a2 : Int32) : OpEl a1 a2 m := by
  obtain ⟨s, hC, hM, w⟩ := hs
  obtain ⟨d, rfl, h1, h2⟩ := rg a1
  obtain ⟨x, rfl, h3, h4⟩ := rg a2
  have fin : ∀ t : Int32, Sim (pw_up m 71 21 t) := fun t => ⟨s, CS_f hC (fun c hc => up_oc (by omega)), MS_f hM (up_ne (by omega)) (fun c hc => up_oc (by omega)), w⟩
  have th : ∀ t : Int32, fX11_thrown (pw_up m 71 21 t) = some t := fun t => by
    show some (pw_up m 71 21 t 71 21) = _
    rw [up_eq]
  have z0 : ¬ (1 : Int32) = 0 := by decide
  have z2 : ¬ (2 : Int32) = 0 := by decide
  unfold OpEl fX10_element fX11_element
  rw [c_isShelf m h1 h2, r_isShelf m h1 h2, bd_some, bd_some]
  simp only [jn_def, lt_def, up_eq, decide_eq_true_eq]
  by_cases cd : 0 ≤ d ∧ d < 8
  · obtain ⟨n, rfl⟩ := Int.eq_ofNat_of_zero_le cd.1
    have hd : n < 8 := by omega
    have e0 := (hC.2.2.2 n hd).1
    have e1 := (hM.2.2.2 n hd).1
    have w0 := (w.2.2 n hd).1
    simp (disch := omega) only [if_pos cd, gd_ix, iI_clN, e0, e1]
    have e2 : ∀ b : Nat, b ≤ 2 → (iI (b : Int) = (2 : Int32) ↔ b = 2) := fun b hb => by
      rw [show (2 : Int32) = iI ((2 : Nat) : Int) from rfl, iI_eq (by omega) (by omega) (by omega) (by omega)]
      omega
    by_cases hh : hH (s.2.2 n) = 2
    · obtain ⟨e4, e5, e6⟩ := (hC.2.2.2 n hd).2.2 hh
      obtain ⟨r4, r5, r6⟩ := (hM.2.2.2 n hd).2.2 hh
      obtain ⟨w3, wL, wE⟩ := (w.2.2 n hd).2.2 hh
      have p2 := (e2 _ w0).mpr hh
      have hp : fX5_hasPlace (55 + 2 * n) (iI x) m = some (decide (0 ≤ x ∧ x < hL (s.2.2 n))) := by
        unfold fX5_hasPlace
        simp (disch := omega) only [i0, iI_lt, iI_le, e5]
        by_cases c1 : x < ((0 : Nat) : Int)
        · rw [if_pos c1, decide_eq_false (by omega)]
        · rw [if_neg c1]
          by_cases c2 : (hL (s.2.2 n) : Int) ≤ x
          · rw [if_pos c2, decide_eq_false (by omega)]
          · rw [if_neg c2, decide_eq_true (by omega)]
      have hq : fX11_isIn (iI x) 0 (iI (hL (s.2.2 n)) - 1) m = some (decide (0 ≤ x ∧ x < hL (s.2.2 n))) := by
        have e : iI (hL (s.2.2 n)) - 1 = iI ((hL (s.2.2 n) : Int) - 1) := iI_sub _ 1
        rw [e, i0, r_isIn _ _ _ m ⟨by omega, by omega⟩ ⟨by omega, by omega⟩ ⟨by omega, by omega⟩]
        congr 1
        by_cases c1 : 0 ≤ x ∧ x < hL (s.2.2 n)
        · rw [decide_eq_true c1, decide_eq_true (by omega)]
        · rw [decide_eq_false c1, decide_eq_false (by omega)]
      rw [if_pos p2, if_pos p2]
      simp (disch := omega) only [r5, iI_clN]
      rw [hp, hq, bd_some, bd_some]
      simp only [decide_eq_true_eq]
      by_cases cx : 0 ≤ x ∧ x < hL (s.2.2 n)
      · obtain ⟨k, rfl⟩ := Int.eq_ofNat_of_zero_le cx.1
        have hk : k < hL (s.2.2 n) := by omega
        obtain ⟨q1, q2, q3, q4⟩ := r_el hM w hd hh hk
        rw [if_pos cx, if_pos cx, c_at hC w hd hh hk, bd_some, if_pos trivial, q1, gd_ix (by omega) (by omega) (by omega)]
        refine ⟨0, _, _, _, rfl, rfl, th 0, fun _ => ⟨rfl, ?_⟩, fin 0⟩
        rw [up_o (by omega), q2]
      · rw [if_neg cx, if_neg cx, if_neg z2]
        exact ⟨2, _, _, _, rfl, rfl, th 2, fun h => absurd h (by decide), fin 2⟩
    · have p2 : ¬ iI (hH (s.2.2 n) : Int) = (2 : Int32) := fun h => hh ((e2 _ w0).mp h)
      rw [if_neg p2, if_neg p2, if_neg z2]
      exact ⟨2, _, _, _, rfl, rfl, th 2, fun h => absurd h (by decide), fin 2⟩
  · rw [if_neg cd, if_neg cd, if_neg z0]
    exact ⟨1, _, _, _, rfl, rfl, th 1, fun h => absurd h (by decide), fin 1⟩
