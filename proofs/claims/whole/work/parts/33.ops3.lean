/-! CALLS: ties, image, restore, count, cost, keep, row, put, copy -/
set_option maxRecDepth 100000
theorem msk_sub1 (k : Nat) : iI ((k + 1 : Nat) : Int) - iI ((1 : Nat) : Int) = iI (k : Int) := by
  rw [iI_sub]
  exact congrArg iI (by omega)
theorem op_ties {m : pw_Mem} (hs : Sim m) (a b c : Int32) : OpWW (fX10_ties a b c) (fX11_ties a b c) m := by
  have hs0 := hs
  obtain ⟨s, hC, hM, w⟩ := hs
  obtain ⟨d, rfl, h1, h2⟩ := rg a
  obtain ⟨y, rfl, h3, h4⟩ := rg b
  obtain ⟨z, rfl, h5, h6⟩ := rg c
  have w1 := w.1.1
  have h7 := w1.1.1
  have hk := w1.1.2.1
  have kb : -100 ≤ noKind s d ∧ noKind s d ≤ 0 := by
    unfold noKind
    split
    · split
      · omega
      · split <;> omega
    · omega
  by_cases c2 : (0 ≤ y ∧ y < tN s.1) ∧ (0 ≤ z ∧ z < tN s.1) ∧ y ≠ z
  · by_cases c1 : noKind s d = 0
    · have cd : 0 ≤ d ∧ d < 8 := by
        unfold noKind at c1
        by_cases q : 0 ≤ d ∧ d < 8
        · exact q
        · rw [if_neg q] at c1
          omega
      obtain ⟨n, rfl⟩ := Int.eq_ofNat_of_zero_le cd.1
      have hd : n < 8 := by omega
      have hh : hH (s.2.2 n) = 1 := by
        unfold noKind at c1
        rw [if_pos cd, Int.toNat_natCast] at c1
        have := (w.2.2 n hd).1
        split at c1
        · omega
        · split at c1
          · omega
          · omega
      obtain ⟨hk7, hf9⟩ := (w.2.2 n hd).2.1 hh
      by_cases c10 : tK s.1 = 10
      · refine op_same hs0 (r := -2) ?_ ?_
        · unfold fX10_ties
          simp (disch := omega) only [c_isShelf, bd_some, ite_dec, c_areTwo hC.1 w1, c_kindRef hC w, c1, hC.1.1.2.1, iN_lit, iI_lt]
          rw [if_pos cd, if_pos c2, if_pos (by rfl), if_neg (by omega)]
        · unfold fX11_ties
          simp (disch := omega) only [r_areTwo hM.1 w1, bd_some, ite_dec, r_wrongKept hM w, c1, iN_lit, gd_ix, iI_clN, hM.1.1.2.1, iI_eq]
          rw [if_pos c2, if_pos (by rfl), if_pos (by omega)]
      · obtain ⟨p, rfl⟩ := Int.eq_ofNat_of_zero_le c2.1.1
        obtain ⟨q, rfl⟩ := Int.eq_ofNat_of_zero_le c2.2.1.1
        refine op_town hC hM w (r := iI (tK s.1)) (t := tryT (addB s.1 (hK (s.2.2 n)) (hF (s.2.2 n)) p q)) ⟨WT_tryT (WT_addB w1 hk7 hf9 (by omega) (by omega) (by omega) (by omega)), w.1.2.1, Calm_try _⟩ ?_ ?_
        · obtain ⟨m1, q1, g1, f1⟩ := c_addBand hC.1 w1 hk7 hf9 (a := p) (b := q) (by omega) (by omega) (by omega) (by omega)
          obtain ⟨e2, e3⟩ := (hC.2.2.2 n hd).2.1 hh
          refine ⟨m1, ?_, g1, fun c hc => f1 c (by omega)⟩
          unfold fX10_ties
          simp (disch := omega) only [c_isShelf, bd_some, ite_dec, c_areTwo hC.1 w1, c_kindRef hC w, c1, hC.1.1.2.1, iN_lit, iI_lt, gd_ix, iI_clN, e2, e3, q1, bd2_some]
          rw [if_pos cd, if_pos c2, if_pos (by rfl), if_pos (by omega)]
        · intro m1 hM1
          obtain ⟨m2, q2, g2, f2⟩ := r_adds hM1.1 w1 hk7 hf9 (a := p) (b := q) (by omega) (by omega) (by omega) (by omega)
          obtain ⟨e2, e3⟩ := (hM1.2.2.2 n hd).2.1 hh
          have e4 : m2 72 1 = iI ((tK s.1 + 1 : Nat) : Int) := g2.1.2.1
          refine ⟨m2, ?_, g2, by rw [f2 71 (by omega)], fun c _ hc _ _ _ _ _ _ => f2 c hc⟩
          unfold fX11_ties
          simp (disch := omega) only [r_areTwo hM1.1 w1, bd_some, ite_dec, r_wrongKept hM1 w, c1, iN_lit, gd_ix, iI_clN, hM1.1.1.2.1, iI_eq, e2, e3, q2, e4, msk_sub1]
          rw [if_pos c2, if_pos (by rfl), if_neg (by omega)]
    · have c1' : ¬ iI (noKind s d) = iI ((0 : Nat) : Int) := by
        rw [iI_eq (by omega) (by omega) (by omega) (by omega)]
        exact c1
      by_cases cd : 0 ≤ d ∧ d < 8
      · refine op_same hs0 (r := iI (noKind s d)) ?_ ?_
        · unfold fX10_ties
          simp (disch := omega) only [c_isShelf, bd_some, ite_dec, c_areTwo hC.1 w1, c_kindRef hC w, iN_lit]
          rw [if_pos cd, if_pos c2, if_neg c1']
        · unfold fX11_ties
          simp (disch := omega) only [r_areTwo hM.1 w1, bd_some, ite_dec, r_wrongKept hM w, iN_lit]
          rw [if_pos c2, if_neg c1']
      · refine op_same hs0 (r := -1) ?_ ?_
        · unfold fX10_ties
          simp (disch := omega) only [c_isShelf, bd_some, ite_dec]
          rw [if_neg cd]
        · unfold fX11_ties
          simp (disch := omega) only [r_areTwo hM.1 w1, bd_some, ite_dec, r_wrongKept hM w, iN_lit]
          rw [if_pos c2, if_neg c1']
          unfold noKind
          rw [if_neg cd]
          rfl
  · refine op_same hs0 (r := -1) ?_ ?_
    · unfold fX10_ties
      simp (disch := omega) only [c_isShelf, bd_some, ite_dec, c_areTwo hC.1 w1]
      by_cases cd : 0 ≤ d ∧ d < 8
      · rw [if_pos cd, if_neg c2]
      · rw [if_neg cd]
    · unfold fX11_ties
      simp (disch := omega) only [r_areTwo hM.1 w1, bd_some, ite_dec]
      rw [if_neg c2]
theorem op_image {m : pw_Mem} (hs : Sim m) : OpWW fX10_image fX11_image m := by
  obtain ⟨s, hC, hM, w⟩ := hs
  have w1 := w.1.1
  obtain ⟨m1, q1, g1, f1⟩ := c_becomes hC.1 w1 (o := 25) (by omega)
  have k1 : CT (pw_up m1 0 10 (1 : Int32)) 25 s.1 := CT_frame g1 (fun c h1 h2 => up_oc (by omega))
  have k2 : CT (pw_up m1 0 10 (1 : Int32)) 1 s.1 := CT_frame hC.1 (fun c h1 h2 => by rw [up_oc (by omega), f1 c (by omega)])
  have hM1 : MS (pw_up m1 0 10 (1 : Int32)) s := MS_c hM (fun c hc => by rw [up_oc (by omega), f1 c (by omega)])
  obtain ⟨m2, q2, g2, f2⟩ := r_copies (pw_up m1 0 10 (1 : Int32)) (o1 := 72) (o2 := 74) (by omega)
  have k3 : RT (pw_up m2 71 5 (1 : Int32)) 74 s.1 := RT_frame (RT_copy hM1.1 w1 g2) (up_oc (by omega))
  have k4 : RT (pw_up m2 71 5 (1 : Int32)) 72 s.1 := RT_frame hM1.1 (by rw [up_oc (by omega), f2 72 (by omega)])
  refine ⟨iI (tY s.1), pw_up m1 0 10 (1 : Int32), pw_up m2 71 5 (1 : Int32), ?_, ?_, (s.1, some s.1, s.2.2), ⟨?_, ?_, ?_, ?_⟩, ⟨k4, ?_, ?_, ?_⟩, w.1, ?_, w.2.2⟩
  · unfold fX10_image
    rw [q1, bd_some, lt_def, k2.1.2.2.2.2]
  · unfold fX11_image
    have e := k4.1.2.2.1
    rw [q2, bd_some, lt_def]
    simp (disch := omega) only [iN_lit, gd_ix, iI_clN] at e ⊢
    rw [e]
  · exact CT_frame k2 (fun c h1 h2 => by rw [up_oc (by omega), f2 c (by omega)])
  · rw [up_oc (by omega), f2 0 (by omega), up_eq]
    rfl
  · intro ti hti
    cases hti
    exact CT_frame k1 (fun c h1 h2 => by rw [up_oc (by omega), f2 c (by omega)])
  · intro d hd
    exact CSh_f (hC.2.2.2 d hd) (by rw [up_oc (by omega), f2 _ (by omega), up_oc (by omega), f1 _ (by omega)]) (by rw [up_oc (by omega), f2 _ (by omega), up_oc (by omega), f1 _ (by omega)])
  · rw [up_eq]
    rfl
  · intro ti hti
    cases hti
    exact k3
  · intro d hd
    have := hM1.2.2.2 d hd
    unfold MSh at this ⊢
    simp (disch := omega) only [up_oc, f2]
    simp (disch := omega) only [up_oc] at this
    exact this
  · intro ti hti
    cases hti
    exact w.1
theorem op_restore {m : pw_Mem} (hs : Sim m) : OpWW fX10_restore fX11_restore m := by
  have hs0 := hs
  obtain ⟨s, hC, hM, w⟩ := hs
  obtain ⟨t, oi, sh⟩ := s
  cases oi with
  | none =>
    have e1 : m 0 10 = 0 := hC.2.1
    have e2 : m 71 5 = 0 := hM.2.1
    refine op_same hs0 (r := -3) ?_ ?_
    · unfold fX10_restore
      rw [e1, if_pos rfl]
    · unfold fX11_restore
      rw [e2, if_pos rfl]
  | some ti =>
    have e1 : m 0 10 = 1 := hC.2.1
    have e2 : m 71 5 = 1 := hM.2.1
    have wi := (w.2.1 ti rfl)
    refine op_town hC hM w (r := iI (tY ti)) (t := ti) wi ?_ ?_
    · obtain ⟨m1, q1, g1, f1⟩ := c_becomes (hC.2.2.1 ti rfl) wi.1 (o := 1) (by omega)
      refine ⟨m1, ?_, g1, fun c hc => f1 c (by omega)⟩
      unfold fX10_restore
      rw [e1, if_neg (by decide), q1, bd_some, g1.1.2.2.2.2]
    · intro m1 hM1
      have e2 : m1 71 5 = 1 := hM1.2.1
      obtain ⟨m2, q2, g2, f2⟩ := r_copies m1 (o1 := 74) (o2 := 72) (by omega)
      have k := RT_copy (hM1.2.2.1 ti rfl) wi.1 g2
      refine ⟨m2, ?_, k, by rw [f2 71 (by omega)], fun c _ hc _ _ _ _ _ _ => f2 c hc⟩
      unfold fX11_restore
      have e := k.1.2.2.1
      rw [e2, if_neg (by decide), q2, bd_some]
      simp (disch := omega) only [iN_lit, gd_ix, iI_clN] at e ⊢
      rw [e]
theorem noKind_b (s : SS) (d : Int) : -100 ≤ noKind s d ∧ noKind s d ≤ 0 := by
  unfold noKind
  split
  · split
    · omega
    · split <;> omega
  · omega
theorem noRow_b (s : SS) (d q : Int) : -100 ≤ noRow s d q ∧ noRow s d q ≤ 0 := by
  unfold noRow
  split
  · split
    · omega
    · split
      · split <;> omega
      · omega
  · omega
theorem noKind_0 {s : SS} (w : WS s) {d : Int} (h : noKind s d = 0) : ∃ n : Nat, n < 8 ∧ d = n ∧ hH (s.2.2 n) = 1 := by
  unfold noKind at h
  by_cases cd : 0 ≤ d ∧ d < 8
  · obtain ⟨n, rfl⟩ := Int.eq_ofNat_of_zero_le cd.1
    have hd : n < 8 := by omega
    refine ⟨n, hd, rfl, ?_⟩
    rw [if_pos cd, Int.toNat_natCast] at h
    have := (w.2.2 n hd).1
    split at h
    · omega
    · split at h
      · omega
      · omega
  · rw [if_neg cd] at h
    omega
theorem noRow_0 {s : SS} {d q : Int} (h : noRow s d q = 0) : ∃ n : Nat, n < 8 ∧ d = n ∧ hH (s.2.2 n) = 2 ∧ (q < 0 ∨ (hS (s.2.2 n) : Int) = q) := by
  unfold noRow at h
  by_cases cd : 0 ≤ d ∧ d < 8
  · obtain ⟨n, rfl⟩ := Int.eq_ofNat_of_zero_le cd.1
    have hd : n < 8 := by omega
    rw [if_pos cd, Int.toNat_natCast] at h
    by_cases c0 : hH (s.2.2 n) = 0
    · rw [if_pos c0] at h
      omega
    · rw [if_neg c0] at h
      by_cases c2 : hH (s.2.2 n) = 2
      · rw [if_pos c2] at h
        by_cases c3 : q < 0 ∨ (hS (s.2.2 n) : Int) = q
        · exact ⟨n, hd, rfl, c2, c3⟩
        · rw [if_neg c3] at h
          omega
      · rw [if_neg c2] at h
        omega
  · rw [if_neg cd] at h
    omega
theorem op_cost {m : pw_Mem} (hs : Sim m) (a : Int32) : OpRR (fX10_cost a) (fX11_cost a) m := by
  obtain ⟨s, hC, hM, w⟩ := hs
  obtain ⟨d, rfl, h1, h2⟩ := rg a
  have kb := noKind_b s d
  unfold OpRR fX10_cost fX11_cost
  simp (disch := omega) only [c_kindRef hC w, r_wrongKept hM w, bd_some, iN_lit, iI_eq]
  by_cases c : noKind s d = 0
  · obtain ⟨n, hd, rfl, hh⟩ := noKind_0 w c
    obtain ⟨hk7, hf9⟩ := (w.2.2 n hd).2.1 hh
    obtain ⟨e2, e3⟩ := (hC.2.2.2 n hd).2.1 hh
    obtain ⟨e4, e5⟩ := (hM.2.2.2 n hd).2.1 hh
    simp (disch := omega) only [gd_ix, iI_clN, e2, e3, e4, e5, c_costs, r_costBy, bd_some]
    rw [if_pos (show noKind s (n : Int) = ((0 : Nat) : Int) from c)]
    exact ⟨_, rfl, rfl⟩
  · have c' : ¬ noKind s d = ((0 : Nat) : Int) := c
    rw [if_neg c', if_neg c']
    exact ⟨_, rfl, rfl⟩
theorem c_allStung {m : pw_Mem} {o : Nat} {t : TT} (h : CT m o t) (w : WT t) : fX7_allStung o m = some (iI ((sumN (tS t) (tN t) : Nat) : Int)) := by
  have h7 := w.1.1
  unfold fX7_allStung
  refine lpI2 (fun i v1 v2 => v1 = iI ((sumN (tS t) i : Nat) : Int) ∧ v2 = iI (i : Nat)) (fun x => x = _) (tN t) (by omega) ?_ ?_ ⟨rfl, rfl⟩
  · rintro nx i _ _ hi ⟨rfl, rfl⟩ hnx
    have e := (h.2.1 i hi).2
    simp (disch := omega) only [iN_lit, gd_ix, iI_clN, h.1.1, iI_le, lt_def, e, iN_add]
    rw [if_neg (by omega)]
    exact hnx _ _ ⟨rfl, rfl⟩
  · rintro nx _ _ ⟨rfl, rfl⟩
    simp (disch := omega) only [h.1.1, iI_le]
    rw [if_pos (by omega)]
theorem r_stungAll {m : pw_Mem} {o : Nat} {t : TT} (h : RT m o t) (w : WT t) : fX11_stungAll o m = some (iI ((sumN (tS t) (tN t) : Nat) : Int)) := by
  have h7 := w.1.1
  unfold fX11_stungAll
  refine lpI2 (fun i v1 v2 => v1 = iI ((sumN (tS t) i : Nat) : Int) ∧ v2 = iI (i : Nat)) (fun x => x = _) (tN t) (by omega) ?_ ?_ ⟨rfl, rfl⟩
  · rintro nx i _ _ hi ⟨rfl, rfl⟩ hnx
    have e := (h.2.1 i hi).2
    simp (disch := omega) only [iN_lit, gd_ix, iI_clN, h.1.1, iI_le, lt_def, iN_add, e]
    rw [if_neg (by omega)]
    exact hnx _ _ ⟨rfl, rfl⟩
  · rintro nx _ _ ⟨rfl, rfl⟩
    simp (disch := omega) only [iN_lit, gd_ix, iI_clN, h.1.1, iI_le]
    rw [if_pos (by omega)]
theorem c_allPull {m : pw_Mem} {o : Nat} {t : TT} (h : CT m o t) (w : WT t) : fX7_allPull o m = some (iI ((sumN (pul t) (tK t) : Nat) : Int)) := by
  have h7 := w.1.2.1
  unfold fX7_allPull
  refine lpI2 (fun i v1 v2 => v1 = iI ((sumN (pul t) i : Nat) : Int) ∧ v2 = iI (i : Nat)) (fun x => x = _) (tK t) (by omega) ?_ ?_ ⟨rfl, rfl⟩
  · rintro nx i _ _ hi ⟨rfl, rfl⟩ hnx
    simp (disch := omega) only [iN_lit, gd_ix, iI_clN, h.1.2.1, iI_le, lt_def, c_pull h w hi, bd_some, iN_add]
    rw [if_neg (by omega)]
    exact hnx _ _ ⟨rfl, rfl⟩
  · rintro nx _ _ ⟨rfl, rfl⟩
    simp (disch := omega) only [h.1.2.1, iI_le]
    rw [if_pos (by omega)]
theorem op_count {m : pw_Mem} (hs : Sim m) (a : Int32) : OpRR (fX10_count a) (fX11_count a) m := by
  obtain ⟨s, hC, hM, w⟩ := hs
  obtain ⟨z, rfl, h1, h2⟩ := rg a
  have w1 := w.1.1
  have h7 := w1.1.1
  have hk := w1.1.2.1
  obtain ⟨c0, c1, c2, c3, c4⟩ := hC.1.1
  obtain ⟨r0, r1, r2, r3⟩ := hM.1.1
  unfold OpRR fX10_count fX11_count
  simp (disch := omega) only [iN_lit, iI_eq, r_isIn, bd_some, ite_dec, c0, c1, c2, c3, c4, c_allStung hC.1 w1, c_allPull hC.1 w1, r_snappedSet hM.1 w1, r_stungAll hM.1 w1]
  by_cases hz : 0 ≤ z ∧ z ≤ 6
  · obtain ⟨k, rfl⟩ := Int.eq_ofNat_of_zero_le hz.1
    rcases (show k = 0 ∨ k = 1 ∨ k = 2 ∨ k = 3 ∨ k = 4 ∨ k = 5 ∨ k = 6 by omega) with rfl | rfl | rfl | rfl | rfl | rfl | rfl
    · exact ⟨_, rfl, congrArg some r0⟩
    · exact ⟨_, rfl, congrArg some r1⟩
    · exact ⟨_, rfl, congrArg some r2⟩
    · exact ⟨_, rfl, congrArg some r3⟩
    · exact ⟨_, rfl, rfl⟩
    · exact ⟨_, rfl, rfl⟩
    · refine ⟨_, rfl, ?_⟩
      rw [if_neg (by omega), if_neg (by omega), if_neg (by omega), if_pos (by omega)]
      refine lpI2 (fun i v1 v2 => v1 = iI ((sumN (pul s.1) i : Nat) : Int) ∧ v2 = iI (i : Nat)) (fun x => x = _) (tK s.1) (by omega) ?_ ?_ ⟨rfl, rfl⟩
      · rintro nx i _ _ hi ⟨rfl, rfl⟩ hnx
        simp (disch := omega) only [gd_ix, iI_clN, r1, iI_le, lt_def, r_pull hM.1 w1 hi, bd_some, iN_add]
        rw [if_neg (by omega)]
        exact hnx _ _ ⟨rfl, rfl⟩
      · rintro nx _ _ ⟨rfl, rfl⟩
        simp (disch := omega) only [gd_ix, iI_clN, r1, iI_le]
        rw [if_pos (by omega)]
  · rw [if_neg (by omega), if_neg (by omega), if_neg (by omega), if_neg (by omega), if_neg (by omega), if_neg (by omega), if_neg (by omega), if_neg (by omega), if_neg (by omega), if_neg (by omega), if_neg (by omega)]
    exact ⟨_, rfl, rfl⟩
