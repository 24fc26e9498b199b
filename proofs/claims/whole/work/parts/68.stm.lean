/-! THE TEXT: a statement read by the reference -/
set_option maxRecDepth 100000
def eI (h : ShT) (q j : Nat) : Int := hE h (q + j) - 48
def NM (h : ShT) (q : Nat) (m : pw_Mem) : Prop := (hE h q = 98 → m 77 0 = iI (eI h q 1) ∧ m 77 1 = iI (eI h q 2) ∧ m 77 2 = iI (eI h q 3) ∧ m 77 3 = iI (eI h q 4)) ∧ (hE h q = 103 → m 77 0 = iI (eI h q 1) ∧ m 77 1 = iI (10 * eI h q 2 + eI h q 3)) ∧ (hE h q = 112 ∨ hE h q = 121 → m 77 0 = iI (10 * eI h q 1 + eI h q 2)) ∧ (hE h q = 99 ∨ hE h q = 120 → m 77 0 = iI (eI h q 1))
def SR (h : ShT) (q : Nat) (m : pw_Mem) (b : Bool) (m' : pw_Mem) : Prop := RF m m' ∧ (b = true → (∀ j, j < dgN (hE h q) + 2 → bdj h q j = false) ∧ m' 71 6 = iI (nxt h q : Nat) ∧ NM h q m') ∧ (b = false → ∃ k, k < dgN (hE h q) + 2 ∧ bdj h q k = true ∧ (∀ j, j < k → bdj h q j = false) ∧ m' 71 6 = iI ((q + k : Nat) : Int))
theorem bd_0 {h : ShT} {q : Nat} (hq : q < hL h) (hd : dgN (hE h q) ≠ 0) : bdj h q 0 = false := by
  unfold bdj
  rw [if_pos rfl, decide_eq_false hd, decide_eq_false (by omega)]
  rfl
theorem bd_d {h : ShT} {q j : Nat} (h1 : 1 ≤ j) (hj : j ≤ dgN (hE h q)) : bdj h q j = !gDg h (q + j) := by
  unfold bdj gDg
  rw [if_neg (by omega), if_pos hj]
  by_cases k1 : q + j < hL h
  · rw [decide_eq_false (show ¬ hL h ≤ q + j by omega), Bool.false_or]
    exact congrArg (fun z => !z) (decide_eq_decide.mpr (by omega))
  · rw [decide_eq_true (show hL h ≤ q + j by omega), decide_eq_false (show ¬ (q + j < hL h ∧ 48 ≤ hE h (q + j) ∧ hE h (q + j) ≤ 57) by omega)]
    rfl
theorem bd_e {h : ShT} {q : Nat} : bdj h q (dgN (hE h q) + 1) = !decide (q + dgN (hE h q) + 1 < hL h ∧ hE h (q + dgN (hE h q) + 1) = 59) := by
  unfold bdj
  rw [if_neg (by omega), if_neg (by omega), ← Nat.add_assoc]
  by_cases k1 : q + dgN (hE h q) + 1 < hL h
  · rw [decide_eq_false (show ¬ hL h ≤ q + dgN (hE h q) + 1 by omega), Bool.false_or]
    exact congrArg (fun z => !z) (decide_eq_decide.mpr (by omega))
  · rw [decide_eq_true (show hL h ≤ q + dgN (hE h q) + 1 by omega), decide_eq_false (show ¬ (q + dgN (hE h q) + 1 < hL h ∧ hE h (q + dgN (hE h q) + 1) = 59) by omega)]
    rfl
theorem sr_bad {h : ShT} {q : Nat} {m m4 : pw_Mem} (hq : q < hL h) {j : Nat} (h1 : 1 ≤ j) (hj : j ≤ dgN (hE h q)) (hg : ∀ i, 1 ≤ i → i < j → gDg h (q + i) = true) (hb : gDg h (q + j) = false) (h6 : m4 71 6 = iI ((q + j : Nat) : Int)) (hf : RF m m4) : SR h q m false m4 := by
  refine ⟨hf, fun z => absurd z (by decide), fun _ => ⟨j, by omega, by rw [bd_d h1 hj, hb]; rfl, fun i hi => ?_, h6⟩⟩
  by_cases e : i = 0
  · rw [e]
    exact bd_0 hq (by omega)
  · rw [bd_d (by omega) (by omega), hg i (by omega) hi]
    rfl
theorem sr_fin {h : ShT} {n q : Nat} {m m4 : pw_Mem} (hw : WR h n) (hq : q < hL h) (hd : dgN (hE h q) ≠ 0) (hT : TX h n m4 (q + dgN (hE h q) + 1)) (hf : RF m m4) (hg : ∀ i, 1 ≤ i → i ≤ dgN (hE h q) → gDg h (q + i) = true) (hN : NM h q m4) : ∃ b m', (bd (fX11_here m4) fun y5 => if y5 = (59 : Int32) then lt (pw_up m4 71 6 ((m4 71 6) + (1 : Int32))) fun m6 => some (true, m6) else some (false, m4)) = some (b, m') ∧ SR h q m b m' := by
  have dl := dg_le (hE h q)
  have hL100 := hw.2.1
  obtain ⟨q1, b1, b2⟩ := r_here hw hT (by omega)
  have low : ∀ j, j < dgN (hE h q) + 1 → bdj h q j = false := fun j hj => by
    by_cases e : j = 0
    · rw [e]
      exact bd_0 hq hd
    · rw [bd_d (by omega) (by omega), hg j (by omega) (by omega)]
      rfl
  have ce := ch_eq (p := q + dgN (hE h q) + 1) hw (c := 59) (by omega) (by omega)
  rw [q1, bd_some, eqL (k := 59) ⟨by omega, by omega⟩ (by omega)]
  by_cases k : chN h (q + dgN (hE h q) + 1) = 59
  · have kk := ce.mp k
    rw [if_pos (show chN h (q + dgN (hE h q) + 1) = ((59 : Nat) : Int) from k), hT.1.2.2, inc1, lt_def]
    refine ⟨true, _, rfl, RF_t hf ⟨fun c h1 _ => up_oc h1, fun j hj => up_ne hj⟩, fun _ => ⟨fun j hj => ?_, by rw [up_eq]; rfl, ?_⟩, fun z => absurd z (by decide)⟩
    · by_cases e : j = dgN (hE h q) + 1
      · rw [e, bd_e, decide_eq_true kk]
        rfl
      · exact low j (by omega)
    · unfold NM at hN ⊢
      rw [up_oc (by omega)]
      exact hN
  · rw [if_neg (show ¬ chN h (q + dgN (hE h q) + 1) = ((59 : Nat) : Int) from k)]
    exact ⟨false, m4, rfl, hf, fun z => absurd z (by decide), fun _ => ⟨dgN (hE h q) + 1, by omega, by rw [bd_e, decide_eq_false (fun z => k (ce.mpr z))]; rfl, low, hT.1.2.2⟩⟩
theorem nv1 (h : ShT) (p : Nat) : nv h p 1 = hE h p - 48 := by
  show 10 * 0 + (hE h (p + 0) - 48) = _
  rw [Nat.add_zero]
  omega
theorem nv2 (h : ShT) (p : Nat) : nv h p 2 = 10 * (hE h p - 48) + (hE h (p + 1) - 48) := by
  show 10 * nv h p 1 + (hE h (p + 1) - 48) = _
  rw [nv1]
theorem r_stm {h : ShT} {n q : Nat} {m : pw_Mem} (hw : WR h n) (hT : TX h n m q) (hq : q ≤ hL h) : ∃ b m', fX11_readsStatement m = some (b, m') ∧ SR h q m b m' := by
  have hL100 := hw.2.1
  obtain ⟨q1, b1, b2⟩ := r_here hw hT (by omega)
  have ce := fun (c : Int) (h1 : 0 ≤ c) (h2 : c < 128) => ch_eq (p := q) hw h1 h2
  obtain ⟨m2, hm2⟩ : ∃ m2, m2 = pw_up m 71 6 (iI ((q + 1 : Nat) : Int)) := ⟨_, rfl⟩
  have f2 : RF m m2 := by
    rw [hm2]
    exact ⟨fun c h1 _ => up_oc h1, fun j hj => up_ne hj⟩
  have T2 : TX h n m2 (q + 1) := TX_f hT f2 (by rw [hm2, up_eq])
  unfold fX11_readsStatement
  rw [q1, bd_some, hT.1.2.2, inc1, lt_def, ← hm2, jn_def, jn_def, jn_def, eqL (k := 98) ⟨by omega, by omega⟩ (by omega), eqL (k := 99) ⟨by omega, by omega⟩ (by omega), eqL (k := 103) ⟨by omega, by omega⟩ (by omega), eqL (k := 112) ⟨by omega, by omega⟩ (by omega), eqL (k := 120) ⟨by omega, by omega⟩ (by omega), eqL (k := 121) ⟨by omega, by omega⟩ (by omega)]
  dsimp only
  have e10 : ¬ (1 : Int32) = 0 := by decide
  have bIt : bI true = 1 := rfl
  have bIf : bI false = 0 := rfl
  -- one number of one digit; one of two
  have one1 : dgN (hE h q) = 1 → q < hL h → ¬ hE h q = 98 → ¬ hE h q = 103 → ¬ hE h q = 112 → ¬ hE h q = 121 → ∃ b m', (bd2 (fX11_readsNumber (0 : Int32) (1 : Int32) m2) fun y13 m14 => if bI y13 = 0 then some (false, m14) else bd (fX11_here m14) fun y5 => if y5 = (59 : Int32) then lt (pw_up m14 71 6 ((m14 71 6) + (1 : Int32))) fun m6 => some (true, m6) else some (false, m14)) = some (b, m') ∧ SR h q m b m' := by
    intro hd hqL n1 n2 n3 n4
    obtain ⟨b, m', e, f, g, t1, t2⟩ := r_num (k := 0) (D := 1) hw T2 (by omega) (by omega) (by omega)
    have e' : fX11_readsNumber (0 : Int32) (1 : Int32) m2 = some (b, m') := e
    rw [e', bd2_some]
    cases b
    · obtain ⟨j, j1, j2, j3, j4⟩ := t2 rfl
      rw [bIf, if_pos rfl]
      refine ⟨false, m', rfl, sr_bad hqL (j := 1) (by omega) (by omega) (fun i h1 h2 => by omega) ?_ ?_ (RF_t f2 f)⟩
      · rw [show j = 0 by omega] at j3
        exact j3
      · rw [j4, show q + 1 + j = q + 1 by omega]
    · obtain ⟨j1, j2, j3⟩ := t1 rfl
      rw [bIt, if_neg e10]
      refine sr_fin hw hqL (by omega) ?_ (RF_t f2 f) (fun i h1 h2 => ?_) ⟨fun z => absurd z n1, fun z => absurd z n2, fun z => by rcases z with z | z; exact absurd z n3; exact absurd z n4, fun _ => by rw [j3, nv1]; rfl⟩
      · rw [hd]
        exact TX_f T2 f j2
      · rw [show i = 1 by omega]
        exact j1 0 (by omega)
  have one2 : dgN (hE h q) = 2 → q < hL h → ¬ hE h q = 98 → ¬ hE h q = 103 → ¬ hE h q = 99 → ¬ hE h q = 120 → ∃ b m', (bd2 (fX11_readsNumber (0 : Int32) (2 : Int32) m2) fun y17 m18 => if bI y17 = 0 then some (false, m18) else bd (fX11_here m18) fun y5 => if y5 = (59 : Int32) then lt (pw_up m18 71 6 ((m18 71 6) + (1 : Int32))) fun m6 => some (true, m6) else some (false, m18)) = some (b, m') ∧ SR h q m b m' := by
    intro hd hqL n1 n2 n3 n4
    obtain ⟨b, m', e, f, g, t1, t2⟩ := r_num (k := 0) (D := 2) hw T2 (by omega) (by omega) (by omega)
    have e' : fX11_readsNumber (0 : Int32) (2 : Int32) m2 = some (b, m') := e
    rw [e', bd2_some]
    cases b
    · obtain ⟨j, j1, j2, j3, j4⟩ := t2 rfl
      rw [bIf, if_pos rfl]
      refine ⟨false, m', rfl, sr_bad hqL (j := j + 1) (by omega) (by omega) (fun i h1 h2 => ?_) ?_ ?_ (RF_t f2 f)⟩
      · have := j2 (i - 1) (by omega)
        rw [show q + 1 + (i - 1) = q + i by omega] at this
        exact this
      · rw [show q + (j + 1) = q + 1 + j by omega]
        exact j3
      · rw [j4, show q + 1 + j = q + (j + 1) by omega]
    · obtain ⟨j1, j2, j3⟩ := t1 rfl
      rw [bIt, if_neg e10]
      refine sr_fin hw hqL (by omega) ?_ (RF_t f2 f) (fun i h1 h2 => ?_) ⟨fun z => absurd z n1, fun z => absurd z n2, fun _ => by rw [j3, nv2]; rfl, fun z => by rcases z with z | z; exact absurd z n3; exact absurd z n4⟩
      · rw [hd]
        exact TX_f T2 f j2
      · have := j1 (i - 1) (by omega)
        rw [show q + 1 + (i - 1) = q + i by omega] at this
        exact this
  by_cases c98 : chN h q = 98
  · obtain ⟨hqL, hE98⟩ := (ce 98 (by omega) (by omega)).mp c98
    have hd : dgN (hE h q) = 4 := by
      rw [hE98]
      rfl
    rw [if_pos (show chN h q = ((98 : Nat) : Int) from c98)]
    obtain ⟨x1, m3, e1, f3, g3, t1, u1⟩ := r_num (k := 0) (D := 1) hw T2 (by omega) (by omega) (by omega)
    have e1' : fX11_readsNumber (0 : Int32) (1 : Int32) m2 = some (x1, m3) := e1
    rw [e1', bd2_some, jn_def, jn_def]
    cases x1
    · obtain ⟨j, j1, j2, j3, j4⟩ := u1 rfl
      rw [itF]
      dsimp only
      rw [if_pos rfl]
      refine ⟨false, m3, rfl, sr_bad hqL (j := 1) (by omega) (by omega) (fun i h1 h2 => by omega) ?_ ?_ (RF_t f2 f3)⟩
      · rw [show j = 0 by omega] at j3
        exact j3
      · rw [j4, show q + 1 + j = q + 1 by omega]
    · obtain ⟨p1, p2, p3⟩ := t1 rfl
      have T3 : TX h n m3 (q + 2) := TX_f T2 f3 p2
      have G1 : gDg h (q + 1) = true := p1 0 (by omega)
      rw [itT]
      obtain ⟨x2, m4, e2, f4, g4, t2, u2⟩ := r_num (k := 1) (D := 1) hw T3 (by omega) (by omega) (by omega)
      have e2' : fX11_readsNumber (1 : Int32) (1 : Int32) m3 = some (x2, m4) := e2
      rw [e2', bd2_some]
      cases x2
      · obtain ⟨j, j1, j2, j3, j4⟩ := u2 rfl
        rw [itF]
        dsimp only
        rw [if_pos rfl]
        refine ⟨false, m4, rfl, sr_bad hqL (j := 2) (by omega) (by omega) (fun i h1 h2 => by rw [show i = 1 by omega]; exact G1) ?_ ?_ (RF_t f2 (RF_t f3 f4))⟩
        · rw [show j = 0 by omega] at j3
          exact j3
        · rw [j4, show q + 2 + j = q + 2 by omega]
      · obtain ⟨p4, p5, p6⟩ := t2 rfl
        have T4 : TX h n m4 (q + 3) := TX_f T3 f4 p5
        have G2 : gDg h (q + 2) = true := p4 0 (by omega)
        rw [itT]
        obtain ⟨x3, m5, e3, f5, g5, t3, u3⟩ := r_num (k := 2) (D := 1) hw T4 (by omega) (by omega) (by omega)
        have e3' : fX11_readsNumber (2 : Int32) (1 : Int32) m4 = some (x3, m5) := e3
        rw [e3', bd2_some]
        cases x3
        · obtain ⟨j, j1, j2, j3, j4⟩ := u3 rfl
          rw [itF]
          dsimp only
          rw [if_pos rfl]
          refine ⟨false, m5, rfl, sr_bad hqL (j := 3) (by omega) (by omega) (fun i h1 h2 => ?_) ?_ ?_ (RF_t f2 (RF_t f3 (RF_t f4 f5)))⟩
          · rcases (show i = 1 ∨ i = 2 by omega) with rfl | rfl
            · exact G1
            · exact G2
          · rw [show j = 0 by omega] at j3
            exact j3
          · rw [j4, show q + 3 + j = q + 3 by omega]
        · obtain ⟨p7, p8, p9⟩ := t3 rfl
          have T5 : TX h n m5 (q + 4) := TX_f T4 f5 p8
          have G3 : gDg h (q + 3) = true := p7 0 (by omega)
          rw [itT]
          obtain ⟨x4, m6, e4, f6, g6, t4, u4⟩ := r_num (k := 3) (D := 1) hw T5 (by omega) (by omega) (by omega)
          have e4' : fX11_readsNumber (3 : Int32) (1 : Int32) m5 = some (x4, m6) := e4
          rw [e4', bd2_some]
          cases x4
          · obtain ⟨j, j1, j2, j3, j4⟩ := u4 rfl
            rw [itF]
            dsimp only
            rw [if_pos rfl]
            refine ⟨false, m6, rfl, sr_bad hqL (j := 4) (by omega) (by omega) (fun i h1 h2 => ?_) ?_ ?_ (RF_t f2 (RF_t f3 (RF_t f4 (RF_t f5 f6))))⟩
            · rcases (show i = 1 ∨ i = 2 ∨ i = 3 by omega) with rfl | rfl | rfl
              · exact G1
              · exact G2
              · exact G3
            · rw [show j = 0 by omega] at j3
              exact j3
            · rw [j4, show q + 4 + j = q + 4 by omega]
          · obtain ⟨p10, p11, p12⟩ := t4 rfl
            have T6 : TX h n m6 (q + 5) := TX_f T5 f6 p11
            have G4 : gDg h (q + 4) = true := p10 0 (by omega)
            rw [itT]
            dsimp only
            rw [if_neg e10]
            refine sr_fin hw hqL (by omega) ?_ (RF_t f2 (RF_t f3 (RF_t f4 (RF_t f5 f6)))) (fun i h1 h2 => ?_) ⟨fun _ => ⟨?_, ?_, ?_, ?_⟩, fun z => by rw [hE98] at z; exact absurd z (by decide), fun z => by rw [hE98] at z; exact absurd z (by decide), fun z => by rw [hE98] at z; exact absurd z (by decide)⟩
            · rw [hd]
              exact T6
            · rcases (show i = 1 ∨ i = 2 ∨ i = 3 ∨ i = 4 by omega) with rfl | rfl | rfl | rfl
              · exact G1
              · exact G2
              · exact G3
              · exact G4
            · rw [g6 0 (by omega), g5 0 (by omega), g4 0 (by omega), p3, nv1]
              rfl
            · rw [g6 1 (by omega), g5 1 (by omega), p6, nv1]
              rfl
            · rw [g6 2 (by omega), p9, nv1]
              rfl
            · rw [p12, nv1]
              rfl
  · rw [if_neg (show ¬ chN h q = ((98 : Nat) : Int) from c98)]
    by_cases c99 : chN h q = 99
    · obtain ⟨hqL, hEc⟩ := (ce 99 (by omega) (by omega)).mp c99
      rw [if_pos (show chN h q = ((99 : Nat) : Int) from c99)]
      exact one1 (by rw [hEc]; rfl) hqL (by omega) (by omega) (by omega) (by omega)
    · rw [if_neg (show ¬ chN h q = ((99 : Nat) : Int) from c99)]
      by_cases c103 : chN h q = 103
      · obtain ⟨hqL, hEc⟩ := (ce 103 (by omega) (by omega)).mp c103
        have hd : dgN (hE h q) = 3 := by
          rw [hEc]
          rfl
        rw [if_pos (show chN h q = ((103 : Nat) : Int) from c103)]
        obtain ⟨x1, m3, e1, f3, g3, t1, u1⟩ := r_num (k := 0) (D := 1) hw T2 (by omega) (by omega) (by omega)
        have e1' : fX11_readsNumber (0 : Int32) (1 : Int32) m2 = some (x1, m3) := e1
        rw [e1', bd2_some, jn_def, jn_def]
        cases x1
        · obtain ⟨j, j1, j2, j3, j4⟩ := u1 rfl
          rw [itF]
          dsimp only
          rw [if_pos rfl]
          refine ⟨false, m3, rfl, sr_bad hqL (j := 1) (by omega) (by omega) (fun i h1 h2 => by omega) ?_ ?_ (RF_t f2 f3)⟩
          · rw [show j = 0 by omega] at j3
            exact j3
          · rw [j4, show q + 1 + j = q + 1 by omega]
        · obtain ⟨p1, p2, p3⟩ := t1 rfl
          have T3 : TX h n m3 (q + 2) := TX_f T2 f3 p2
          have G1 : gDg h (q + 1) = true := p1 0 (by omega)
          rw [itT]
          obtain ⟨x2, m4, e2, f4, g4, t2, u2⟩ := r_num (k := 1) (D := 2) hw T3 (by omega) (by omega) (by omega)
          have e2' : fX11_readsNumber (1 : Int32) (2 : Int32) m3 = some (x2, m4) := e2
          rw [e2', bd2_some]
          cases x2
          · obtain ⟨j, j1, j2, j3, j4⟩ := u2 rfl
            rw [itF]
            dsimp only
            rw [if_pos rfl]
            refine ⟨false, m4, rfl, sr_bad hqL (j := j + 2) (by omega) (by omega) (fun i h1 h2 => ?_) ?_ ?_ (RF_t f2 (RF_t f3 f4))⟩
            · by_cases z : i = 1
              · rw [z]
                exact G1
              · have := j2 (i - 2) (by omega)
                rw [show q + 2 + (i - 2) = q + i by omega] at this
                exact this
            · rw [show q + (j + 2) = q + 2 + j by omega]
              exact j3
            · rw [j4, show q + 2 + j = q + (j + 2) by omega]
          · obtain ⟨p4, p5, p6⟩ := t2 rfl
            have T4 : TX h n m4 (q + 4) := TX_f T3 f4 p5
            rw [itT]
            dsimp only
            rw [if_neg e10]
            refine sr_fin hw hqL (by omega) ?_ (RF_t f2 (RF_t f3 f4)) (fun i h1 h2 => ?_) ⟨fun z => absurd z (by omega), fun _ => ⟨?_, ?_⟩, fun z => absurd z (by omega), fun z => absurd z (by omega)⟩
            · rw [hd]
              exact T4
            · by_cases z : i = 1
              · rw [z]
                exact G1
              · have := p4 (i - 2) (by omega)
                rw [show q + 2 + (i - 2) = q + i by omega] at this
                exact this
            · rw [g4 0 (by omega), p3, nv1]
              rfl
            · rw [p6, nv2]
              rfl
      · rw [if_neg (show ¬ chN h q = ((103 : Nat) : Int) from c103)]
        by_cases c112 : chN h q = 112
        · obtain ⟨hqL, hEc⟩ := (ce 112 (by omega) (by omega)).mp c112
          rw [if_pos (show chN h q = ((112 : Nat) : Int) from c112)]
          exact one2 (by rw [hEc]; rfl) hqL (by omega) (by omega) (by omega) (by omega)
        · rw [if_neg (show ¬ chN h q = ((112 : Nat) : Int) from c112)]
          by_cases c120 : chN h q = 120
          · obtain ⟨hqL, hEc⟩ := (ce 120 (by omega) (by omega)).mp c120
            rw [if_pos (show chN h q = ((120 : Nat) : Int) from c120)]
            exact one1 (by rw [hEc]; rfl) hqL (by omega) (by omega) (by omega) (by omega)
          · rw [if_neg (show ¬ chN h q = ((120 : Nat) : Int) from c120)]
            by_cases c121 : chN h q = 121
            · obtain ⟨hqL, hEc⟩ := (ce 121 (by omega) (by omega)).mp c121
              rw [if_pos (show chN h q = ((121 : Nat) : Int) from c121)]
              exact one2 (by rw [hEc]; rfl) hqL (by omega) (by omega) (by omega) (by omega)
            · have em : iI ((q + 1 : Nat) : Int) - 1 = iI (q : Int) := by
                have : iI ((q + 1 : Nat) : Int) - 1 = iI (((q + 1 : Nat) : Int) - 1) := iI_sub _ 1
                rw [this]
                exact congrArg iI (by omega)
              rw [if_neg (show ¬ chN h q = ((121 : Nat) : Int) from c121), T2.1.2.2, em, lt_def]
              have b0 : bdj h q 0 = true := by
                unfold bdj
                rw [if_pos rfl]
                by_cases k : hL h ≤ q + 0
                · rw [decide_eq_true k]
                  rfl
                · have nl : ∀ c : Int, 0 ≤ c → c < 128 → ¬ chN h q = c → ¬ hE h q = c := fun c h1 h2 h3 h4 => h3 ((ce c h1 h2).mpr ⟨by omega, h4⟩)
                  have : dgN (hE h q) = 0 := by
                    unfold dgN
                    rw [if_neg (nl 98 (by omega) (by omega) c98), if_neg (nl 99 (by omega) (by omega) c99), if_neg (nl 103 (by omega) (by omega) c103), if_neg (nl 112 (by omega) (by omega) c112), if_neg (nl 120 (by omega) (by omega) c120), if_neg (nl 121 (by omega) (by omega) c121)]
                  rw [decide_eq_true this, Bool.or_true]
              exact ⟨false, _, rfl, RF_t f2 ⟨fun c h1 _ => up_oc h1, fun j hj => up_ne hj⟩, fun z => absurd z (by decide), fun _ => ⟨0, by omega, b0, fun j hj => absurd hj (Nat.not_lt_zero j), by rw [up_eq]; rfl⟩⟩
