/-! CALLS: copy -/
set_option maxRecDepth 100000
theorem EZ {h : Nat} (e : h = 0) : iI (h : Int) = 0 := by
  rw [e]
  rfl
theorem NZ {h : Nat} (b : h ≤ 2) (e : ¬ h = 0) : ¬ iI (h : Int) = 0 := by
  rw [i0, iI_eq (by omega) (by omega) (by omega) (by omega)]
  omega
theorem E2 {h : Nat} (e : h = 2) : iI (h : Int) = (2 : Int32) := by
  rw [e]
  rfl
theorem N2 {h : Nat} (b : h ≤ 2) (e : ¬ h = 2) : ¬ iI (h : Int) = (2 : Int32) := by
  rw [iN_lit, iI_eq (by omega) (by omega) (by omega) (by omega)]
  omega
theorem NL {z : Int} (a : -2147483648 ≤ z) (b : z < 2147483648) (c : 0 ≤ z) : ¬ iI z < 0 := by
  rw [i0, iI_lt (by omega) (by omega) (by omega) (by omega)]
  omega
theorem YL {z : Int} (a : -2147483648 ≤ z) (b : z < 2147483648) (c : z < 0) : iI z < 0 := by
  rw [i0, iI_lt (by omega) (by omega) (by omega) (by omega)]
  omega
theorem NLL {y z : Int} (a : -2147483648 ≤ z) (b : z < 2147483648) (a' : -2147483648 ≤ y) (b' : y < 2147483648) (c : ¬ y < z) : ¬ iI y < iI z := by
  rw [iI_lt (by omega) (by omega) (by omega) (by omega)]
  exact c
theorem YLL {y z : Int} (a : -2147483648 ≤ z) (b : z < 2147483648) (a' : -2147483648 ≤ y) (b' : y < 2147483648) (c : y < z) : iI y < iI z := by
  rw [iI_lt (by omega) (by omega) (by omega) (by omega)]
  exact c
theorem NEE {y z : Nat} (b : z < 2147483648) (b' : y < 2147483648) (c : ¬ y = z) : ¬ iI (y : Int) = iI (z : Int) := by
  rw [iI_eq (by omega) (by omega) (by omega) (by omega)]
  omega
theorem CL {m : pw_Mem} {k n : Nat} {v : Int32} (hn : n < 8) (h : m k n = v) : m k (iI (n : Int)).toNatClampNeg = v := by
  rw [iI_clN (by omega)]
  exact h
theorem op_copy {m : pw_Mem} (hs : Sim m) (a1 a2 a3 a4 a5 : Int32) : OpWW (fX10_copy a1 a2 a3 a4 a5) (fX11_copy a1 a2 a3 a4 a5) m := by
  have hs0 := hs
  obtain ⟨s, hC, hM, w⟩ := hs
  obtain ⟨d, rfl, h1, h2⟩ := rg a1
  obtain ⟨x, rfl, h3, h4⟩ := rg a2
  obtain ⟨e, rfl, h5, h6⟩ := rg a3
  obtain ⟨y, rfl, h7, h8⟩ := rg a4
  obtain ⟨z, rfl, h9, h10⟩ := rg a5
  by_cases cd : (0 ≤ d ∧ d < 8) ∧ 0 ≤ e ∧ e < 8
  · obtain ⟨cd, ce⟩ := cd
    obtain ⟨p, rfl⟩ := Int.eq_ofNat_of_zero_le cd.1
    obtain ⟨q, rfl⟩ := Int.eq_ofNat_of_zero_le ce.1
    have hp : p < 8 := by omega
    have hq : q < 8 := by omega
    have k1 := (hC.2.2.2 p hp).1
    have k2 := (hC.2.2.2 q hq).1
    have k3 := (hM.2.2.2 p hp).1
    have k4 := (hM.2.2.2 q hq).1
    have b1 := (w.2.2 p hp).1
    have b2 := (w.2.2 q hq).1
    by_cases c0 : hH (s.2.2 p) = 0 ∨ hH (s.2.2 q) = 0
    · refine op_same hs0 (r := -11) ?_ ?_
      · unfold fX10_copy
        rw [c_isShelf m h1 h2, bd_some, ite_dec, if_pos cd, c_isShelf m h5 h6, bd_some, ite_dec, if_pos ce, gd_ix (a := (p : Int)) (n := 8) (by omega) (by omega) (by omega), gd_ix (a := (q : Int)) (n := 8) (by omega) (by omega) (by omega), iI_clN (n := p) (by omega), iI_clN (n := q) (by omega), k1, k2]
        by_cases c1 : hH (s.2.2 p) = 0
        · rw [if_pos (EZ c1)]
        · rw [if_neg (NZ b1 c1), if_pos (EZ (by omega))]
      · unfold fX11_copy
        rw [r_isShelf m h1 h2, bd_some, ite_dec, if_pos cd, r_isShelf m h5 h6, bd_some, ite_dec, if_pos ce, gd_ix (a := (p : Int)) (n := 8) (by omega) (by omega) (by omega), CL hp k3, CL hq k4]
        by_cases c1 : hH (s.2.2 p) = 0
        · rw [if_pos (EZ c1)]
        · rw [if_neg (NZ b1 c1), gd_ix (a := (q : Int)) (n := 8) (by omega) (by omega) (by omega), if_pos (EZ (by omega))]
    · have np : ¬ iI (hH (s.2.2 p) : Int) = 0 := NZ b1 (by omega)
      have nq : ¬ iI (hH (s.2.2 q) : Int) = 0 := NZ b2 (by omega)
      by_cases c2 : hH (s.2.2 p) = 2 ∧ hH (s.2.2 q) = 2
      · obtain ⟨hp2, hq2⟩ := c2
        obtain ⟨e4, e5, e6⟩ := (hC.2.2.2 p hp).2.2 hp2
        obtain ⟨f4, f5, f6⟩ := (hC.2.2.2 q hq).2.2 hq2
        obtain ⟨g4, g5, g6⟩ := (hM.2.2.2 p hp).2.2 hp2
        obtain ⟨i4, i5, i6⟩ := (hM.2.2.2 q hq).2.2 hq2
        obtain ⟨w3, wL, wE⟩ := (w.2.2 p hp).2.2 hp2
        obtain ⟨v3, vL, vE⟩ := (w.2.2 q hq).2.2 hq2
        by_cases c3 : hS (s.2.2 p) = hS (s.2.2 q)
        · by_cases c4 : (0 ≤ x ∧ 0 ≤ y ∧ 0 ≤ z) ∧ x + z ≤ hL (s.2.2 p) ∧ y + z ≤ hL (s.2.2 q)
          · obtain ⟨⟨c5, c6, c7⟩, c8, c9⟩ := c4
            obtain ⟨x, rfl⟩ := Int.eq_ofNat_of_zero_le c5
            obtain ⟨y, rfl⟩ := Int.eq_ofNat_of_zero_le c6
            obtain ⟨z, rfl⟩ := Int.eq_ofNat_of_zero_le c7
            refine op_shelf hC hM w (r := iI z) hq (h := (2, 0, 0, hS (s.2.2 q), hL (s.2.2 q), fun j => if y ≤ j ∧ j < y + z then hE (s.2.2 p) (x + (j - y)) else hE (s.2.2 q) j)) ⟨Nat.le_refl _, fun e => absurd (show (2 : Nat) = 1 from e) (by decide), fun _ => ⟨v3, vL, fun i hi => ?_⟩⟩ ?_ ?_
            · have hi : i < hL (s.2.2 q) := hi
              show (-2147483648 ≤ (if y ≤ i ∧ i < y + z then hE (s.2.2 p) (x + (i - y)) else hE (s.2.2 q) i) ∧ (if y ≤ i ∧ i < y + z then hE (s.2.2 p) (x + (i - y)) else hE (s.2.2 q) i) < 2147483648) ∧ (hS (s.2.2 q) = 0 → -128 ≤ (if y ≤ i ∧ i < y + z then hE (s.2.2 p) (x + (i - y)) else hE (s.2.2 q) i) ∧ (if y ≤ i ∧ i < y + z then hE (s.2.2 p) (x + (i - y)) else hE (s.2.2 q) i) ≤ 127)
              by_cases ci : y ≤ i ∧ i < y + z
              · rw [if_pos ci]
                have := wE (x + (i - y)) (by omega)
                rw [c3] at this
                exact this
              · rw [if_neg ci]
                exact vE i hi
            · refine ⟨pw_cpy m ((55 + 2 * p) + 1) ((55 + 2 * q) + 1) (iI x) (iI y) (iI z), ?_, ⟨?_, fun e => absurd (show (2 : Nat) = 1 from e) (by decide), fun _ => ⟨?_, ?_, fun i hi => ?_⟩⟩, fun c _ h => ?_⟩
              · unfold fX10_copy fX5_hasPart
                have cok : cpok (iI x) (iI y) (iI z) 100 100 := by
                  unfold cpok
                  rw [i0, iI_lt (by omega) (by omega) (by omega) (by omega), iI_lt (by omega) (by omega) (by omega) (by omega), iI_lt (by omega) (by omega) (by omega) (by omega), iI_clN (by omega), iI_clN (by omega), iI_clN (by omega)]
                  omega
                rw [c_isShelf m h1 h2, bd_some, ite_dec, if_pos cd, c_isShelf m h5 h6, bd_some, ite_dec, if_pos ce, gd_ix (a := (p : Int)) (n := 8) (by omega) (by omega) (by omega), gd_ix (a := (q : Int)) (n := 8) (by omega) (by omega) (by omega), iI_clN (n := p) (by omega), iI_clN (n := q) (by omega), k1, k2, if_neg np, if_neg nq, if_pos (E2 hp2), if_pos (E2 hq2), e4, f4, c3, if_pos rfl, if_neg (NL (by omega) (by omega) c7), if_neg (NL (by omega) (by omega) c5), e5, iI_sub, if_neg (NLL (by omega) (by omega) (by omega) (by omega) (by omega)), if_neg (NLL (by omega) (by omega) (by omega) (by omega) (by omega)), bd_some, if_pos rfl, if_neg (NL (by omega) (by omega) c6), f5, iI_sub, if_neg (NLL (by omega) (by omega) (by omega) (by omega) (by omega)), if_neg (NLL (by omega) (by omega) (by omega) (by omega) (by omega)), bd_some, if_pos rfl, gd_true cok]
                rfl
              · have : pw_cpy m ((55 + 2 * p) + 1) ((55 + 2 * q) + 1) (iI x) (iI y) (iI z) (55 + 2 * q) = m (55 + 2 * q) := if_neg (by omega)
                rw [this, k2, hq2]
                rfl
              · have : pw_cpy m ((55 + 2 * p) + 1) ((55 + 2 * q) + 1) (iI x) (iI y) (iI z) (55 + 2 * q) = m (55 + 2 * q) := if_neg (by omega)
                rw [this]
                exact f4
              · have : pw_cpy m ((55 + 2 * p) + 1) ((55 + 2 * q) + 1) (iI x) (iI y) (iI z) (55 + 2 * q) = m (55 + 2 * q) := if_neg (by omega)
                rw [this]
                exact f5
              · have hi : i < hL (s.2.2 q) := hi
                have : pw_cpy m ((55 + 2 * p) + 1) ((55 + 2 * q) + 1) (iI x) (iI y) (iI z) (55 + 2 * q + 1) = va_cpy (m (55 + 2 * p + 1)) (m (55 + 2 * q + 1)) (iI x).toNatClampNeg (iI y).toNatClampNeg (iI z).toNatClampNeg := if_pos rfl
                rw [this, iI_clN (by omega), iI_clN (by omega), iI_clN (by omega)]
                show (if y ≤ i ∧ i < y + z then m (55 + 2 * p + 1) (x + (i - y)) else m (55 + 2 * q + 1) i) = iI (if y ≤ i ∧ i < y + z then hE (s.2.2 p) (x + (i - y)) else hE (s.2.2 q) i)
                by_cases ci : y ≤ i ∧ i < y + z
                · rw [if_pos ci, if_pos ci]
                  exact e6 _ (by omega)
                · rw [if_neg ci, if_neg ci]
                  exact f6 i hi
              · exact if_neg h
            · intro m1 hM1
              have k3 := (hM1.2.2.2 p hp).1
              have k4 := (hM1.2.2.2 q hq).1
              obtain ⟨g4, g5, g6⟩ := (hM1.2.2.2 p hp).2.2 hp2
              obtain ⟨i4, i5, i6⟩ := (hM1.2.2.2 q hq).2.2 hq2
              unfold fX11_copy
              rw [r_isShelf m1 h1 h2, bd_some, ite_dec, if_pos cd, r_isShelf m1 h5 h6, bd_some, ite_dec, if_pos ce, gd_ix (a := (p : Int)) (n := 8) (by omega) (by omega) (by omega), CL hp k3, CL hq k4, if_neg np, gd_ix (a := (q : Int)) (n := 8) (by omega) (by omega) (by omega), if_neg nq, gd_ix (a := (p : Int)) (n := 8) (by omega) (by omega) (by omega), if_pos (E2 hp2), gd_ix (a := (q : Int)) (n := 8) (by omega) (by omega) (by omega), if_pos (E2 hq2), gd_ix (a := (p : Int)) (n := 8) (by omega) (by omega) (by omega), gd_ix (a := (q : Int)) (n := 8) (by omega) (by omega) (by omega), CL hp g4, CL hq i4, c3, if_pos rfl, if_neg (NL (by omega) (by omega) c7), if_neg (NL (by omega) (by omega) c5), if_neg (NL (by omega) (by omega) c6), gd_ix (a := (p : Int)) (n := 8) (by omega) (by omega) (by omega), CL hp g5, iI_sub, if_neg (NLL (by omega) (by omega) (by omega) (by omega) (by omega)), gd_ix (a := (q : Int)) (n := 8) (by omega) (by omega) (by omega), CL hq i5, iI_sub, if_pos ((iI_le (by omega) (by omega) (by omega) (by omega)).mpr (by omega))]
              refine lpI2 (fun i v (m6 : pw_Mem) => v = iI (i : Nat) ∧ (∀ k, m6 85 k = if 100 * q + y ≤ k ∧ k < 100 * q + y + z ∧ (if x ≤ y then 100 * q + y + z ≤ k + i else k < 100 * q + y + i) then m1 85 (100 * p + x + (k - (100 * q + y))) else m1 85 k) ∧ ∀ c, c ≠ 85 → m6 c = m1 c) (fun r => ∃ m2 : pw_Mem, r = some (iI (z : Int), m2) ∧ MSh m2 q (2, 0, 0, hS (s.2.2 q), hL (s.2.2 q), fun j => if y ≤ j ∧ j < y + z then hE (s.2.2 p) (x + (j - y)) else hE (s.2.2 q) j) ∧ (∀ q', q' < 8 → q' ≠ q → MSh m2 q' (s.2.2 q')) ∧ ∀ c, c < 80 ∨ 85 < c → m2 c = m1 c) z (by omega) ?_ ?_ ⟨rfl, fun k => ?_, fun _ _ => rfl⟩
              · rintro nx i _ m6 hi ⟨rfl, e6, f6⟩ hnx
                have e1 : iI (i : Int) + iI ((1 : Nat) : Int) = iI ((i + 1 : Nat) : Int) := iN_add i 1
                have e2 : iI ((z : Int) - ((1 : Nat) : Int) - (i : Int)) = iI ((z - 1 - i : Nat) : Int) := congrArg iI (by omega)
                simp (disch := omega) only [iN_lit, jn_def, iI_le, iI_sub, e2, iN_mul, iN_add, gd_ix, iI_clN, lt_def, e1]
                rw [if_neg (by omega)]
                by_cases cx : x ≤ y
                · rw [if_pos (by omega)]
                  refine hnx _ _ ⟨rfl, fun k => ?_, fun c hc => by rw [up_oc hc, f6 c hc]⟩
                  by_cases ck : k = 100 * q + y + (z - 1 - i)
                  · subst ck
                    rw [up_eq, e6, if_neg, if_pos]
                    · exact congrArg (m1 85) (by omega)
                    · rw [if_pos cx]
                      omega
                    · rw [if_pos cx]
                      by_cases cpq : p = q
                      · omega
                      · rcases Nat.lt_or_gt_of_ne cpq with h | h <;> omega
                  · rw [up_ne ck, e6]
                    simp only [if_pos cx]
                    by_cases cz : 100 * q + y ≤ k ∧ k < 100 * q + y + z ∧ 100 * q + y + z ≤ k + i
                    · rw [if_pos cz, if_pos (by omega)]
                    · rw [if_neg cz, if_neg (by omega)]
                · rw [if_neg (by omega)]
                  refine hnx _ _ ⟨rfl, fun k => ?_, fun c hc => by rw [up_oc hc, f6 c hc]⟩
                  by_cases ck : k = 100 * q + y + i
                  · subst ck
                    rw [up_eq, e6, if_neg, if_pos]
                    · exact congrArg (m1 85) (by omega)
                    · rw [if_neg cx]
                      omega
                    · rw [if_neg cx]
                      by_cases cpq : p = q
                      · omega
                      · rcases Nat.lt_or_gt_of_ne cpq with h | h <;> omega
                  · rw [up_ne ck, e6]
                    simp only [if_neg cx]
                    by_cases cz : 100 * q + y ≤ k ∧ k < 100 * q + y + z ∧ k < 100 * q + y + i
                    · rw [if_pos cz, if_pos (by omega)]
                    · rw [if_neg cz, if_neg (by omega)]
              · rintro nx _ m6 ⟨rfl, e6, f6⟩
                simp (disch := omega) only [iI_le]
                rw [if_pos (by omega)]
                have e7 : ∀ k, m6 85 k = if 100 * q + y ≤ k ∧ k < 100 * q + y + z then m1 85 (100 * p + x + (k - (100 * q + y))) else m1 85 k := by
                  intro k
                  rw [e6]
                  by_cases cx : x ≤ y
                  · simp only [if_pos cx]
                    by_cases cz : 100 * q + y ≤ k ∧ k < 100 * q + y + z
                    · rw [if_pos cz, if_pos (by omega)]
                    · rw [if_neg cz, if_neg (by omega)]
                  · simp only [if_neg cx]
                    by_cases cz : 100 * q + y ≤ k ∧ k < 100 * q + y + z
                    · rw [if_pos cz, if_pos (by omega)]
                    · rw [if_neg cz, if_neg (by omega)]
                refine ⟨m6, rfl, ⟨?_, fun e => absurd (show (2 : Nat) = 1 from e) (by decide), fun _ => ⟨?_, ?_, fun i hi => ?_⟩⟩, fun q' hq' ne => ?_, fun c hc => f6 c (by omega)⟩
                · rw [f6 80 (by omega), k4, hq2]
                  rfl
                · rw [f6 83 (by omega)]
                  exact i4
                · rw [f6 84 (by omega)]
                  exact i5
                · have hi : i < hL (s.2.2 q) := hi
                  rw [e7]
                  show _ = iI (if y ≤ i ∧ i < y + z then hE (s.2.2 p) (x + (i - y)) else hE (s.2.2 q) i)
                  by_cases ci : y ≤ i ∧ i < y + z
                  · rw [if_pos ci, if_pos (by omega), ← g6 (x + (i - y)) (by omega)]
                    exact congrArg (m1 85) (by omega)
                  · rw [if_neg ci, if_neg (by omega)]
                    exact i6 i hi
                · obtain ⟨j1, j2, j3⟩ := hM1.2.2.2 q' hq'
                  unfold MSh
                  rw [f6 80 (by omega), f6 81 (by omega), f6 82 (by omega), f6 83 (by omega), f6 84 (by omega)]
                  refine ⟨j1, j2, fun h => ?_⟩
                  obtain ⟨j4, j5, j6⟩ := j3 h
                  refine ⟨j4, j5, fun j hj => ?_⟩
                  have := ((w.2.2 q' hq').2.2 h).2.1
                  rw [e7, if_neg]
                  · exact j6 j hj
                  · rcases Nat.lt_or_gt_of_ne ne with h | h <;> omega
              · rw [if_neg]
                split <;> omega
          · refine op_same hs0 (r := -13) ?_ ?_
            · unfold fX10_copy fX5_hasPart
              rw [c_isShelf m h1 h2, bd_some, ite_dec, if_pos cd, c_isShelf m h5 h6, bd_some, ite_dec, if_pos ce, gd_ix (a := (p : Int)) (n := 8) (by omega) (by omega) (by omega), gd_ix (a := (q : Int)) (n := 8) (by omega) (by omega) (by omega), iI_clN (n := p) (by omega), iI_clN (n := q) (by omega), k1, k2, if_neg np, if_neg nq, if_pos (E2 hp2), if_pos (E2 hq2), e4, f4, c3, if_pos rfl]
              by_cases n5 : z < 0
              · rw [if_pos (YL h9 h10 n5)]
              · rw [if_neg (NL h9 h10 (by omega))]
                by_cases n2 : x < 0
                · rw [if_pos (YL h3 h4 n2), bd_some, if_neg (by decide)]
                · rw [if_neg (NL h3 h4 (by omega)), e5, iI_sub]
                  by_cases n3 : (hL (s.2.2 p) : Int) < x
                  · rw [if_pos (YLL (by omega) (by omega) (by omega) (by omega) (by omega)), bd_some, if_neg (by decide)]
                  · rw [if_neg (NLL (by omega) (by omega) (by omega) (by omega) (by omega))]
                    by_cases n4 : (hL (s.2.2 p) : Int) - x < z
                    · rw [if_pos (YLL (by omega) (by omega) (by omega) (by omega) (by omega)), bd_some, if_neg (by decide)]
                    · rw [if_neg (NLL (by omega) (by omega) (by omega) (by omega) (by omega)), bd_some, if_pos rfl]
                      by_cases n6 : y < 0
                      · rw [if_pos (YL h7 h8 n6), bd_some, if_neg (by decide)]
                      · rw [if_neg (NL h7 h8 (by omega)), f5, iI_sub]
                        by_cases n7 : (hL (s.2.2 q) : Int) < y
                        · rw [if_pos (YLL (by omega) (by omega) (by omega) (by omega) (by omega)), bd_some, if_neg (by decide)]
                        · rw [if_neg (NLL (by omega) (by omega) (by omega) (by omega) (by omega)), if_pos (YLL (by omega) (by omega) (by omega) (by omega) (by omega)), bd_some, if_neg (by decide)]
            · unfold fX11_copy
              rw [r_isShelf m h1 h2, bd_some, ite_dec, if_pos cd, r_isShelf m h5 h6, bd_some, ite_dec, if_pos ce, gd_ix (a := (p : Int)) (n := 8) (by omega) (by omega) (by omega), CL hp k3, CL hq k4, if_neg np, gd_ix (a := (q : Int)) (n := 8) (by omega) (by omega) (by omega), if_neg nq, gd_ix (a := (p : Int)) (n := 8) (by omega) (by omega) (by omega), if_pos (E2 hp2), gd_ix (a := (q : Int)) (n := 8) (by omega) (by omega) (by omega), if_pos (E2 hq2), gd_ix (a := (p : Int)) (n := 8) (by omega) (by omega) (by omega), gd_ix (a := (q : Int)) (n := 8) (by omega) (by omega) (by omega), CL hp g4, CL hq i4, c3, if_pos rfl]
              by_cases n5 : z < 0
              · rw [if_pos (YL h9 h10 n5)]
              · rw [if_neg (NL h9 h10 (by omega))]
                by_cases n2 : x < 0
                · rw [if_pos (YL h3 h4 n2)]
                · rw [if_neg (NL h3 h4 (by omega))]
                  by_cases n6 : y < 0
                  · rw [if_pos (YL h7 h8 n6)]
                  · rw [if_neg (NL h7 h8 (by omega)), gd_ix (a := (p : Int)) (n := 8) (by omega) (by omega) (by omega), CL hp g5, iI_sub]
                    by_cases n4 : (hL (s.2.2 p) : Int) - x < z
                    · rw [if_pos (YLL (by omega) (by omega) (by omega) (by omega) (by omega))]
                    · rw [if_neg (NLL (by omega) (by omega) (by omega) (by omega) (by omega)), gd_ix (a := (q : Int)) (n := 8) (by omega) (by omega) (by omega), CL hq i5, iI_sub, if_neg]
                      rw [iI_le (by omega) (by omega) (by omega) (by omega)]
                      omega
        · refine op_same hs0 (r := -12) ?_ ?_
          · unfold fX10_copy
            rw [c_isShelf m h1 h2, bd_some, ite_dec, if_pos cd, c_isShelf m h5 h6, bd_some, ite_dec, if_pos ce, gd_ix (a := (p : Int)) (n := 8) (by omega) (by omega) (by omega), gd_ix (a := (q : Int)) (n := 8) (by omega) (by omega) (by omega), iI_clN (n := p) (by omega), iI_clN (n := q) (by omega), k1, k2, if_neg np, if_neg nq, if_pos (E2 hp2), if_pos (E2 hq2), e4, f4, if_neg (NEE (by omega) (by omega) c3)]
          · unfold fX11_copy
            rw [r_isShelf m h1 h2, bd_some, ite_dec, if_pos cd, r_isShelf m h5 h6, bd_some, ite_dec, if_pos ce, gd_ix (a := (p : Int)) (n := 8) (by omega) (by omega) (by omega), CL hp k3, CL hq k4, if_neg np, gd_ix (a := (q : Int)) (n := 8) (by omega) (by omega) (by omega), if_neg nq, gd_ix (a := (p : Int)) (n := 8) (by omega) (by omega) (by omega), if_pos (E2 hp2), gd_ix (a := (q : Int)) (n := 8) (by omega) (by omega) (by omega), if_pos (E2 hq2), gd_ix (a := (p : Int)) (n := 8) (by omega) (by omega) (by omega), gd_ix (a := (q : Int)) (n := 8) (by omega) (by omega) (by omega), CL hp g4, CL hq i4, if_neg (NEE (by omega) (by omega) c3)]
      · refine op_same hs0 (r := -12) ?_ ?_
        · unfold fX10_copy
          rw [c_isShelf m h1 h2, bd_some, ite_dec, if_pos cd, c_isShelf m h5 h6, bd_some, ite_dec, if_pos ce, gd_ix (a := (p : Int)) (n := 8) (by omega) (by omega) (by omega), gd_ix (a := (q : Int)) (n := 8) (by omega) (by omega) (by omega), iI_clN (n := p) (by omega), iI_clN (n := q) (by omega), k1, k2, if_neg np, if_neg nq]
          by_cases c5 : hH (s.2.2 p) = 2
          · rw [if_pos (E2 c5), if_neg (N2 b2 (by omega))]
          · rw [if_neg (N2 b1 c5)]
        · unfold fX11_copy
          rw [r_isShelf m h1 h2, bd_some, ite_dec, if_pos cd, r_isShelf m h5 h6, bd_some, ite_dec, if_pos ce, gd_ix (a := (p : Int)) (n := 8) (by omega) (by omega) (by omega), CL hp k3, CL hq k4, if_neg np, gd_ix (a := (q : Int)) (n := 8) (by omega) (by omega) (by omega), if_neg nq, gd_ix (a := (p : Int)) (n := 8) (by omega) (by omega) (by omega)]
          by_cases c5 : hH (s.2.2 p) = 2
          · rw [if_pos (E2 c5), gd_ix (a := (q : Int)) (n := 8) (by omega) (by omega) (by omega), if_neg (N2 b2 (by omega))]
          · rw [if_neg (N2 b1 c5)]
  · refine op_same hs0 (r := -1) ?_ ?_
    · unfold fX10_copy
      rw [c_isShelf m h1 h2, bd_some, ite_dec]
      by_cases c1 : 0 ≤ d ∧ d < 8
      · rw [if_pos c1, c_isShelf m h5 h6, bd_some, ite_dec, if_neg (by omega)]
      · rw [if_neg c1]
    · unfold fX11_copy
      rw [r_isShelf m h1 h2, bd_some, ite_dec]
      by_cases c1 : 0 ≤ d ∧ d < 8
      · rw [if_pos c1, r_isShelf m h5 h6, bd_some, ite_dec, if_neg (by omega)]
      · rw [if_neg c1]
