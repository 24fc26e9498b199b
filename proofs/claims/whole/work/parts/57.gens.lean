/-! CALLS: generations -/
set_option maxRecDepth 100000
def sdn (s : Int32) : Int32 := s * 1103515245 + 12345
def drN (s : Int32) (k : Nat) : Nat := (s.toBitVec.toNat &&& 2147483647) / 65536 % k
theorem msk31 (s : Int32) : s &&& 2147483647 = iI ((s.toBitVec.toNat &&& 2147483647 : Nat) : Int) := by
  have h : s.toBitVec.toNat &&& 2147483647 ≤ 2147483647 := Nat.and_le_right
  have e : (2147483647 : Int32).toBitVec.toNat = 2147483647 := by decide
  apply Int32.toBitVec_inj.mp
  rw [Int32.toBitVec_and, iI_bv]
  apply BitVec.eq_of_toNat_eq
  rw [BitVec.toNat_and, BitVec.toNat_ofNat, e, Nat.mod_eq_of_lt (by omega)]
theorem drE (s : Int32) {k : Nat} (hk : 0 < k) (hk2 : k < 100000) : (s &&& 2147483647) / 65536 - (s &&& 2147483647) / 65536 / iI (k : Int) * iI (k : Int) = iI (drN s k : Nat) := by
  have h : s.toBitVec.toNat &&& 2147483647 ≤ 2147483647 := Nat.and_le_right
  unfold drN
  rw [msk31]
  obtain ⟨u, hu⟩ : ∃ u, u = s.toBitVec.toNat &&& 2147483647 := ⟨_, rfl⟩
  rw [← hu] at h ⊢
  have e1 : iI ((u : Nat) : Int) / 65536 = iI ((u / 65536 : Nat) : Int) := iI_div (a := u) (b := 65536) (by omega) (by omega) (by omega) (by omega)
  have e2 : iI ((u / 65536 : Nat) : Int) / iI (k : Int) = iI ((u / 65536 / k : Nat) : Int) := iI_div (by omega) (by omega) (by omega) (by omega)
  rw [e1, e2, iN_mul, iI_sub]
  have h1 := Nat.div_add_mod (u / 65536) k
  have h2 : u / 65536 / k * k = k * (u / 65536 / k) := Nat.mul_comm _ _
  exact congrArg iI (by omega)
theorem c_draw (m : pw_Mem) {k : Nat} (hk : 0 < k) (hk2 : k < 100000) : fX1_drawBelow (iI (k : Int)) m = some (iI (drN (sdn (m 53 2)) k : Nat), pw_up m 53 2 (sdn (m 53 2))) := by
  unfold fX1_drawBelow
  rw [lt_def, n0, leF (by omega), up_eq, gd_true (by rw [iI_eq (by omega) (by omega) (by omega) (by omega)]; omega)]
  have := drE (sdn (m 53 2)) hk hk2
  exact congrArg (fun v => some (v, pw_up m 53 2 (sdn (m 53 2)))) this
theorem r_draw (m : pw_Mem) {k : Nat} (hk : 0 < k) (hk2 : k < 100000) : fX11_drawn (iI (k : Int)) m = some (iI (drN (sdn (m 71 14)) k : Nat), pw_up m 71 14 (sdn (m 71 14))) := by
  unfold fX11_drawn
  rw [lt_def, n0, up_eq, gd_true (by rw [iI_eq (by omega) (by omega) (by omega) (by omega)]; omega)]
  have := drE (sdn (m 71 14)) hk hk2
  exact congrArg (fun v => some (v, pw_up m 71 14 (sdn (m 71 14)))) this
def sq (z : Int32) : Nat → Int32
  | 0 => z
  | j + 1 => sdn (sq z j)
theorem sq_s (z : Int32) (j : Nat) : sq z (j + 1) = sdn (sq z j) := rfl
def pD (z : Int32) (N k i : Nat) : Nat := drN (sq z (20 * k + 2 * i + 1)) N
def xD (z : Int32) (k i : Nat) : Nat := drN (sq z (20 * k + 2 * i + 2)) 31
theorem pD_lt (z : Int32) {N : Nat} (h : 0 < N) (k i : Nat) : pD z N k i < N := Nat.mod_lt _ h
theorem xD_le (z : Int32) (k i : Nat) : xD z k i ≤ 30 := by
  have : xD z k i < 31 := Nat.mod_lt _ (by omega)
  omega
def gD (t : TT) (z : Int32) (k : Nat) : Nat → TT := gG t (pD z (tN t) k) (xD z k)
theorem gD_n (t : TT) (z : Int32) (k i : Nat) : tN (gD t z k i) = tN t ∧ tK (gD t z k i) = tK t := gG_n _ _ _ i
theorem WT_gD {t : TT} (w : WT t) (z : Int32) (k i : Nat) : WT (gD t z k i) := WT_gG w (fun j _ => xD_le z k j)
theorem n31 : (31 : Int32) = iI ((31 : Nat) : Int) := rfl
theorem c_live {m : pw_Mem} {s : SS} (hC : CS m s) (w : WS s) (hN : 0 < tN s.1) {z : Int32} {k : Nat} (hz : m 53 2 = sq z (20 * k)) : ∃ m1 : pw_Mem, fX1_liveOne m = some m1 ∧ CT m1 13 (gD s.1 z k 10) ∧ m1 53 2 = sq z (20 * (k + 1)) ∧ ∀ c, c < 13 ∨ 24 < c → c ≠ 53 → m1 c = m c := by
  have w1 := w.1.1
  have h7 := w1.1.1
  obtain ⟨m1, q1, g1, f1⟩ := c_mind hC w
  unfold fX1_liveOne
  rw [q1, bd_some]
  refine lpI2 (fun i v (m3 : pw_Mem) => v = iI (i : Nat) ∧ m3 53 2 = sq z (20 * k + 2 * i) ∧ CT m3 13 (gD s.1 z k i) ∧ ∀ c, c < 13 ∨ 24 < c → c ≠ 53 → m3 c = m c) (fun r => ∃ m1 : pw_Mem, r = some m1 ∧ CT m1 13 (gD s.1 z k 10) ∧ m1 53 2 = sq z (20 * (k + 1)) ∧ ∀ c, c < 13 ∨ 24 < c → c ≠ 53 → m1 c = m c) 10 (by omega) ?_ ?_ ⟨rfl, by rw [f1 53 (by omega)]; exact hz, g1, fun c hc _ => f1 c hc⟩
  · rintro nx i _ m3 hi ⟨rfl, hq, h3, f3⟩ hnx
    have gn := gD_n s.1 z k i
    have wg := WT_gD w1 z k i
    have eN : m3 13 11 = iI (tN s.1 : Nat) := by rw [h3.1.1, gn.1]
    have d1 := c_draw m3 hN (by omega)
    rw [hq, ← sq_s] at d1
    obtain ⟨m7, hm7⟩ : ∃ m7, m7 = pw_up m3 53 2 (sq z (20 * k + 2 * i + 1)) := ⟨_, rfl⟩
    have d2 := c_draw m7 (k := 31) (by omega) (by omega)
    have e7 : m7 53 2 = sq z (20 * k + 2 * i + 1) := by rw [hm7, up_eq]
    rw [e7, ← sq_s] at d2
    rw [← hm7] at d1
    have h8 : CT (pw_up m7 53 2 (sq z (20 * k + 2 * i + 1 + 1))) 13 (gD s.1 z k i) := CT_frame h3 (fun c c1 c2 => by rw [up_oc (by omega), hm7, up_oc (by omega)])
    have xl := xD_le z k i
    have pl := pD_lt z hN k i
    obtain ⟨m9, q9, g9, f9⟩ := c_moves h8 wg (p := pD z (tN s.1) k i) (x := xD z k i) (by omega) xl
    have d1' : fX1_drawBelow (iI (tN s.1 : Int)) m3 = some (iI (pD z (tN s.1) k i : Nat), m7) := d1
    have d2' : fX1_drawBelow (31 : Int32) m7 = some (iI (xD z k i : Nat), pw_up m7 53 2 (sq z (20 * k + 2 * i + 1 + 1))) := d2
    rw [n10, leF (by omega), eN, d1', bd2_some, d2', bd2_some, q9, bd2_some, lt_def, inc1]
    refine hnx _ _ ⟨rfl, ?_, g9, fun c hc h53 => by rw [f9 c (by omega) (by omega) (by omega), up_oc h53, hm7, up_oc h53, f3 c hc h53]⟩
    rw [f9 53 (by omega) (by omega) (by omega), up_eq]
    rfl
  · rintro nx _ m3 ⟨rfl, hq, h3, f3⟩
    rw [n10, leT (by omega)]
    exact ⟨m3, rfl, h3, hq, f3⟩
def sumI (f : Nat → Int) : Nat → Int
  | 0 => 0
  | k + 1 => sumI f k + f k
def dSn (t : TT) (z : Int32) (k : Nat) : Int := (cnt (tX (gD t z k 10)) (tK t) : Nat) - (cnt (tX t) (tK t) : Nat)
def dSt (t : TT) (z : Int32) (k : Nat) : Int := (sumN (tS (gD t z k 10)) (tN t) : Nat) - (sumN (tS t) (tN t) : Nat)
theorem CS_53 {m m' : pw_Mem} {s : SS} (h : CS m s) (hf : ∀ c, c < 13 ∨ 24 < c → c ≠ 53 → m' c = m c) : CS m' s := CS_f h (fun c hc => hf c (by omega) (by omega))
theorem c_harm {m : pw_Mem} {s : SS} (hC : CS m s) (w : WS s) (hN : 0 < tN s.1) (z : Int32) {n q : Nat} (hn : n ≤ 20) (hq : q ≤ 1) : ∃ m1 : pw_Mem, fX1_harmOf (iI (n : Int)) z (iI (q : Int)) m = some (iI (sumI (if q = 0 then dSt s.1 z else dSn s.1 z) n), m1) ∧ ∀ c, c < 13 ∨ 24 < c → c ≠ 53 → m1 c = m c := by
  have w1 := w.1.1
  unfold fX1_harmOf
  rw [lt_def]
  refine lpI3 (fun k v2 v3 (m4 : pw_Mem) => v2 = iI (sumI (if q = 0 then dSt s.1 z else dSn s.1 z) k) ∧ v3 = iI (k : Nat) ∧ m4 53 2 = sq z (20 * k) ∧ ∀ c, c < 13 ∨ 24 < c → c ≠ 53 → m4 c = m c) (fun r => ∃ m1 : pw_Mem, r = some (iI (sumI (if q = 0 then dSt s.1 z else dSn s.1 z) n), m1) ∧ ∀ c, c < 13 ∨ 24 < c → c ≠ 53 → m1 c = m c) n (by omega) ?_ ?_ ⟨rfl, rfl, by rw [up_eq]; rfl, fun c _ h => up_oc h⟩
  · rintro nx k _ _ m4 hk ⟨rfl, rfl, hz, f4⟩ hnx
    have hC4 := CS_53 hC f4
    obtain ⟨m7, q7, g7, z7, f7⟩ := c_live hC4 w hN hz
    have gn := gD_n s.1 z k 10
    have wg := WT_gD w1 z k 10
    have fr : ∀ c, c < 13 ∨ 24 < c → c ≠ 53 → m7 c = m c := fun c hc h => by rw [f7 c hc h, f4 c hc h]
    have hC7 := CS_53 hC fr
    have s1 := c_snappedCount g7 wg
    have s2 := c_snappedCount hC7.1 w1
    have s3 := c_allStung g7 wg
    have s4 := c_allStung hC7.1 w1
    rw [gn.2] at s1
    rw [gn.1] at s3
    rw [leF (by omega), q7, bd_some, jn_def, n0]
    have e : sumI (if q = 0 then dSt s.1 z else dSn s.1 z) (k + 1) = sumI (if q = 0 then dSt s.1 z else dSn s.1 z) k + (if q = 0 then dSt s.1 z else dSn s.1 z) k := rfl
    by_cases h : q = 0
    · rw [eqT (by omega), s3, bd_some, s4, bd_some]
      simp only [iI_sub, iI_add, lt_def, inc1]
      refine hnx _ _ _ ⟨?_, rfl, z7, fr⟩
      rw [e]
      simp only [if_pos h]
      rfl
    · rw [eqF (by omega), s1, bd_some, s2, bd_some]
      simp only [iI_sub, iI_add, lt_def, inc1]
      refine hnx _ _ _ ⟨?_, rfl, z7, fr⟩
      rw [e]
      simp only [if_neg h]
      rfl
  · rintro nx _ _ m4 ⟨rfl, rfl, hz, f4⟩
    rw [leT (by omega)]
    exact ⟨m4, rfl, f4⟩
theorem cnt_nw {t u : TT} {k : Nat} (hm : ∀ b, b < k → tX t b = true → tX u b = true) : cnt (nw t u) k + cnt (tX t) k = cnt (tX u) k := cnt_sub hm
theorem op_generations {m : pw_Mem} (hs : Sim m) (a1 a2 a3 : Int32) : OpWW (fX10_generations a1 a2 a3) (fX11_generations a1 a2 a3) m := by
  have hs0 := hs
  obtain ⟨s, hC, hM, w⟩ := hs
  obtain ⟨x, rfl, h1, h2⟩ := rg a1
  obtain ⟨y, rfl, h3, h4⟩ := rg a3
  have w1 := w.1.1
  have hk := w1.1.2.1
  have h7 := w1.1.1
  have i20 : ∀ m', fX11_isIn (iI x) 1 20 m' = some (decide (1 ≤ x ∧ x ≤ 20)) := fun m' => r_isIn x 1 20 m' (by omega) (by omega) (by omega)
  have n20 : (20 : Int32) = iI ((20 : Nat) : Int) := rfl
  by_cases cx : 1 ≤ x ∧ x ≤ 20
  · by_cases cy : 0 ≤ y ∧ y ≤ 1
    · obtain ⟨n, rfl⟩ := Int.eq_ofNat_of_zero_le (show 0 ≤ x by omega)
      by_cases cN : tN s.1 = 0
      · refine op_same hs0 (r := -3) ?_ ?_
        · unfold fX10_generations
          rw [n1, ltF (by omega), n20, ltF (by omega), ← n1, upTo1 _ h3 h4, bd_some, ite_dec, if_pos cy, hC.1.1.1, n1, leF (by omega)]
        · have eN : m 72 (0 : Int32).toNatClampNeg = iI (tN s.1 : Nat) := hM.1.1.1
          unfold fX11_generations
          rw [i20, bd_some, ite_dec, if_pos cx, isIn01 _ h3 h4, bd_some, ite_dec, if_pos cy, gd_true (by decide), eN, cN, if_pos (by rfl)]
      · have hN : 0 < tN s.1 := by omega
        obtain ⟨R, hR⟩ : ∃ R, R = iI (sumI (if y = 0 then dSn s.1 a2 else dSt s.1 a2) n) := ⟨_, rfl⟩
        refine op_calc hC hM w (r := R) ?_ ?_
        · unfold fX10_generations
          rw [n1, ltF (by omega), n20, ltF (by omega), ← n1, upTo1 _ h3 h4, bd_some, ite_dec, if_pos cy, hC.1.1.1, n1, leT (by omega), n0]
          by_cases h : y = 0
          · obtain ⟨m1, q1, f1⟩ := c_harm hC w hN a2 (n := n) (q := 1) (by omega) (by omega)
            rw [if_neg (by decide)] at q1
            rw [eqT (by omega), q1, bd2_some, hR, if_pos h]
            exact ⟨m1, rfl, fun c hc => f1 c (by omega) (by omega)⟩
          · obtain ⟨m1, q1, f1⟩ := c_harm hC w hN a2 (n := n) (q := 0) (by omega) (by omega)
            rw [if_pos rfl] at q1
            rw [eqF (by omega), q1, bd2_some, hR, if_neg h]
            exact ⟨m1, rfl, fun c hc => f1 c (by omega) (by omega)⟩
        · intro m1 hM1
          have eN1 : m1 72 (0 : Int32).toNatClampNeg = iI (tN s.1 : Nat) := hM1.1.1.1
          unfold fX11_generations
          rw [i20, bd_some, ite_dec, if_pos cx, isIn01 _ h3 h4, bd_some, ite_dec, if_pos cy, gd_true (by decide), eN1, if_neg (show ¬ iI (tN s.1 : Int) = 0 by rw [n0, iI_eq (by omega) (by omega) (by omega) (by omega)]; omega), lt_def]
          refine lpI4 (fun k v4 v5 v6 (m7 : pw_Mem) => v4 = iI (sumI (dSn s.1 a2) k) ∧ v5 = iI (sumI (dSt s.1 a2) k) ∧ v6 = iI (k : Nat) ∧ m7 71 14 = sq a2 (20 * k) ∧ m7 71 5 = m1 71 5 ∧ ∀ c, c ≠ 71 → c ≠ 73 → m7 c = m1 c) (fun r => ∃ m2 : pw_Mem, r = some (R, m2) ∧ m2 71 5 = m1 71 5 ∧ ∀ c, (c < 71 ∨ c = 72 ∨ c = 74 ∨ 80 ≤ c) → m2 c = m1 c) n (by omega) ?_ ?_ ⟨rfl, rfl, rfl, by rw [up_eq]; rfl, by rw [up_ne (by omega)], fun c h _ => up_oc h⟩
          · rintro nx k _ _ _ m7 hkn ⟨rfl, rfl, rfl, hz, h5, f7⟩ hnx
            have hM7 : MS m7 s := MS_f hM1 h5 (fun c hc => f7 c (by omega) (by omega))
            obtain ⟨m8, q8, g8, f8⟩ := r_work hM7 w
            rw [leF (by omega), q8, bd_some]
            refine lpI3 (fun i v13 v14 (m9 : pw_Mem) => v13 = iI (sumI (dSn s.1 a2) k + (cnt (nw s.1 (gD s.1 a2 k i)) (tK s.1) : Nat)) ∧ v14 = iI (i : Nat) ∧ m9 71 14 = sq a2 (20 * k + 2 * i) ∧ RT m9 73 (gD s.1 a2 k i) ∧ m9 71 5 = m1 71 5 ∧ ∀ c, c ≠ 71 → c ≠ 73 → m9 c = m1 c) (fun r => ∃ m2 : pw_Mem, r = some (R, m2) ∧ m2 71 5 = m1 71 5 ∧ ∀ c, (c < 71 ∨ c = 72 ∨ c = 74 ∨ 80 ≤ c) → m2 c = m1 c) 10 (by omega) ?_ ?_ ⟨by
              have : cnt (nw s.1 (gD s.1 a2 k 0)) (tK s.1) = 0 := (nw_0 s.1 _).1
              rw [this]
              exact congrArg iI (by omega), rfl, by rw [f8 71 (by omega)]; exact hz, g8, by rw [f8 71 (by omega)]; exact h5, fun c c1 c2 => by rw [f8 c c2, f7 c c1 c2]⟩
            · rintro nx2 i _ _ m9 hi ⟨rfl, rfl, hq, h9, h95, f9⟩ hnx2
              have gn := gD_n s.1 a2 k i
              have wg := WT_gD w1 a2 k i
              have eN : m9 72 (0 : Int32).toNatClampNeg = iI (tN s.1 : Nat) := by rw [f9 72 (by omega) (by omega)]; exact eN1
              have d1 := r_draw m9 hN (by omega)
              rw [hq, ← sq_s] at d1
              obtain ⟨m10, hm10⟩ : ∃ m10, m10 = pw_up m9 71 14 (sq a2 (20 * k + 2 * i + 1)) := ⟨_, rfl⟩
              have d2 := r_draw m10 (k := 31) (by omega) (by omega)
              have e10 : m10 71 14 = sq a2 (20 * k + 2 * i + 1) := by rw [hm10, up_eq]
              rw [e10, ← sq_s] at d2
              rw [← hm10] at d1
              have h11 : RT (pw_up m10 71 14 (sq a2 (20 * k + 2 * i + 1 + 1))) 73 (gD s.1 a2 k i) := RT_frame h9 (by rw [up_oc (by omega), hm10, up_oc (by omega)])
              have xl := xD_le a2 k i
              have pl := pD_lt a2 hN k i
              obtain ⟨m12, q12, g12, f12⟩ := r_goesTo h11 wg (p := pD a2 (tN s.1) k i) (x := xD a2 k i) (by omega) xl
              rw [gn.2] at q12
              have d1' : fX11_drawn (iI (tN s.1 : Int)) m9 = some (iI (pD a2 (tN s.1) k i : Nat), m10) := d1
              have d2' : fX11_drawn (31 : Int32) m10 = some (iI (xD a2 k i : Nat), pw_up m10 71 14 (sq a2 (20 * k + 2 * i + 1 + 1))) := d2
              have nc := nw_cnt (t := s.1) (u := mvG s.1 (pD a2 (tN s.1) k) (xD a2 k) i) (k := tK s.1) gn.2 (fun b hb h => gG_m hb h i)
              rw [n10, leF (by omega), gd_true (by decide), eN, d1', bd2_some, d2', bd2_some, q12, bd2_some, r_bitsM _ hk, bd_some, iI_add, lt_def, lt_def, inc1]
              refine hnx2 _ _ _ ⟨?_, rfl, ?_, g12, ?_, fun c c1 c2 => by rw [f12 c c2, up_oc c1, hm10, up_oc c1, f9 c c1 c2]⟩
              · have e1 : cnt (nw s.1 (gD s.1 a2 k (i + 1))) (tK s.1) = cnt (nw s.1 (tryT (mvG s.1 (pD a2 (tN s.1) k) (xD a2 k) i))) (tK s.1) := rfl
                have e2 : cnt (nw s.1 (mvG s.1 (pD a2 (tN s.1) k) (xD a2 k) i)) (tK s.1) = cnt (nw s.1 (gD s.1 a2 k i)) (tK s.1) := rfl
                have e3 : cnt (ovr (sP (gD s.1 a2 k i) (up1 (tP (gD s.1 a2 k i)) (pD a2 (tN s.1) k i) (xD a2 k i)))) (tK s.1) = cnt (ovr (mvG s.1 (pD a2 (tN s.1) k) (xD a2 k) i)) (tK s.1) := rfl
                rw [e1, e3]
                rw [e2] at nc
                exact congrArg iI (by omega)
              · rw [f12 71 (by omega), up_eq]
                rfl
              · rw [f12 71 (by omega), up_ne (by omega), hm10, up_ne (by omega)]
                exact h95
            · rintro nx2 _ _ m9 ⟨rfl, rfl, hq, h9, h95, f9⟩
              have hM9 : MS m9 s := MS_f hM1 h95 (fun c hc => f9 c (by omega) (by omega))
              have gn := gD_n s.1 a2 k 10
              have wg := WT_gD w1 a2 k 10
              have s3 := r_stungAll h9 wg
              have s4 := r_stungAll hM9.1 w1
              rw [gn.1] at s3
              have cn := cnt_nw (t := s.1) (u := gD s.1 a2 k 10) (k := tK s.1) (fun b hb h => gG_m hb h 10)
              rw [n10, leT (by omega), s3, bd_some, s4, bd_some, iI_sub, iI_add, lt_def, lt_def, inc1]
              refine hnx _ _ _ _ ⟨?_, rfl, rfl, hq, h95, f9⟩
              have e : sumI (dSn s.1 a2) (k + 1) = sumI (dSn s.1 a2) k + dSn s.1 a2 k := rfl
              rw [e]
              unfold dSn
              exact congrArg iI (by omega)
          · rintro nx _ _ _ m7 ⟨rfl, rfl, rfl, hz, h5, f7⟩
            rw [leT (by omega), n0]
            by_cases h : y = 0
            · rw [eqT (by omega), hR, if_pos h]
              exact ⟨m7, rfl, h5, fun c hc => f7 c (by omega) (by omega)⟩
            · rw [eqF (by omega), hR, if_neg h]
              exact ⟨m7, rfl, h5, fun c hc => f7 c (by omega) (by omega)⟩
    · refine op_same hs0 (r := -1) ?_ ?_
      · unfold fX10_generations
        rw [n1, ltF (by omega), n20, ltF (by omega), ← n1, upTo1 _ h3 h4, bd_some, ite_dec, if_neg cy]
      · unfold fX11_generations
        rw [i20, bd_some, ite_dec, if_pos cx, isIn01 _ h3 h4, bd_some, ite_dec, if_neg cy]
  · refine op_same hs0 (r := -1) ?_ ?_
    · unfold fX10_generations
      rw [n1]
      by_cases k : x < 1
      · rw [ltT (by omega)]
      · rw [ltF (by omega), n20, ltT (by omega)]
    · unfold fX11_generations
      rw [i20, bd_some, ite_dec, if_neg cx]
