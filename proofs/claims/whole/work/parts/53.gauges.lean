/-! CALLS: gauges, the call -/
set_option maxRecDepth 100000
def kP (h : ShT) (f k : Nat) : Bool := allB (okB h k f) (hL h)
theorem c_kinds {m : pw_Mem} {s : SS} (hC : CS m s) (w : WS s) {n : Nat} (hn : n < 8) (hh : hH (s.2.2 n) = 2) {f : Nat} (hf : f ≤ 9) : fX2_kindsPullingAs (55 + 2 * n) (iI f) m = some (iI (msk (kP (s.2.2 n) f) 8 : Nat)) := by
  obtain ⟨P, hP⟩ : ∃ P, P = kP (s.2.2 n) f := ⟨_, rfl⟩
  have cp : ∀ i : Nat, i < 8 → fX2_pullsAs (55 + 2 * n) (iI i) (iI f) m = some (P i) := fun i hi => by
    rw [hP]
    exact c_pullsAs hC w hn hh (by omega) hf
  rw [← hP]
  clear hP
  unfold fX2_kindsPullingAs
  refine lpI2 (fun i v1 v2 => v1 = iI (msk P i : Nat) ∧ v2 = iI (i : Nat)) (fun r => r = some (iI (msk P 8 : Nat))) 8 (by omega) ?_ ?_ ⟨rfl, rfl⟩
  · rintro nx i _ _ hi ⟨rfl, rfl⟩ hnx
    rw [n7, ltF (by omega), cp i hi, bd_some, jn_def]
    cases hk : P i
    · rw [itF]
      simp only [lt_def, inc1, mskF hk (show i < 30 by omega)]
      exact hnx _ _ ⟨rfl, rfl⟩
    · rw [itT]
      simp only [lt_def, inc1, mskT hk (show i < 30 by omega)]
      exact hnx _ _ ⟨rfl, rfl⟩
  · rintro nx _ _ ⟨rfl, rfl⟩
    rw [n7, ltT (by omega)]
theorem r_gin {m : pw_Mem} {s : SS} (hM : MS m s) (w : WS s) {n : Nat} (hn : n < 8) (hh : hH (s.2.2 n) = 2) {k f : Nat} (hk : k ≤ 7) (hf : f ≤ 9) (FIN : Int32 → Option Int32) : lp (κ := Int32 → Int32 → Option Int32) (fun _ _ => none) (fun nx13 v11 v12 => gd (ix (iI (n : Int)) 8) (if (m 84 (iI (n : Int)).toNatClampNeg) ≤ v12 then FIN v11 else gd (ix (((100 : Int32) * iI (n : Int)) + v12) 800) (lt (m 85 (((100 : Int32) * iI (n : Int)) + v12).toNatClampNeg) fun x22 => gd (ix (iI (n : Int)) 8) (bd (fX11_leastOf (m 83 (iI (n : Int)).toNatClampNeg) m) fun y23 => jn (κ := Int32 → Option Int32) (fun w24 => lt (v11 &&& w24) fun x25 => lt (v12 + (1 : Int32)) fun x26 => nx13 x25 x26) (fun k27 => jn (κ := Option Int32) (k27 (1 : Int32)) (fun k29 => if x22 = y23 then k29 else bd (fX11_slack (iI (k : Int)) (iI (f : Int)) m) fun y31 => bd (fX11_most (0 : Int32) (v12 - y31) m) fun y32 => bd (fX11_gauge (iI (k : Int)) m) fun y33 => if x22 = (y32 * y33) then k29 else k27 (0 : Int32))))))) FU (1 : Int32) (0 : Int32) = FIN (iI (if kP (s.2.2 n) f k = true then 1 else 0)) := by
  obtain ⟨eL, eS, wL, w3⟩ := r_rw hM w hn hh
  have sl := slk_le (k := k) hf
  refine lpI2 (fun j v11 v12 => v11 = iI (if allB (okB (s.2.2 n) k f) j = true then 1 else 0) ∧ v12 = iI (j : Nat)) (fun r => r = FIN (iI (if allB (okB (s.2.2 n) k f) (hL (s.2.2 n)) = true then 1 else 0))) (hL (s.2.2 n)) (by omega) ?_ ?_ ⟨rfl, rfl⟩
  · rintro nx2 j _ _ hj ⟨rfl, rfl⟩ hnx2
    obtain ⟨ea, eE, we, h8⟩ := r_el hM w hn hh hj
    have lb := lst_b (hS (s.2.2 n))
    have pb := pvl_le (k := k) (f := f) (show j ≤ 100 by omega)
    have mst : fX11_most 0 (iI (j : Int) - iI ((slk k f : Nat) : Int)) m = some (iI ((j - slk k f : Nat) : Int)) := by
      rw [iI_sub]
      have := r_most0 ((j : Int) - ((slk k f : Nat) : Int)) m (by omega)
      have e : (((j : Int) - ((slk k f : Nat) : Int)).toNat : Nat) = j - slk k f := by omega
      rw [e] at this
      exact this
    have pm : iI ((j - slk k f : Nat) : Int) * iI ((gau k : Nat) : Int) = iI (pvl k f j : Nat) := iN_mul _ _
    obtain ⟨B, hB⟩ : ∃ B, B = allB (okB (s.2.2 n) k f) j := ⟨_, rfl⟩
    have nB : allB (okB (s.2.2 n) k f) (j + 1) = (B && okB (s.2.2 n) k f j) := by rw [hB]; rfl
    rw [nB] at hnx2
    rw [← hB]
    have w1 : iI (if B = true then 1 else 0) &&& (1 : Int32) = iI (if (B && true) = true then 1 else 0) := and01 B true
    have w0 : iI (if B = true then 1 else 0) &&& (0 : Int32) = iI (if (B && false) = true then 1 else 0) := and01 B false
    rw [gdN (by omega), eL, leF (by omega), ea, gdN (by omega), lt_def, eE, gdN (by omega), eS, r_leastOf _ _ w3, bd_some, jn_def, jn_def]
    by_cases q1 : hE (s.2.2 n) j = lst (hS (s.2.2 n))
    · have ho : okB (s.2.2 n) k f j = true := by
        unfold okB
        rw [decide_eq_true q1]
        rfl
      rw [eqT q1]
      simp only [lt_def, inc1, w1]
      exact hnx2 _ _ ⟨by rw [ho], rfl⟩
    · rw [eqF (by omega), r_slack _ _ _ hk hf, bd_some, mst, bd_some, r_gauge _ _ hk, bd_some, pm]
      by_cases q2 : hE (s.2.2 n) j = ((pvl k f j : Nat) : Int)
      · have ho : okB (s.2.2 n) k f j = true := by
          unfold okB
          rw [decide_eq_true q2, Bool.or_true]
        rw [eqT q2]
        simp only [lt_def, inc1, w1]
        exact hnx2 _ _ ⟨by rw [ho], rfl⟩
      · have ho : okB (s.2.2 n) k f j = false := by
          unfold okB
          rw [decide_eq_false q1, decide_eq_false q2]
          rfl
        rw [eqF (by omega)]
        simp only [lt_def, inc1, w0]
        exact hnx2 _ _ ⟨by rw [ho], rfl⟩
  · rintro nx2 _ _ ⟨rfl, rfl⟩
    rw [gdN (by omega), eL, leT (by omega)]
theorem op_gauges {m : pw_Mem} (hs : Sim m) (a1 a2 a3 : Int32) : OpRR (fX10_gauges a1 a2 a3) (fX11_gauges a1 a2 a3) m := by
  obtain ⟨s, hC, hM, w⟩ := hs
  obtain ⟨d, rfl, h1, h2⟩ := rg a1
  obtain ⟨x, rfl, h3, h4⟩ := rg a2
  obtain ⟨z, rfl, h5, h6⟩ := rg a3
  have up9 : fX10_isUpTo (iI x) 9 m = some (decide (0 ≤ x ∧ x ≤ 9)) := c_isUpTo (k := 9) m h3 h4 (by omega) (by omega)
  have in9 : fX11_isIn (iI x) 0 9 m = some (decide (0 ≤ x ∧ x ≤ 9)) := r_isIn x 0 9 m (by omega) (by omega) (by omega)
  have kb := noRow_b s d (-1)
  have wr : fX11_wrongRow (iI d) (-1) m = some (iI (noRow s d (-1))) := r_wr1 hM w h1 h2
  by_cases cx : 0 ≤ x ∧ x ≤ 9
  · by_cases cz : 0 ≤ z ∧ z ≤ 1
    · by_cases c : noRow s d (-1) = 0
      · obtain ⟨n, hn, rfl, hh, -⟩ := noRow_0 c
        obtain ⟨f, rfl⟩ := Int.eq_ofNat_of_zero_le cx.1
        have hf : f ≤ 9 := by omega
        have r0 : iI (noRow s (n : Int) (-1)) = 0 := by rw [c]; rfl
        have hsh : 0 ≤ (n : Int) ∧ (n : Int) < 8 := by omega
        have ck := c_kinds hC w hn hh hf
        have gin := fun k (hk : k ≤ 7) => r_gin hM w hn hh hk hf
        obtain ⟨P, hP⟩ : ∃ P, P = kP (s.2.2 n) f := ⟨_, rfl⟩
        rw [← hP] at ck gin
        clear hP
        obtain ⟨R, hR⟩ : ∃ R, ∀ _ : Unit, msk P 8 = R := ⟨_, fun _ => rfl⟩
        have m8 : R < 256 := by
          rw [← hR ()]
          exact msk_lt P 8
        rw [hR ()] at ck
        refine ⟨iI (if z = 0 then (R : Nat) else (cnt (fun b => R.testBit b) 10 : Nat)), ?_, ?_⟩
        · unfold fX10_gauges
          rw [c_isShelf m h1 h2, bd_some, ite_dec, if_pos hsh, up9, bd_some, ite_dec, if_pos cx, upTo1 _ h5 h6, bd_some, ite_dec, if_pos cz, c_rowRef hC w h1 h2, bd_some, r0, if_pos rfl, gdN (by omega), clN (by omega), ck, bd_some]
          rcases (show z = 0 ∨ z = 1 by omega) with rfl | rfl
          · rw [if_pos (by rfl), if_pos rfl]
          · rw [if_neg (by decide), c_bits (by omega), bd_some, if_neg (by decide)]
        · unfold fX11_gauges
          rw [in9, bd_some, ite_dec, if_pos cx, isIn01 _ h5 h6, bd_some, ite_dec, if_pos cz, wr, bd_some, r0, if_pos rfl]
          refine lpI2 (fun i v1 v2 => v1 = iI (msk P i : Nat) ∧ v2 = iI (i : Nat)) (fun r => r = some (iI (if z = 0 then (R : Nat) else (cnt (fun b => R.testBit b) 10 : Nat)))) 8 (by omega) ?_ ?_ ⟨rfl, rfl⟩
          · rintro nx i _ _ hi ⟨rfl, rfl⟩ hnx
            rw [n8, leF (by omega), gin i (by omega), jn_def]
            cases hk : P i
            · rw [if_pos (by rfl)]
              simp only [lt_def, inc1, mskF hk (show i < 30 by omega)]
              exact hnx _ _ ⟨rfl, rfl⟩
            · rw [if_neg (by decide)]
              simp only [lt_def, inc1, mskT hk (show i < 30 by omega)]
              exact hnx _ _ ⟨rfl, rfl⟩
          · rintro nx _ _ ⟨rfl, rfl⟩
            rw [n8, leT (by omega), hR ()]
            rcases (show z = 0 ∨ z = 1 by omega) with rfl | rfl
            · rw [if_pos (by rfl), if_pos rfl]
            · rw [if_neg (by decide), r_bits (by omega), bd_some, if_neg (by decide)]
      · have r0 : ¬ iI (noRow s d (-1)) = 0 := by
          rw [i0, iI_eq (by omega) (by omega) (by omega) (by omega)]
          exact c
        refine ⟨iI (noRow s d (-1)), ?_, ?_⟩
        · unfold fX10_gauges
          rw [c_isShelf m h1 h2, bd_some, ite_dec]
          by_cases cd : 0 ≤ d ∧ d < 8
          · rw [if_pos cd, up9, bd_some, ite_dec, if_pos cx, upTo1 _ h5 h6, bd_some, ite_dec, if_pos cz, c_rowRef hC w h1 h2, bd_some, if_neg r0]
          · rw [if_neg cd]
            unfold noRow
            rw [if_neg cd]
            rfl
        · unfold fX11_gauges
          rw [in9, bd_some, ite_dec, if_pos cx, isIn01 _ h5 h6, bd_some, ite_dec, if_pos cz, wr, bd_some, if_neg r0]
    · refine ⟨-1, ?_, ?_⟩
      · unfold fX10_gauges
        rw [c_isShelf m h1 h2, bd_some, ite_dec]
        by_cases cd : 0 ≤ d ∧ d < 8
        · rw [if_pos cd, up9, bd_some, ite_dec, if_pos cx, upTo1 _ h5 h6, bd_some, ite_dec, if_neg cz]
        · rw [if_neg cd]
      · unfold fX11_gauges
        rw [in9, bd_some, ite_dec, if_pos cx, isIn01 _ h5 h6, bd_some, ite_dec, if_neg cz]
  · refine ⟨-1, ?_, ?_⟩
    · unfold fX10_gauges
      rw [c_isShelf m h1 h2, bd_some, ite_dec]
      by_cases cd : 0 ≤ d ∧ d < 8
      · rw [if_pos cd, up9, bd_some, ite_dec, if_neg cx]
      · rw [if_neg cd]
    · unfold fX11_gauges
      rw [in9, bd_some, ite_dec, if_neg cx]
