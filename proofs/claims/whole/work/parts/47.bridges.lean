/-! CALLS: bridges -/
set_option maxRecDepth 100000
def whl (t : TT) : Nat := andn (2 ^ (tK t) - 1) (msk (tX t) (tK t))
theorem whl_bit (t : TT) {k : Nat} (h : k < tK t) : (whl t).testBit k = !tX t k := by
  unfold whl
  rw [andn_bit, Nat.testBit_two_pow_sub_one, msk_bit]
  simp [h]
theorem whl_lt {t : TT} (w : WT t) : whl t < 2 ^ 10 := by
  have hk := w.1.2.1
  have p : (2 : Nat) ^ (tK t) ≤ 2 ^ 10 := Nat.pow_le_pow_right (by omega) hk
  have q : 0 < (2 : Nat) ^ (tK t) := Nat.pow_pos (by omega)
  exact andn_lt (by omega)
theorem r_wholeSet {m : pw_Mem} {t : TT} (h : RT m 72 t) (w : WT t) : fX11_wholeSet 72 m = some (iI (whl t : Nat)) := by
  have hk := w.1.2.1
  have eK : m 72 (1 : Int32).toNatClampNeg = iI (tK t : Nat) := h.1.2.1
  have hm := msk_lt' (tX t) hk
  have p : (2 : Nat) ^ (tK t) ≤ 2 ^ 10 := Nat.pow_le_pow_right (by omega) hk
  have q : 0 < (2 : Nat) ^ (tK t) := Nat.pow_pos (by omega)
  have e1 : (1 : Int32) <<< (iI (tK t : Nat) &&& 31) = iI ((2 ^ (tK t) : Nat) : Int) := iI_shl (by omega)
  have e2 : iI ((2 ^ (tK t) : Nat) : Int) - 1 = iI ((2 ^ (tK t) - 1 : Nat) : Int) := by
    have : iI ((2 ^ (tK t) : Nat) : Int) - 1 = iI (((2 ^ (tK t) : Nat) : Int) - 1) := iI_sub _ 1
    rw [this]
    exact congrArg iI (by omega)
  unfold fX11_wholeSet
  rw [gd_true (by decide), r_snappedSet h w, bd_some, eK, e1, e2]
  have e3 := iI_andn (a := 2 ^ (tK t) - 1) (b := msk (tX t) (tK t)) (by omega) (by omega)
  exact congrArg some e3
def brd (t : TT) (b : Nat) : Bool := !tX t b && !(clan t (2 ^ b) (tO t b)).testBit (tQ t b)
theorem op_bridges {m : pw_Mem} (hs : Sim m) : OpRR fX10_bridges fX11_bridges m := by
  obtain ⟨s, hC, hM, w⟩ := hs
  have w1 := w.1.1
  have h7 := w1.1.1
  have hk := w1.1.2.1
  refine ⟨iI (msk (brd s.1) (tK s.1) : Nat), ?_, ?_⟩
  · unfold fX10_bridges fX0_dividing
    have key : lp (κ := Int32 → Int32 → Option Int32) (fun _ _ => none) (fun nx3 v1 v2 => if (m 1 12) ≤ v2 then some v1 else gd (ix v2 10) (bd (fX0_clanOf (m (1 + 6) (v2).toNatClampNeg) ((1 : Int32) <<< (v2 &&& 31)) m) fun y5 => bd (fX7_isSnapped 1 v2 m) fun y6 => jn (κ := Int32 → Option Int32) (fun v7 => lt (v2 + (1 : Int32)) fun x8 => nx3 v7 x8) (fun k9 => if y6 = true then k9 v1 else gd (ix v2 10) (if ((y5 >>> ((m (1 + 7) (v2).toNatClampNeg) &&& 31)) &&& (1 : Int32)) = 0 then lt (v1 ||| ((1 : Int32) <<< (v2 &&& 31))) fun x11 => k9 x11 else k9 v1)))) FU (0 : Int32) (0 : Int32) = some (iI (msk (brd s.1) (tK s.1) : Nat)) := by
      refine lpI2 (fun i v1 v2 => v1 = iI (msk (brd s.1) i : Nat) ∧ v2 = iI (i : Nat)) (fun r => r = _) (tK s.1) (by omega) ?_ ?_ ⟨rfl, rfl⟩
      · rintro nx i _ _ hi ⟨rfl, rfl⟩ hnx
        have e1 : iI (i : Int) + 1 = iI ((i + 1 : Nat) : Int) := iN_add i 1
        have ei : (iI (i : Int)).toNatClampNeg = i := iI_clN (by omega)
        obtain ⟨-, -, l1, l2, -, -⟩ := w1.2.2 i hi
        obtain ⟨-, -, eO, eQ, -, -⟩ := hC.1.2.2 i hi
        have eO' : m (1 + 6) (iI (i : Int)).toNatClampNeg = iI (tO s.1 i : Nat) := by rw [ei]; exact eO
        have eQ' : m (1 + 7) (iI (i : Int)).toNatClampNeg = iI (tQ s.1 i : Nat) := by rw [ei]; exact eQ
        have p2 : (2 : Nat) ^ i < 2 ^ 10 := Nat.pow_lt_pow_right (by omega) (by omega)
        have sh : (1 : Int32) <<< (iI (i : Int) &&& 31) = iI ((2 ^ i : Nat) : Int) := iI_shl (by omega)
        have cl := clan_lt w1 (2 ^ i) l1
        have hb := bit0 (s := clan s.1 (2 ^ i) (tO s.1 i)) (b := tQ s.1 i) (by omega) (by omega)
        have hss := msk_s (brd s.1) i
        have mo : iI ((msk (brd s.1) i : Nat) : Int) ||| iI ((2 ^ i : Nat) : Int) = iI ((msk (brd s.1) i + 2 ^ i : Nat) : Int) := by
          rw [← sh]
          exact mskor (brd s.1) (by omega)
        rw [hC.1.1.2.1, if_neg (by rw [iI_le (by omega) (by omega) (by omega) (by omega)]; omega), gd_ix (by omega) (by omega) (by omega), sh, eO', c_clanOf hC.1 w1 p2 l1, bd_some, c_isSnapped hC.1 w1 hi, bd_some, jn_def]
        cases hx : tX s.1 i
        · rw [if_neg (by decide), gd_ix (by omega) (by omega) (by omega), eQ']
          cases hq : (clan s.1 (2 ^ i) (tO s.1 i)).testBit (tQ s.1 i)
          · rw [if_pos (hb.mpr hq)]
            simp only [lt_def, e1, mo]
            refine hnx _ _ ⟨?_, rfl⟩
            have : brd s.1 i = true := by
              unfold brd
              rw [hx, hq]
              rfl
            rw [hss, this, if_pos rfl]
          · rw [if_neg (fun h => by rw [hb.mp h] at hq; exact absurd hq (by decide))]
            simp only [lt_def, e1]
            refine hnx _ _ ⟨?_, rfl⟩
            have : brd s.1 i = false := by
              unfold brd
              rw [hx, hq]
              rfl
            rw [hss, this, if_neg (by decide)]
        · rw [if_pos rfl]
          simp only [lt_def, e1]
          refine hnx _ _ ⟨?_, rfl⟩
          have : brd s.1 i = false := by
            unfold brd
            rw [hx]
            rfl
          rw [hss, this, if_neg (by decide)]
      · rintro nx _ _ ⟨rfl, rfl⟩
        rw [hC.1.1.2.1, if_pos (by rw [iI_le (by omega) (by omega) (by omega) (by omega)]; omega)]
    rw [key, bd_some]
  · have hR := hM.1
    have eK : m 72 (1 : Int32).toNatClampNeg = iI (tK s.1 : Nat) := hR.1.2.1
    have wl := whl_lt w1
    unfold fX11_bridges
    rw [r_wholeSet hR w1, bd_some]
    refine lpI2 (fun i v1 v2 => v1 = iI (msk (brd s.1) i : Nat) ∧ v2 = iI (i : Nat)) (fun r => r = _) (tK s.1) (by omega) ?_ ?_ ⟨rfl, rfl⟩
    · rintro nx i _ _ hi ⟨rfl, rfl⟩ hnx
      have e1 : iI (i : Int) + 1 = iI ((i + 1 : Nat) : Int) := iN_add i 1
      obtain ⟨-, -, l1, l2, -, -⟩ := w1.2.2 i hi
      obtain ⟨eO, eQ⟩ := r_pairs hR hi
      obtain ⟨o2, o3⟩ := ofs i m
      have c2 : (iI ((18 + 6 * i + 2 : Nat) : Int)).toNatClampNeg = 18 + 6 * i + 2 := iI_clN (by omega)
      have c3 : (iI ((18 + 6 * i + 3 : Nat) : Int)).toNatClampNeg = 18 + 6 * i + 3 := iI_clN (by omega)
      have p2 : (2 : Nat) ^ i < 2 ^ 10 := Nat.pow_lt_pow_right (by omega) (by omega)
      have sh : (1 : Int32) <<< (iI (i : Int) &&& 31) = iI ((2 ^ i : Nat) : Int) := iI_shl (by omega)
      have cl := clan_lt w1 (2 ^ i) l1
      have hss := msk_s (brd s.1) i
      have hml := msk_lt' (brd s.1) (show i ≤ 10 by omega)
      have mo : iI ((msk (brd s.1) i : Nat) : Int) ||| iI ((2 ^ i : Nat) : Int) = iI ((msk (brd s.1) i + 2 ^ i : Nat) : Int) := by
        rw [← sh]
        exact mskor (brd s.1) (by omega)
      have m0 : iI ((msk (brd s.1) i : Nat) : Int) ||| 0 = iI ((msk (brd s.1) i : Nat) : Int) := by
        have : iI ((msk (brd s.1) i : Nat) : Int) ||| 0 = iI ((msk (brd s.1) i ||| 0 : Nat) : Int) := iI_or (b := 0) (by omega) (by decide)
        rw [this, Nat.or_zero]
      have an : iI (whl s.1 : Nat) &&& (iI ((2 ^ i : Nat) : Int) ^^^ -1) = iI ((andn (whl s.1) (2 ^ i) : Nat) : Int) := iI_andn (by omega) (by omega)
      have rc := r_clanOf hR w1 (X := 2 ^ i) (W := andn (whl s.1) (2 ^ i)) (andn_lt wl) (fun k hk => by
        rw [andn_bit, whl_bit _ hk]
        rfl) l1
      rw [gd_true (by decide), eK, if_neg (by rw [iI_le (by omega) (by omega) (by omega) (by omega)]; omega), r_has _ _ _ (by omega) (by omega), bd_some, whl_bit _ hi, jn_def, jn_def]
      cases hx : tX s.1 i
      · rw [if_pos (by rfl), o2, bd_some, gd_ix (by omega) (by omega) (by omega), c2, eO, sh, an, rc, bd_some, o3, bd_some, gd_ix (by omega) (by omega) (by omega), c3, eQ, r_has _ _ _ (by omega) (by omega), bd_some]
        cases hq : (clan s.1 (2 ^ i) (tO s.1 i)).testBit (tQ s.1 i)
        · rw [if_neg (by decide)]
          simp only [lt_def, e1, mo]
          refine hnx _ _ ⟨?_, rfl⟩
          have : brd s.1 i = true := by
            unfold brd
            rw [hx, hq]
            rfl
          rw [hss, this, if_pos rfl]
        · rw [if_pos rfl]
          simp only [lt_def, e1, m0]
          refine hnx _ _ ⟨?_, rfl⟩
          have : brd s.1 i = false := by
            unfold brd
            rw [hx, hq]
            rfl
          rw [hss, this, if_neg (by decide)]
      · rw [if_neg (by decide)]
        simp only [lt_def, e1, m0]
        refine hnx _ _ ⟨?_, rfl⟩
        have : brd s.1 i = false := by
          unfold brd
          rw [hx]
          rfl
        rw [hss, this, if_neg (by decide)]
    · rintro nx _ _ ⟨rfl, rfl⟩
      rw [gd_true (by decide), eK, if_pos (by rw [iI_le (by omega) (by omega) (by omega) (by omega)]; omega)]
