/-! CALLS: cousins -/
set_option maxRecDepth 100000
def rch (t : TT) (X a : Nat) : Nat → Nat
  | 0 => 2 ^ a
  | i + 1 => tdN t X (rch t X a i) (tK t)
theorem rch_s (t : TT) (X a i : Nat) : rch t X a (i + 1) = tdN t X (rch t X a i) (tK t) := rfl
theorem rch_lt7 {t : TT} (w : WT t) (X : Nat) {a : Nat} (ha : a < tN t) : ∀ i, rch t X a i < 2 ^ 7
  | 0 => Nat.pow_lt_pow_right (by omega) (by have := w.1.1; omega)
  | i + 1 => td_lt w (rch_lt7 w X ha i) (Nat.le_refl _)
theorem td_up (t : TT) (X S : Nat) {b : Nat} (h : S.testBit b = true) : ∀ k, (tdN t X S k).testBit b = true
  | 0 => h
  | k + 1 => by
    rw [td_s]
    split
    · rw [Nat.testBit_or, td_up t X S h k]
      rfl
    · exact td_up t X S h k
theorem ends_ltN {t : TT} (w : WT t) {b : Nat} (hb : b < tK t) : endsB t b < 2 ^ (tN t) := by
  obtain ⟨-, -, h1, h2, -, -⟩ := w.2.2 b hb
  exact Nat.or_lt_two_pow (Nat.pow_lt_pow_right (by omega) h1) (Nat.pow_lt_pow_right (by omega) h2)
theorem td_ltN {t : TT} (w : WT t) {X S : Nat} (hS : S < 2 ^ (tN t)) : ∀ {k : Nat}, k ≤ tK t → tdN t X S k < 2 ^ (tN t)
  | 0, _ => hS
  | k + 1, h => by
    rw [td_s]
    split
    · exact Nat.or_lt_two_pow (td_ltN w hS (by omega)) (ends_ltN w (by omega))
    · exact td_ltN w hS (by omega)
theorem rch_ltN {t : TT} (w : WT t) (X : Nat) {a : Nat} (ha : a < tN t) : ∀ i, rch t X a i < 2 ^ (tN t)
  | 0 => Nat.pow_lt_pow_right (by omega) ha
  | i + 1 => td_ltN w (rch_ltN w X ha i) (Nat.le_refl _)
theorem rch_fix {t : TT} {X a j : Nat} (h : rch t X a (j + 1) = rch t X a j) : ∀ n, rch t X a (j + n) = rch t X a j
  | 0 => rfl
  | n + 1 => by
    have ih := rch_fix h n
    show rch t X a ((j + n) + 1) = _
    rw [rch_s, ih, ← rch_s]
    exact h
theorem cnt_lt {P Q : Nat → Bool} {k b : Nat} (h : ∀ b, b < k → P b = true → Q b = true) (hb : b < k) (hq : Q b = true) (hp : P b = false) : cnt P k + 1 ≤ cnt Q k := by
  have e := cnt_sub h
  have : cnt (fun b => Q b && !P b) k ≠ 0 := fun z => by
    have := cnt_0 z b hb
    rw [hq, hp] at this
    exact absurd this (by decide)
  omega
/-- as long as the set grows, it holds one more each time -/
theorem rch_grow {t : TT} (w : WT t) {X a : Nat} (ha : a < tN t) : ∀ i, (∀ j, j < i → rch t X a (j + 1) ≠ rch t X a j) → i + 1 ≤ cnt (fun b => (rch t X a i).testBit b) (tN t)
  | 0, _ => by
    have : cnt (fun b => (rch t X a 0).testBit b) (tN t) ≠ 0 := fun z => by
      have := cnt_0 z a ha
      have e : (rch t X a 0).testBit a = true := by
        show (2 ^ a).testBit a = true
        rw [Nat.testBit_two_pow]
        simp
      rw [e] at this
      exact absurd this (by decide)
    omega
  | i + 1, h => by
    have ih := rch_grow w ha i (fun j hj => h j (by omega))
    have hi := h i (by omega)
    have up : ∀ b, b < tN t → (rch t X a i).testBit b = true → (rch t X a (i + 1)).testBit b = true := fun b _ hb => td_up t X _ hb _
    rcases low_ex (fun b => (rch t X a (i + 1)).testBit b && !(rch t X a i).testBit b) (tN t) with hn | ⟨b, hb, hb2, -⟩
    · refine absurd (Nat.eq_of_testBit_eq fun b => ?_) hi
      by_cases hb : b < tN t
      · have h1 := hn b hb
        have h2 := up b hb
        cases h3 : (rch t X a i).testBit b
        · rw [h3] at h1
          simp at h1
          exact h1
        · exact h2 h3
      · have p : (2 : Nat) ^ (tN t) ≤ 2 ^ b := Nat.pow_le_pow_right (by omega) (by omega)
        rw [Nat.testBit_lt_two_pow (Nat.lt_of_lt_of_le (rch_ltN w X ha (i + 1)) p), Nat.testBit_lt_two_pow (Nat.lt_of_lt_of_le (rch_ltN w X ha i) p)]
    · rw [Bool.and_eq_true] at hb2
      have h3 : (rch t X a i).testBit b = false := by
        cases h4 : (rch t X a i).testBit b
        · rfl
        · rw [h4] at hb2
          exact absurd hb2.2 (by decide)
      have g : cnt (fun b => (rch t X a i).testBit b) (tN t) + 1 ≤ cnt (fun b => (rch t X a (i + 1)).testBit b) (tN t) := cnt_lt up hb hb2.1 h3
      omega
/-- nobody is found later than the number of people allows -/
theorem rch_stop {t : TT} (w : WT t) {X a : Nat} (ha : a < tN t) : ∀ i, tN t ≤ i + 1 → rch t X a (i + 1) = rch t X a i := by
  intro i hi
  rcases low_ex (fun j => decide (rch t X a (j + 1) = rch t X a j)) (i + 1) with hn | ⟨j, hj, hj2, -⟩
  · have := rch_grow w (X := X) ha (i + 1) (fun j hj e => by
      have := hn j hj
      rw [decide_eq_true e] at this
      exact absurd this (by decide))
    have l := cnt_le (fun b => (rch t X a (i + 1)).testBit b) (tN t)
    omega
  · have e := of_decide_eq_true hj2
    obtain ⟨d, rfl⟩ : ∃ d, i = j + d := ⟨i - j, by omega⟩
    have f1 := rch_fix e d
    have f2 := rch_fix e (d + 1)
    exact f2.trans f1.symm
theorem r_pairs {m : pw_Mem} {t : TT} (h : RT m 72 t) {b : Nat} (hb : b < tK t) : m 72 (18 + 6 * b + 2) = iI (tO t b : Nat) ∧ m 72 (18 + 6 * b + 3) = iI (tQ t b : Nat) := ⟨(h.2.2 b hb).2.2.1, (h.2.2 b hb).2.2.2.1⟩
theorem ofs (b : Nat) (m : pw_Mem) : fX11_of (iI b) 2 m = some (iI ((18 + 6 * b + 2 : Nat) : Int)) ∧ fX11_of (iI b) 3 m = some (iI ((18 + 6 * b + 3 : Nat) : Int)) := ⟨r_of b 2 m, r_of b 3 m⟩
theorem r_pass {m0 : pw_Mem} {t : TT} (h : RT m0 72 t) (w : WT t) {S1 : Nat} (hS : S1 < 2 ^ 7) (FIN : Int32 → Option Int32) : lp (κ := Int32 → Int32 → Option Int32) (fun _ _ => none) (fun nx9 v7 v8 => gd (ix (1 : Int32) 78) (if (m0 72 ((1 : Int32)).toNatClampNeg) ≤ v8 then FIN v7 else bd (fX11_isWhole 72 v8 m0) fun y15 => jn (κ := Int32 → Option Int32) (fun v16 => lt (v8 + (1 : Int32)) fun x17 => nx9 v16 x17) (fun k18 => if y15 = true then bd (fX11_of v8 (2 : Int32) m0) fun y20 => gd (ix y20 78) (bd (fX11_has (iI S1) (m0 72 (y20).toNatClampNeg) m0) fun y21 => jn (κ := Option Int32) (bd (fX11_of v8 (2 : Int32) m0) fun y22 => gd (ix y22 78) (bd (fX11_of v8 (3 : Int32) m0) fun y23 => gd (ix y23 78) (lt (v7 ||| (((1 : Int32) <<< ((m0 72 (y22).toNatClampNeg) &&& 31)) ||| ((1 : Int32) <<< ((m0 72 (y23).toNatClampNeg) &&& 31)))) fun x24 => k18 x24))) (fun k25 => if y21 = true then k25 else bd (fX11_of v8 (3 : Int32) m0) fun y27 => gd (ix y27 78) (bd (fX11_has (iI S1) (m0 72 (y27).toNatClampNeg) m0) fun y28 => if y28 = true then k25 else k18 v7))) else k18 v7))) FU (iI S1) (0 : Int32) = FIN (iI ((tdN t 0 S1 (tK t) : Nat) : Int)) := by
  have hk := w.1.2.1
  have h7 := w.1.1
  have eK : m0 72 (1 : Int32).toNatClampNeg = iI (tK t : Nat) := h.1.2.1
  refine lpI2 (fun i v1 v2 => v1 = iI (tdN t 0 S1 i : Nat) ∧ v2 = iI (i : Nat)) (fun z => z = _) (tK t) (by omega) ?_ ?_ ⟨rfl, rfl⟩
  · rintro nx i _ _ hi ⟨rfl, rfl⟩ hnx
    have e1 : iI (i : Int) + 1 = iI ((i + 1 : Nat) : Int) := iN_add i 1
    obtain ⟨eO, eQ⟩ := r_pairs h hi
    obtain ⟨o2, o3⟩ := ofs i m0
    obtain ⟨-, -, l1, l2, -, -⟩ := w.2.2 i hi
    have c2 : (iI ((18 + 6 * i + 2 : Nat) : Int)).toNatClampNeg = 18 + 6 * i + 2 := iI_clN (by omega)
    have c3 : (iI ((18 + 6 * i + 3 : Nat) : Int)).toNatClampNeg = 18 + 6 * i + 3 := iI_clN (by omega)
    have hl := td_lt w (X := 0) hS (show i ≤ tK t by omega)
    have he := ends_lt w hi
    have ho : opnB t 0 i = !tX t i := by
      unfold opnB
      rw [Nat.zero_testBit]
      simp
    rw [gd_true (by decide), eK, if_neg (by rw [iI_le (by omega) (by omega) (by omega) (by omega)]; omega), r_isWhole h w hi, bd_some, jn_def]
    cases hx : tX t i
    · rw [if_pos (by rfl), o2, bd_some, gd_ix (by omega) (by omega) (by omega), c2, eO, r_has _ _ _ (by omega) (by omega), bd_some, jn_def]
      have up : nx (iI ((tdN t 0 S1 i : Nat) : Int) ||| iI ((endsB t i : Nat) : Int)) (iI (i : Int) + 1) = nx (iI ((tdN t 0 S1 i ||| endsB t i : Nat) : Int)) (iI ((i + 1 : Nat) : Int)) := by
        rw [e1, iI_or (by omega) (by omega)]
      cases q1 : S1.testBit (tO t i)
      · rw [if_neg (by decide), o3, bd_some, gd_ix (by omega) (by omega) (by omega), c3, eQ, r_has _ _ _ (by omega) (by omega), bd_some]
        cases q2 : S1.testBit (tQ t i)
        · rw [if_neg (by decide)]
          simp only [lt_def, e1]
          refine hnx _ _ ⟨?_, rfl⟩
          have hh : hitB t S1 i = false := by
            unfold hitB
            rw [q1, q2]
            rfl
          rw [td_s, hh, Bool.and_false]
          rfl
        · rw [if_pos rfl, bd_some, gd_ix (by omega) (by omega) (by omega), bd_some, gd_ix (by omega) (by omega) (by omega)]
          simp only [c2, c3, eO, eQ, sh_ends w hi, lt_def]
          rw [up]
          refine hnx _ _ ⟨?_, rfl⟩
          have hh : hitB t S1 i = true := by
            unfold hitB
            rw [q1, q2]
            rfl
          rw [td_s, hh, ho, hx]
          rfl
      · rw [if_pos rfl, bd_some, gd_ix (by omega) (by omega) (by omega), o3, bd_some, gd_ix (by omega) (by omega) (by omega)]
        simp only [c2, c3, eO, eQ, sh_ends w hi, lt_def]
        rw [up]
        refine hnx _ _ ⟨?_, rfl⟩
        have hh : hitB t S1 i = true := by
          unfold hitB
          rw [q1]
          rfl
        rw [td_s, hh, ho, hx]
        rfl
    · rw [if_neg (by decide)]
      simp only [lt_def, e1]
      refine hnx _ _ ⟨?_, rfl⟩
      rw [td_s, ho, hx]
      rfl
  · rintro nx _ _ ⟨rfl, rfl⟩
    rw [gd_true (by decide), eK, if_pos (by rw [iI_le (by omega) (by omega) (by omega) (by omega)]; omega)]
theorem op_cousins {m : pw_Mem} (hs : Sim m) (a b : Int32) : OpRR (fX10_cousins a b) (fX11_cousins a b) m := by
  obtain ⟨s, hC, hM, w⟩ := hs
  obtain ⟨y, rfl, h1, h2⟩ := rg a
  obtain ⟨z, rfl, h3, h4⟩ := rg b
  have w1 := w.1.1
  have h7 := w1.1.1
  have hk := w1.1.2.1
  by_cases c : (0 ≤ y ∧ y < tN s.1) ∧ (0 ≤ z ∧ z < tN s.1) ∧ y ≠ z
  · obtain ⟨p, rfl⟩ := Int.eq_ofNat_of_zero_le c.1.1
    obtain ⟨q, rfl⟩ := Int.eq_ofNat_of_zero_le c.2.1.1
    have hp : p < tN s.1 := by omega
    have hq : q < tN s.1 := by omega
    have hpq : p ≠ q := by omega
    obtain ⟨S, hS⟩ : ∃ S, S = rch s.1 0 p := ⟨_, rfl⟩
    have S0 : (1 : Int32) <<< (iI (p : Int) &&& 31) = iI ((S 0 : Nat) : Int) := by
      rw [hS]
      exact iI_shl (by omega)
    have S7 : ∀ i, S i < 2 ^ 7 := by
      rw [hS]
      exact rch_lt7 w1 0 hp
    have Ss : ∀ i, tdN s.1 0 (S i) (tK s.1) = S (i + 1) := by
      rw [hS]
      exact fun _ => rfl
    have St : ∀ i, tN s.1 ≤ i + 1 → S (i + 1) = S i := by
      rw [hS]
      exact rch_stop w1 hp
    have Sq : (S 0).testBit q = false := by
      rw [hS]
      show (2 ^ p).testBit q = false
      rw [Nat.testBit_two_pow]
      simp [hpq]
    clear hS
    have fin : ∃ R : Int, fX0_bandsBetween (iI p) (iI q) m = some (iI R) ∧ ∀ r : Option Int32, (∀ i, i < 6 → (S (i + 1)).testBit q = true → (∀ j, j < i → (S (j + 1)).testBit q = false) → r = some (iI ((i + 1 : Nat) : Int))) → ((∀ i, i < 6 → (S (i + 1)).testBit q = false) → r = some (iI (-4))) → r = some (iI R) := by
      rcases low_ex (fun i => (S (i + 1)).testBit q) 6 with hn | ⟨i0, hi0, ht, hlow⟩
      · refine ⟨-4, ?_, fun r _ hr => hr hn⟩
        unfold fX0_bandsBetween
        rw [lt_def, S0]
        refine lpI2 (fun i v2 v3 => v2 = iI ((S i : Nat) : Int) ∧ v3 = iI ((i + 1 : Nat) : Int)) (fun r => r = _) (tN s.1 - 1) (by omega) ?_ ?_ ⟨rfl, rfl⟩
        · rintro nx i _ _ hi ⟨rfl, rfl⟩ hnx
          have e1 : iI ((i + 1 : Nat) : Int) + 1 = iI ((i + 1 + 1 : Nat) : Int) := iN_add (i + 1) 1
          have := S7 (i + 1)
          have hb := bit1 (s := S (i + 1)) (b := q) (by omega) (by omega)
          have ct : fX0_tiedTo (iI (S i : Nat)) 0 m = some (iI ((tdN s.1 0 (S i) (tK s.1) : Nat) : Int)) := c_tiedTo hC.1 w1 (X := 0) (by decide) (S7 i)
          rw [hC.1.1.1, if_neg (by rw [iI_le (by omega) (by omega) (by omega) (by omega)]; omega), ct, bd_some, Ss, if_neg (fun h => by have := hb.mp h; rw [hn i (by omega)] at this; exact absurd this (by decide)), lt_def, e1]
          exact hnx _ _ ⟨rfl, rfl⟩
        · rintro nx _ _ ⟨rfl, rfl⟩
          rw [hC.1.1.1, if_pos (by rw [iI_le (by omega) (by omega) (by omega) (by omega)]; omega)]
          rfl
      · have hN : i0 < tN s.1 - 1 := by
          by_cases hN : i0 < tN s.1 - 1
          · exact hN
          · have e := St i0 (by omega)
            rw [e] at ht
            cases i0 with
            | zero =>
              rw [Sq] at ht
              exact absurd ht (by decide)
            | succ k =>
              have := hlow k (by omega)
              rw [ht] at this
              exact absurd this (by decide)
        refine ⟨((i0 + 1 : Nat) : Int), ?_, fun r hr _ => hr i0 hi0 ht hlow⟩
        unfold fX0_bandsBetween
        rw [lt_def, S0]
        refine lpI2 (fun i v2 v3 => v2 = iI ((S i : Nat) : Int) ∧ v3 = iI ((i + 1 : Nat) : Int)) (fun r => r = _) i0 (by omega) ?_ ?_ ⟨rfl, rfl⟩
        · rintro nx i _ _ hi ⟨rfl, rfl⟩ hnx
          have e1 : iI ((i + 1 : Nat) : Int) + 1 = iI ((i + 1 + 1 : Nat) : Int) := iN_add (i + 1) 1
          have := S7 (i + 1)
          have hb := bit1 (s := S (i + 1)) (b := q) (by omega) (by omega)
          have ct : fX0_tiedTo (iI (S i : Nat)) 0 m = some (iI ((tdN s.1 0 (S i) (tK s.1) : Nat) : Int)) := c_tiedTo hC.1 w1 (X := 0) (by decide) (S7 i)
          rw [hC.1.1.1, if_neg (by rw [iI_le (by omega) (by omega) (by omega) (by omega)]; omega), ct, bd_some, Ss, if_neg (fun h => by have := hb.mp h; rw [hlow i hi] at this; exact absurd this (by decide)), lt_def, e1]
          exact hnx _ _ ⟨rfl, rfl⟩
        · rintro nx _ _ ⟨rfl, rfl⟩
          have := S7 (i0 + 1)
          have hb := bit1 (s := S (i0 + 1)) (b := q) (by omega) (by omega)
          have ct : fX0_tiedTo (iI (S i0 : Nat)) 0 m = some (iI ((tdN s.1 0 (S i0) (tK s.1) : Nat) : Int)) := c_tiedTo hC.1 w1 (X := 0) (by decide) (S7 i0)
          rw [hC.1.1.1, if_neg (by rw [iI_le (by omega) (by omega) (by omega) (by omega)]; omega), ct, bd_some, Ss, if_pos (hb.mpr ht)]
    obtain ⟨R, k1, k2⟩ := fin
    refine ⟨iI R, ?_, ?_⟩
    · unfold fX10_cousins
      rw [c_areTwo hC.1 w1 h1 h2 h3 h4, bd_some, ite_dec, if_pos c, k1, bd_some]
    · have hR := hM.1
      have eK : m 72 (1 : Int32).toNatClampNeg = iI (tK s.1 : Nat) := hR.1.2.1
      unfold fX11_cousins
      rw [r_areTwo hM.1 w1 h1 h2 h3 h4, bd_some, ite_dec, if_pos c, lt_def, S0]
      refine k2 _ ?_ ?_
      · intro i0 hi0 ht hlow
        refine lpI2 (fun i v3 v4 => v3 = iI ((S i : Nat) : Int) ∧ v4 = iI ((i + 1 : Nat) : Int)) (fun r => r = _) i0 (by omega) ?_ ?_ ⟨rfl, rfl⟩
        · rintro nx i _ _ hi ⟨rfl, rfl⟩ hnx
          have e1 : iI ((i + 1 : Nat) : Int) + 1 = iI ((i + 1 + 1 : Nat) : Int) := iN_add (i + 1) 1
          have e7 : (7 : Int32) = iI ((7 : Nat) : Int) := rfl
          have := S7 (i + 1)
          rw [if_neg (by rw [e7, iI_le (by omega) (by omega) (by omega) (by omega)]; omega), r_pass hR w1 (S7 i), Ss, r_has _ _ _ (by omega) (by omega), bd_some, hlow i hi, if_neg (by decide), lt_def, e1]
          exact hnx _ _ ⟨rfl, rfl⟩
        · rintro nx _ _ ⟨rfl, rfl⟩
          have e7 : (7 : Int32) = iI ((7 : Nat) : Int) := rfl
          have := S7 (i0 + 1)
          rw [if_neg (by rw [e7, iI_le (by omega) (by omega) (by omega) (by omega)]; omega), r_pass hR w1 (S7 i0), Ss, r_has _ _ _ (by omega) (by omega), bd_some, ht, if_pos rfl]
      · intro hn
        refine lpI2 (fun i v3 v4 => v3 = iI ((S i : Nat) : Int) ∧ v4 = iI ((i + 1 : Nat) : Int)) (fun r => r = _) 6 (by omega) ?_ ?_ ⟨rfl, rfl⟩
        · rintro nx i _ _ hi ⟨rfl, rfl⟩ hnx
          have e1 : iI ((i + 1 : Nat) : Int) + 1 = iI ((i + 1 + 1 : Nat) : Int) := iN_add (i + 1) 1
          have e7 : (7 : Int32) = iI ((7 : Nat) : Int) := rfl
          have := S7 (i + 1)
          rw [if_neg (by rw [e7, iI_le (by omega) (by omega) (by omega) (by omega)]; omega), r_pass hR w1 (S7 i), Ss, r_has _ _ _ (by omega) (by omega), bd_some, hn i hi, if_neg (by decide), lt_def, e1]
          exact hnx _ _ ⟨rfl, rfl⟩
        · rintro nx _ _ ⟨rfl, rfl⟩
          rw [if_pos (by decide)]
          rfl
  · refine ⟨-1, ?_, ?_⟩
    · unfold fX10_cousins
      rw [c_areTwo hC.1 w1 h1 h2 h3 h4, bd_some, ite_dec, if_neg c]
    · unfold fX11_cousins
      rw [r_areTwo hM.1 w1 h1 h2 h3 h4, bd_some, ite_dec, if_neg c]
