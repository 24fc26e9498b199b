/-! CALLS: farthest -/
set_option maxRecDepth 100000
abbrev FS : Type := Option (Nat × Nat)
def fstp (st : FS) (d q : Nat) : FS := match st with
  | none => some (d, q)
  | some (d0, q0) => if d0 < d then some (d, q) else some (d0, q0)
def finn (t : TT) (i : Nat) (st : FS) : Nat → FS
  | 0 => st
  | k + 1 => fstp (finn t i st k) (dst (tP t i) (tP t (i + 1 + k))) (10 * i + (i + 1 + k))
def fout (t : TT) : Nat → FS
  | 0 => none
  | i + 1 => finn t i (fout t i) (tN t - (i + 1))
def fBd (st : FS) : Prop := ∀ d q, st = some (d, q) → d ≤ 30 ∧ q < 100
theorem fBd_s {st : FS} (h : fBd st) {d q : Nat} (hd : d ≤ 30) (hq : q < 100) : fBd (fstp st d q) := by
  intro d' q' e
  unfold fstp at e
  cases st with
  | none =>
    cases e
    exact ⟨hd, hq⟩
  | some v =>
    obtain ⟨d0, q0⟩ := v
    simp only at e
    split at e
    · cases e
      exact ⟨hd, hq⟩
    · exact h _ _ e
def cD (st : FS) : Int := match st with
  | none => -4
  | some (d, _) => d
def cQ (st : FS) : Int := match st with
  | none => -4
  | some (_, q) => q
def rD (st : FS) : Int := match st with
  | none => -1
  | some (d, _) => d
theorem fBd_b {st : FS} (h : fBd st) : -4 ≤ cD st ∧ cD st ≤ 30 ∧ -4 ≤ cQ st ∧ cQ st < 100 ∧ -1 ≤ rD st ∧ rD st ≤ 30 := by
  cases st with
  | none => decide
  | some v =>
    obtain ⟨d, q⟩ := v
    have := h d q rfl
    show -4 ≤ (d : Int) ∧ (d : Int) ≤ 30 ∧ -4 ≤ (q : Int) ∧ (q : Int) < 100 ∧ -1 ≤ (d : Int) ∧ (d : Int) ≤ 30
    omega
theorem stp_c (st : FS) (d q : Nat) : (if (d : Int) ≤ cD st then fstp st d q = st else fstp st d q = some (d, q)) ∧ (if rD st < (d : Int) then fstp st d q = some (d, q) else fstp st d q = st) := by
  cases st with
  | none =>
    refine ⟨?_, ?_⟩
    · show (if (d : Int) ≤ -4 then _ else _)
      rw [if_neg (by omega)]
      rfl
    · show (if (-1 : Int) < (d : Int) then _ else _)
      rw [if_pos (by omega)]
      rfl
  | some v =>
    obtain ⟨d0, q0⟩ := v
    have e : fstp (some (d0, q0)) d q = if d0 < d then some (d, q) else some (d0, q0) := rfl
    by_cases c : d0 < d
    · rw [e, if_pos c]
      show (if (d : Int) ≤ (d0 : Int) then _ else _) ∧ (if (d0 : Int) < (d : Int) then _ else _)
      rw [if_neg (by omega), if_pos (by omega)]
      exact ⟨rfl, rfl⟩
    · rw [e, if_neg c]
      show (if (d : Int) ≤ (d0 : Int) then _ else _) ∧ (if (d0 : Int) < (d : Int) then _ else _)
      rw [if_pos (by omega), if_neg (by omega)]
      exact ⟨rfl, rfl⟩
theorem c_apart {m : pw_Mem} {t : TT} (h : CT m 1 t) (w : WT t) {p q : Nat} (hp : p < tN t) (hq : q < tN t) : fX7_apart 1 (iI p) (iI q) m = some (iI (dst (tP t p) (tP t q) : Nat)) := by
  have h7 := w.1.1
  have e1 := (h.2.1 p hp).1
  have e2 := (h.2.1 q hq).1
  have b1 := (w.2.1 p hp).1
  have b2 := (w.2.1 q hq).1
  unfold fX7_apart
  rw [gd_ix (by omega) (by omega) (by omega), gd_ix (by omega) (by omega) (by omega), iI_clN (by omega), iI_clN (by omega), e1, e2, iI_sub, iI_jabs (by omega) (by omega)]
theorem c_farthest {m : pw_Mem} {t : TT} (h : CT m 1 t) (w : WT t) (x : Int) (hx : x = 0 ∨ x = 1) : fX4_farthestTwo (iI x) m = some (iI (if x = 0 then cD (fout t (tN t)) else cQ (fout t (tN t)))) := by
  have h7 := w.1.1
  have m4 : (-4 : Int32) = iI (-4) := rfl
  unfold fX4_farthestTwo
  refine lpI3 (fun i v1 v2 v3 => v1 = iI (cD (fout t i)) ∧ v2 = iI (cQ (fout t i)) ∧ v3 = iI (i : Nat) ∧ fBd (fout t i)) (fun z => z = _) (tN t) (by omega) ?_ ?_ ⟨m4, m4, rfl, fun d q e => by cases e⟩
  · rintro nx i _ _ _ hi ⟨rfl, rfl, rfl, hb⟩ hnx
    have e1 : iI (i : Int) + 1 = iI ((i + 1 : Nat) : Int) := iN_add i 1
    rw [h.1.1, if_neg (by rw [iI_le (by omega) (by omega) (by omega) (by omega)]; omega), lt_def, e1]
    refine lpI3 (fun k v1 v2 v3 => v1 = iI (cD (finn t i (fout t i) k)) ∧ v2 = iI (cQ (finn t i (fout t i) k)) ∧ v3 = iI ((i + 1 + k : Nat) : Int) ∧ fBd (finn t i (fout t i) k)) (fun z => z = _) (tN t - (i + 1)) (by omega) ?_ ?_ ⟨rfl, rfl, rfl, hb⟩
    · rintro nx2 k _ _ _ hk ⟨rfl, rfl, rfl, hb2⟩ hnx2
      have e2 : iI ((i + 1 + k : Nat) : Int) + 1 = iI ((i + 1 + (k + 1) : Nat) : Int) := iN_add (i + 1 + k) 1
      have e3 : (10 : Int32) * iI (i : Int) + iI ((i + 1 + k : Nat) : Int) = iI ((10 * i + (i + 1 + k) : Nat) : Int) := by
        have : (10 : Int32) * iI (i : Int) = iI ((10 * i : Nat) : Int) := iN_mul 10 i
        rw [this, iN_add]
      have bd := dst_le (w.2.1 i (by omega)).1 (w.2.1 (i + 1 + k) (by omega)).1
      have bb := fBd_b hb2
      have hs := (stp_c (finn t i (fout t i) k) (dst (tP t i) (tP t (i + 1 + k))) (10 * i + (i + 1 + k))).1
      have hn : fBd (finn t i (fout t i) (k + 1)) := fBd_s hb2 bd (by omega)
      have ef : finn t i (fout t i) (k + 1) = fstp (finn t i (fout t i) k) (dst (tP t i) (tP t (i + 1 + k))) (10 * i + (i + 1 + k)) := rfl
      rw [if_neg (by rw [iI_le (by omega) (by omega) (by omega) (by omega)]; omega), c_apart h w (by omega) (by omega), bd_some, jn_def, if_le (by omega) (by omega) (by omega) (by omega)]
      by_cases c : ((dst (tP t i) (tP t (i + 1 + k)) : Nat) : Int) ≤ cD (finn t i (fout t i) k)
      · rw [if_pos c] at hs
        rw [if_pos c]
        simp only [lt_def, e2]
        exact hnx2 _ _ _ ⟨by rw [ef, hs], by rw [ef, hs], rfl, hn⟩
      · rw [if_neg c] at hs
        rw [if_neg c, bd_some]
        simp only [lt_def, e2, e3]
        exact hnx2 _ _ _ ⟨by rw [ef, hs]; rfl, by rw [ef, hs]; rfl, rfl, hn⟩
    · rintro nx2 _ _ _ ⟨rfl, rfl, rfl, hb2⟩
      rw [if_pos (by rw [iI_le (by omega) (by omega) (by omega) (by omega)]; omega), lt_def]
      exact hnx _ _ _ ⟨rfl, rfl, rfl, hb2⟩
  · rintro nx _ _ _ ⟨rfl, rfl, rfl, hb⟩
    rw [h.1.1, if_pos (by rw [iI_le (by omega) (by omega) (by omega) (by omega)]; omega)]
    rcases hx with rfl | rfl
    · rw [if_pos (by rfl), if_pos rfl]
    · rw [if_neg (by decide), if_neg (by decide)]
theorem isIn01 {z : Int} (m : pw_Mem) (h1 : -2147483648 ≤ z) (h2 : z < 2147483648) : fX11_isIn (iI z) 0 1 m = some (decide (0 ≤ z ∧ z ≤ 1)) := r_isIn z 0 1 m (by omega) (by omega) (by omega)
theorem upTo1 {z : Int} (m : pw_Mem) (h1 : -2147483648 ≤ z) (h2 : z < 2147483648) : fX10_isUpTo (iI z) 1 m = some (decide (0 ≤ z ∧ z ≤ 1)) := c_isUpTo (k := 1) m h1 h2 (by omega) (by omega)
theorem op_farthest {m : pw_Mem} (hs : Sim m) (a : Int32) : OpRR (fX10_farthest a) (fX11_farthest a) m := by
  obtain ⟨s, hC, hM, w⟩ := hs
  obtain ⟨z, rfl, h1, h2⟩ := rg a
  have w1 := w.1.1
  have h7 := w1.1.1
  by_cases c : 0 ≤ z ∧ z ≤ 1
  · refine ⟨iI (if z = 0 then cQ (fout s.1 (tN s.1)) else cD (fout s.1 (tN s.1))), ?_, ?_⟩
    · unfold fX10_farthest
      rw [upTo1 _ h1 h2, bd_some, ite_dec, if_pos c]
      have q0 := c_farthest hC.1 w1 0 (Or.inl rfl)
      have q1 := c_farthest hC.1 w1 1 (Or.inr rfl)
      rcases (show z = 0 ∨ z = 1 by omega) with rfl | rfl
      · have q1' : fX4_farthestTwo 1 m = _ := q1
        rw [if_pos (by rfl), q1', bd_some, if_pos rfl, if_neg (by decide)]
      · have q0' : fX4_farthestTwo 0 m = _ := q0
        rw [if_neg (by decide), q0', bd_some, if_pos rfl, if_neg (by decide)]
    · unfold fX11_farthest
      rw [isIn01 _ h1 h2, bd_some, ite_dec, if_pos c]
      have m4 : (-4 : Int32) = iI (-4) := rfl
      have mm1 : (-1 : Int32) = iI (-1) := rfl
      have hR := hM.1
      have eN : m 72 (0 : Int32).toNatClampNeg = iI (tN s.1 : Nat) := hR.1.1
      refine lpI3 (fun i v1 v2 v3 => v1 = iI (cQ (fout s.1 i)) ∧ v2 = iI (rD (fout s.1 i)) ∧ v3 = iI (i : Nat) ∧ fBd (fout s.1 i)) (fun r => r = _) (tN s.1) (by omega) ?_ ?_ ⟨m4, mm1, rfl, fun d q e => by cases e⟩
      · rintro nx i _ _ _ hi ⟨rfl, rfl, rfl, hb⟩ hnx
        have e1 : iI (i : Int) + 1 = iI ((i + 1 : Nat) : Int) := iN_add i 1
        have a4 : (4 : Int32) + iI (i : Int) = iI ((4 + i : Nat) : Int) := iN_add 4 i
        have ei : (iI ((4 + i : Nat) : Int)).toNatClampNeg = 4 + i := iI_clN (by omega)
        have eP := (hR.2.1 i hi).1
        rw [gd_true (by decide), eN, if_neg (by rw [iI_le (by omega) (by omega) (by omega) (by omega)]; omega), lt_def, e1]
        refine lpI3 (fun k v1 v2 v3 => v1 = iI (cQ (finn s.1 i (fout s.1 i) k)) ∧ v2 = iI (rD (finn s.1 i (fout s.1 i) k)) ∧ v3 = iI ((i + 1 + k : Nat) : Int) ∧ fBd (finn s.1 i (fout s.1 i) k)) (fun r => r = _) (tN s.1 - (i + 1)) (by omega) ?_ ?_ ⟨rfl, rfl, rfl, hb⟩
        · rintro nx2 k _ _ _ hk ⟨rfl, rfl, rfl, hb2⟩ hnx2
          have e2 : iI ((i + 1 + k : Nat) : Int) + 1 = iI ((i + 1 + (k + 1) : Nat) : Int) := iN_add (i + 1 + k) 1
          have e3 : (10 : Int32) * iI (i : Int) + iI ((i + 1 + k : Nat) : Int) = iI ((10 * i + (i + 1 + k) : Nat) : Int) := by
            have : (10 : Int32) * iI (i : Int) = iI ((10 * i : Nat) : Int) := iN_mul 10 i
            rw [this, iN_add]
          have a5 : (4 : Int32) + iI ((i + 1 + k : Nat) : Int) = iI ((4 + (i + 1 + k) : Nat) : Int) := iN_add 4 (i + 1 + k)
          have ej : (iI ((4 + (i + 1 + k) : Nat) : Int)).toNatClampNeg = 4 + (i + 1 + k) := iI_clN (by omega)
          have eQ := (hR.2.1 (i + 1 + k) (by omega)).1
          have b1 := (w1.2.1 i (by omega)).1
          have b2 := (w1.2.1 (i + 1 + k) (by omega)).1
          have bd := dst_le b1 b2
          have bb := fBd_b hb2
          have hst := (stp_c (finn s.1 i (fout s.1 i) k) (dst (tP s.1 i) (tP s.1 (i + 1 + k))) (10 * i + (i + 1 + k))).2
          have hn : fBd (finn s.1 i (fout s.1 i) (k + 1)) := fBd_s hb2 bd (by omega)
          have ef : finn s.1 i (fout s.1 i) (k + 1) = fstp (finn s.1 i (fout s.1 i) k) (dst (tP s.1 i) (tP s.1 (i + 1 + k))) (10 * i + (i + 1 + k)) := rfl
          rw [gd_true (by decide), if_neg (by rw [iI_le (by omega) (by omega) (by omega) (by omega)]; omega), a4, a5, gd_ix (by omega) (by omega) (by omega), gd_ix (by omega) (by omega) (by omega), ei, ej, eP, eQ, r_far _ _ _ (by omega) (by omega), bd_some, jn_def, if_lt (by omega) (by omega) (by omega) (by omega)]
          by_cases c : rD (finn s.1 i (fout s.1 i) k) < ((dst (tP s.1 i) (tP s.1 (i + 1 + k)) : Nat) : Int)
          · rw [if_pos c] at hst
            rw [if_pos c]
            simp only [lt_def, e2, e3]
            exact hnx2 _ _ _ ⟨by rw [ef, hst]; rfl, by rw [ef, hst]; rfl, rfl, hn⟩
          · rw [if_neg c] at hst
            rw [if_neg c]
            simp only [lt_def, e2]
            exact hnx2 _ _ _ ⟨by rw [ef, hst], by rw [ef, hst], rfl, hn⟩
        · rintro nx2 _ _ _ ⟨rfl, rfl, rfl, hb2⟩
          rw [gd_true (by decide), if_pos (by rw [iI_le (by omega) (by omega) (by omega) (by omega)]; omega), lt_def]
          exact hnx _ _ _ ⟨rfl, rfl, rfl, hb2⟩
      · rintro nx _ _ _ ⟨rfl, rfl, rfl, hb⟩
        have bb := fBd_b hb
        rw [gd_true (by decide), eN, if_pos (by rw [iI_le (by omega) (by omega) (by omega) (by omega)]; omega)]
        rcases (show z = 0 ∨ z = 1 by omega) with rfl | rfl
        · rw [if_pos rfl]
          cases hf : fout s.1 (tN s.1) with
          | none => rw [if_pos (by decide)]
          | some v =>
            obtain ⟨d, q⟩ := v
            have := hb d q hf
            have n : ¬ iI (cQ (some (d, q))) < 0 := NL (z := (q : Int)) (by omega) (by omega) (by omega)
            rw [if_neg n, if_pos (by rfl)]
        · rw [if_neg (show ¬ (1 : Int) = 0 by decide)]
          cases hf : fout s.1 (tN s.1) with
          | none =>
            rw [if_pos (by decide)]
            rfl
          | some v =>
            obtain ⟨d, q⟩ := v
            have := hb d q hf
            have n : ¬ iI (cQ (some (d, q))) < 0 := NL (z := (q : Int)) (by omega) (by omega) (by omega)
            rw [if_neg n, if_neg (by decide)]
            rfl
  · refine ⟨-1, ?_, ?_⟩
    · unfold fX10_farthest
      rw [upTo1 _ h1 h2, bd_some, ite_dec, if_neg c]
    · unfold fX11_farthest
      rw [isIn01 _ h1 h2, bd_some, ite_dec, if_neg c]
