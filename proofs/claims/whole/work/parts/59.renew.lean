/-! CALLS: renew -/
set_option maxRecDepth 100000
/-- what it holds if new; how much more that is -/
def hnw (t : TT) (b : Nat) : Nat := hld (tI t b) (tF t b) - 0 / 5 - tC t / 2
def gnB (t : TT) (b : Nat) : Nat := hnw t b - hnow t b
theorem hnw_b {t : TT} (w : WT t) {b : Nat} (hb : b < tK t) : hnow t b ≤ hnw t b ∧ hnw t b ≤ 42 := by
  have := hld_le (k := tI t b) (w.2.2 b hb).2.1
  unfold hnow hnw
  omega
def gnV (t : TT) (v b : Nat) : Nat := if v.testBit b then gnB t b else 0
def gn (t : TT) (v : Nat) : Nat := sumN (gnV t v) (tK t)
theorem gnV_le {t : TT} (w : WT t) (v : Nat) {i : Nat} (hi : i ≤ tK t) : sumN (gnV t v) i ≤ 420 := by
  have h1 := sumN_le (f := gnV t v) (c := 42) (k := i) (fun b hb => by
    have := hnw_b w (b := b) (by omega)
    unfold gnV gnB
    split <;> omega)
  have h2 := w.1.2.1
  omega
def okV (t : TT) (v : Nat) : Bool := allB (fun b => !(v.testBit b && tX t b)) (tK t)
theorem ok_and {t : TT} (w : WT t) {v : Nat} : v &&& msk (tX t) (tK t) = 0 ↔ okV t v = true := by
  unfold okV
  rw [allB_t]
  constructor
  · intro h p hp
    have := congrArg (fun z => z.testBit p) h
    simp only [Nat.testBit_and, msk_bit, Nat.zero_testBit, hp, decide_true, Bool.true_and] at this
    rw [this]
    rfl
  · intro h
    apply Nat.eq_of_testBit_eq
    intro i
    rw [Nat.testBit_and, msk_bit, Nat.zero_testBit]
    by_cases hi : i < tK t
    · have := h i hi
      simp only [hi, decide_true, Bool.true_and]
      cases hq : (v.testBit i && tX t i)
      · rfl
      · rw [hq] at this
        exact absurd this (by decide)
    · simp [hi]
theorem ok_andn {t : TT} (w : WT t) {v : Nat} (hv : v < 2 ^ (tK t)) : andn v (whl t) = 0 ↔ okV t v = true := by
  unfold okV
  rw [allB_t]
  constructor
  · intro h p hp
    have := congrArg (fun z => z.testBit p) h
    simp only [andn_bit, whl_bit t hp, Nat.zero_testBit, Bool.not_not] at this
    rw [this]
    rfl
  · intro h
    apply Nat.eq_of_testBit_eq
    intro i
    rw [andn_bit, Nat.zero_testBit]
    by_cases hi : i < tK t
    · have := h i hi
      rw [whl_bit t hi, Bool.not_not]
      cases hq : (v.testBit i && tX t i)
      · rfl
      · rw [hq] at this
        exact absurd this (by decide)
    · rw [Nat.testBit_lt_two_pow (Nat.lt_of_lt_of_le hv (Nat.pow_le_pow_right (by omega) (by omega)))]
      rfl
def cb10 (v : Nat) : Nat := cnt (fun b => v.testBit b) 10
/-- the best so far, and what it gains -/
def sel (t : TT) (n : Nat) : Nat → Nat × Nat
  | 0 => (0, 0)
  | v + 1 => if cb10 v ≤ n ∧ okV t v = true ∧ (sel t n v).2 < gn t v then (v, gn t v) else sel t n v
theorem sel_s (t : TT) (n v : Nat) : sel t n (v + 1) = if cb10 v ≤ n ∧ okV t v = true ∧ (sel t n v).2 < gn t v then (v, gn t v) else sel t n v := rfl
theorem gn_0 (t : TT) : gn t 0 = 0 := by
  have : ∀ k, sumN (gnV t 0) k = 0 := by
    intro k
    induction k with
    | zero => rfl
    | succ k ih =>
      simp only [sumN, ih]
      unfold gnV
      rw [Nat.zero_testBit]
      rfl
  exact this _
theorem sel_1 (t : TT) (n : Nat) : sel t n 1 = (0, 0) := by
  rw [sel_s, gn_0, if_neg]
  · rfl
  · intro h
    exact absurd h.2.2 (Nat.not_lt_zero _)
theorem okV_0 (t : TT) : okV t 0 = true := allB_t.mpr fun p _ => by
  rw [Nat.zero_testBit]
  rfl
theorem sel_in (t : TT) (n : Nat) : ∀ v, (sel t n v).2 = gn t (sel t n v).1 ∧ okV t (sel t n v).1 = true ∧ (sel t n v).1 ≤ v
  | 0 => ⟨(gn_0 t).symm, okV_0 t, Nat.le_refl _⟩
  | v + 1 => by
    obtain ⟨a, b, c⟩ := sel_in t n v
    rw [sel_s]
    split
    · rename_i h
      exact ⟨rfl, h.2.1, Nat.le_succ _⟩
    · exact ⟨a, b, by omega⟩
theorem sel_lt (t : TT) (n : Nat) : ∀ v B, 0 < v → v ≤ B → (sel t n v).1 < B
  | 0, _, h, _ => absurd h (Nat.lt_irrefl 0)
  | v + 1, B, _, h => by
    rw [sel_s]
    split
    · show v < B
      omega
    · by_cases h0 : v = 0
      · subst h0
        show 0 < B
        omega
      · exact sel_lt t n v B (by omega) (by omega)
theorem sel_g {t : TT} (w : WT t) (n v : Nat) : (sel t n v).2 ≤ 420 := by
  rw [(sel_in t n v).1]
  exact gnV_le w _ (Nat.le_refl _)
theorem c_gainOf {m : pw_Mem} {t : TT} (h : CT m 1 t) (w : WT t) (hg : ∀ b, b < tK t → m 52 b = iI (gnB t b : Nat)) {v : Nat} (hv : v < 1024) : fX2_gainOf (iI (v : Int)) m = some (iI (gn t v : Nat)) := by
  have hk := w.1.2.1
  unfold fX2_gainOf
  refine lpI2 (fun i v1 v2 => v1 = iI (sumN (gnV t v) i : Nat) ∧ v2 = iI (i : Nat)) (fun r => r = some (iI (gn t v : Nat))) (tK t) (by omega) ?_ ?_ ⟨rfl, rfl⟩
  · rintro nx i _ _ hi ⟨rfl, rfl⟩ hnx
    have hb := bit1 (s := v) (b := i) (by omega) (by omega)
    have eg : m 52 (iI (i : Int)).toNatClampNeg = iI (gnB t i : Nat) := by
      rw [clN (by omega)]
      exact hg i hi
    have e : sumN (gnV t v) (i + 1) = sumN (gnV t v) i + gnV t v i := rfl
    rw [h.1.2.1, leF (by omega), jn_def]
    cases hq : v.testBit i
    · rw [if_neg (fun q => by rw [hb.mp q] at hq; exact absurd hq (by decide)), n0]
      simp only [iN_add, lt_def, inc1]
      exact hnx _ _ ⟨by rw [e]; unfold gnV; rw [hq, itF], rfl⟩
    · rw [if_pos (hb.mpr hq), gdN (by omega), eg]
      simp only [iN_add, lt_def, inc1]
      exact hnx _ _ ⟨by rw [e]; unfold gnV; rw [hq, itT], rfl⟩
  · rintro nx _ _ ⟨rfl, rfl⟩
    rw [h.1.2.1, leT (by omega)]
    rfl
theorem sh_K {t : TT} (w : WT t) : (1 : Int32) <<< (iI (tK t : Int) &&& 31) = iI ((2 ^ (tK t) : Nat) : Int) ∧ 2 ^ (tK t) ≤ 1024 ∧ 0 < 2 ^ (tK t) := by
  have hk := w.1.2.1
  exact ⟨iI_shl (by omega), Nat.pow_le_pow_right (n := 2) (by omega) hk, Nat.pow_pos (by omega)⟩
theorem c_best {m : pw_Mem} {s : SS} (hC : CS m s) (w : WS s) {n : Nat} (hn : n ≤ 4) : ∃ m2 : pw_Mem, fX2_bestRenewed (iI (n : Int)) m = some (iI ((sel s.1 n (2 ^ (tK s.1))).1 : Nat), m2) ∧ ∀ c, c ≠ 52 → m2 c = m c := by
  have w1 := w.1.1
  have hk := w1.1.2.1
  obtain ⟨hsh, hp, hp0⟩ := sh_K w1
  unfold fX2_bestRenewed
  refine lpI2 (fun i v1 (m2 : pw_Mem) => v1 = iI (i : Nat) ∧ (∀ j, j < i → m2 52 j = iI (gnB s.1 j : Nat)) ∧ ∀ c, c ≠ 52 → m2 c = m c) (fun r => ∃ m2 : pw_Mem, r = some (iI ((sel s.1 n (2 ^ (tK s.1))).1 : Nat), m2) ∧ ∀ c, c ≠ 52 → m2 c = m c) (tK s.1) (by omega) ?_ ?_ ⟨rfl, fun j hj => absurd hj (Nat.not_lt_zero j), fun _ _ => rfl⟩
  · rintro nx i _ m2 hi ⟨rfl, hg, f2⟩ hnx
    have h2 : CT m2 1 s.1 := CT_frame hC.1 (fun c _ _ => f2 c (by omega))
    have e8 : m2 (1 + 8) (iI (i : Int)).toNatClampNeg = iI (tA s.1 i : Nat) := by
      rw [clN (by omega)]
      exact (h2.2.2 i hi).2.2.2.2.1
    have a99 := (w1.2.2 i hi).2.2.2.2.2
    have hc9 := w1.1.2.2.1
    have hb := hnw_b w1 hi
    have q0 : fX7_holdsAt 1 (iI (i : Int)) 0 (iI (tC s.1 : Nat)) m2 = some (iI (hnw s.1 i : Nat)) := by
      rw [n0]
      exact c_holdsAt h2 w1 hi (by omega) (by omega)
    have q1 : fX7_holdsAt 1 (iI (i : Int)) (iI (tA s.1 i : Nat)) (iI (tC s.1 : Nat)) m2 = some (iI (hnow s.1 i : Nat)) := c_holdsAt h2 w1 hi (by omega) (by omega)
    rw [h2.1.2.1, leF (by omega), h2.1.2.2.2.1, q0, bd_some, gdN (by omega), e8, q1, bd_some, gdN (by omega), lt_def, lt_def, inc1, clN (by omega), iI_sub]
    refine hnx _ _ ⟨rfl, fun j hj => ?_, fun c hc => by rw [up_oc hc, f2 c hc]⟩
    by_cases e : j = i
    · subst e
      rw [up_eq]
      unfold gnB
      exact congrArg iI (by omega)
    · rw [up_ne e, hg j (by omega)]
  · rintro nx _ m2 ⟨rfl, hg, f2⟩
    have h2 : CT m2 1 s.1 := CT_frame hC.1 (fun c _ _ => f2 c (by omega))
    have hm := msk_lt' (tX s.1) hk
    rw [h2.1.2.1, leT (by omega)]
    obtain ⟨F, hF⟩ : ∃ F, F = sel s.1 n := ⟨_, rfl⟩
    have Fs : ∀ v, F (v + 1) = if cb10 v ≤ n ∧ okV s.1 v = true ∧ (F v).2 < gn s.1 v then (v, gn s.1 v) else F v := by
      rw [hF]
      exact sel_s s.1 n
    have Fb : ∀ v, (F v).2 ≤ 420 := by
      rw [hF]
      exact sel_g w1 n
    have F0 : F 0 = (0, 0) := by
      rw [hF]
      rfl
    rw [← hF]
    clear hF
    obtain ⟨S, hS⟩ : ∃ S, S = 2 ^ (tK s.1) := ⟨_, rfl⟩
    rw [← hS] at hsh hp hp0 ⊢
    refine lpI3 (fun v v5 v6 v7 => v5 = iI ((F v).1 : Nat) ∧ v6 = iI ((F v).2 : Nat) ∧ v7 = iI (v : Nat)) (fun r => ∃ m2 : pw_Mem, r = some (iI ((F S).1 : Nat), m2) ∧ ∀ c, c ≠ 52 → m2 c = m c) S (by omega) ?_ ?_ ⟨by rw [F0]; rfl, by rw [F0]; rfl, rfl⟩
    · rintro nx2 v _ _ _ hv ⟨rfl, rfl, rfl⟩ hnx2
      have gb := gnV_le w1 v (Nat.le_refl (tK s.1))
      have cg : fX2_gainOf (iI (v : Int)) m2 = some (iI (gn s.1 v : Nat)) := c_gainOf h2 w1 hg (by omega)
      have cc : fJ6_bitCount_0f7a4 (iI (v : Int)) m2 = some (iI (cb10 v : Nat)) := c_bits (by omega) m2
      have cb : cb10 v ≤ 10 := cnt_le _ _
      have fb := Fb v
      have gb' : gn s.1 v ≤ 420 := gb
      have oa := ok_and w1 (v := v)
      have hva : v &&& msk (tX s.1) (tK s.1) < 2 ^ 10 := Nat.and_lt_two_pow _ hm
      rw [hsh, leF (by omega), cc, bd_some, jn_def, h2.1.2.2.1, iI_and (by omega) (by omega)]
      have no : ¬ (cb10 v ≤ n ∧ okV s.1 v = true ∧ (F v).2 < gn s.1 v) → ∃ m2' : pw_Mem, nx2 (iI ((F v).1 : Nat)) (iI ((F v).2 : Nat)) (iI ((v + 1 : Nat) : Int)) = some (iI ((F S).1 : Nat), m2') ∧ ∀ c, c ≠ 52 → m2' c = m c := fun h => hnx2 _ _ _ ⟨by rw [Fs, if_neg h], by rw [Fs, if_neg h], rfl⟩
      by_cases k1 : cb10 v ≤ n
      · rw [ltF (by omega), n0]
        by_cases k2 : v &&& msk (tX s.1) (tK s.1) = 0
        · rw [eqT (by omega), cg, bd_some]
          by_cases k3 : gn s.1 v ≤ (F v).2
          · rw [leT (by omega)]
            simp only [lt_def, inc1]
            exact no (by omega)
          · rw [leF (by omega), bd_some]
            simp only [lt_def, inc1]
            have yes : cb10 v ≤ n ∧ okV s.1 v = true ∧ (F v).2 < gn s.1 v := ⟨k1, oa.mp k2, by omega⟩
            exact hnx2 _ _ _ ⟨by rw [Fs, if_pos yes], by rw [Fs, if_pos yes], rfl⟩
        · rw [eqF (by omega)]
          simp only [lt_def, inc1]
          exact no (fun h => k2 (oa.mpr h.2.1))
      · rw [ltT (by omega)]
        simp only [lt_def, inc1]
        exact no (fun h => k1 h.1)
    · rintro nx2 _ _ _ ⟨rfl, rfl, rfl⟩
      rw [hsh, leT (by omega)]
      exact ⟨m2, rfl, f2⟩
def tmV (t : TT) (v b : Nat) : Int := if tX t b then 0 else ((hld (tI t b) (tF t b) - (if v.testBit b then 0 else tA t b) / 5 - tC t / 2 : Nat) : Int) - (strt t b : Int)
theorem c_spare {m : pw_Mem} {t : TT} (h : CT m 1 t) (w : WT t) {v : Nat} (hv : v < 1024) : fX2_spareWith (iI (v : Int)) m = some (iI (sumI (tmV t v) (tK t))) := by
  have hk := w.1.2.1
  unfold fX2_spareWith
  refine lpI2 (fun i v1 v2 => v1 = iI (sumI (tmV t v) i) ∧ v2 = iI (i : Nat)) (fun r => r = some (iI (sumI (tmV t v) (tK t)))) (tK t) (by omega) ?_ ?_ ⟨rfl, rfl⟩
  · rintro nx i _ _ hi ⟨rfl, rfl⟩ hnx
    have hb := bit1 (s := v) (b := i) (by omega) (by omega)
    have e8 : m (1 + 8) (iI (i : Int)).toNatClampNeg = iI (tA t i : Nat) := by
      rw [clN (by omega)]
      exact (h.2.2 i hi).2.2.2.2.1
    have a99 := (w.2.2 i hi).2.2.2.2.2
    have hc9 := w.1.2.2.1
    have e : sumI (tmV t v) (i + 1) = sumI (tmV t v) i + tmV t v i := rfl
    rw [h.1.2.1, leF (by omega), c_isSnapped h w hi, bd_some, jn_def]
    cases hx : tX t i
    · have q0 : ∀ y : Nat, y < 100 → fX7_holdsAt 1 (iI (i : Int)) (iI (y : Int)) (iI (tC t : Nat)) m = some (iI (hld (tI t i) (tF t i) - y / 5 - tC t / 2 : Nat)) := fun y hy => c_holdsAt h w hi (by omega) (by omega)
      rw [itF, jn_def, h.1.2.2.2.1]
      cases hq : v.testBit i
      · rw [if_neg (fun q => by rw [hb.mp q] at hq; exact absurd hq (by decide)), gdN (by omega), e8]
        dsimp only
        rw [q0 _ (by omega), bd_some, c_stretch h w hi, bd_some]
        simp only [lt_def, inc1, iI_sub, iI_add]
        exact hnx _ _ ⟨by rw [e]; unfold tmV; rw [hx, itF, hq, itF], rfl⟩
      · rw [if_pos (hb.mpr hq), n0]
        dsimp only
        rw [q0 _ (by omega), bd_some, c_stretch h w hi, bd_some]
        simp only [lt_def, inc1, iI_sub, iI_add]
        exact hnx _ _ ⟨by rw [e]; unfold tmV; rw [hx, itF, hq, itT], rfl⟩
    · rw [itT]
      simp only [lt_def, inc1]
      exact hnx _ _ ⟨by rw [e]; unfold tmV; rw [hx, itT, Int.add_zero], rfl⟩
  · rintro nx _ _ ⟨rfl, rfl⟩
    rw [h.1.2.1, leT (by omega)]
theorem tm_gn {t : TT} (w : WT t) {v : Nat} (ho : okV t v = true) : sumI (tmV t v) (tK t) = sumI (tmV t 0) (tK t) + (gn t v : Nat) := by
  have ho' := allB_t.mp ho
  have key : ∀ k, k ≤ tK t → sumI (tmV t v) k = sumI (tmV t 0) k + (sumN (gnV t v) k : Nat) := by
    intro k
    induction k with
    | zero => intro _; rfl
    | succ k ih =>
      intro hk
      have ih := ih (by omega)
      have e1 : sumI (tmV t v) (k + 1) = sumI (tmV t v) k + tmV t v k := rfl
      have e2 : sumI (tmV t 0) (k + 1) = sumI (tmV t 0) k + tmV t 0 k := rfl
      have e3 : sumN (gnV t v) (k + 1) = sumN (gnV t v) k + gnV t v k := rfl
      have h1 := ho' k (by omega)
      have h2 := hnw_b w (b := k) (by omega)
      have : tmV t v k = tmV t 0 k + (gnV t v k : Nat) := by
        unfold tmV gnV gnB
        rw [Nat.zero_testBit]
        cases hx : tX t k
        · rw [itF, itF]
          cases hq : v.testBit k
          · rw [itF, itF]
            omega
          · rw [itT, itT, itF]
            unfold hnw hnow
            unfold hnw hnow at h2
            omega
        · rw [hx] at h1
          cases hq : v.testBit k
          · rfl
          · rw [hq] at h1
            exact absurd h1 (by decide)
      omega
  exact key _ (Nat.le_refl _)
/-- the bands below i of a set are new -/
def agV (t : TT) (v i : Nat) : TT := sA t (fun b => if b < i ∧ v.testBit b = true then 0 else tA t b)
theorem agV_s (t : TT) (v i : Nat) : agV t v (i + 1) = sA (agV t v i) (up1 (tA (agV t v i)) i (if v.testBit i = true then 0 else tA t i)) := by
  have : (fun b => if b < i + 1 ∧ v.testBit b = true then 0 else tA t b) = up1 (fun b => if b < i ∧ v.testBit b = true then 0 else tA t b) i (if v.testBit i = true then 0 else tA t i) := by
    funext p
    by_cases e : p = i
    · subst e
      rw [up1_eq]
      by_cases h : v.testBit p = true
      · rw [if_pos ⟨by omega, h⟩, if_pos h]
      · rw [if_neg (fun q => h q.2), if_neg h]
    · rw [up1_ne e]
      by_cases h : p < i ∧ v.testBit p = true
      · rw [if_pos h, if_pos ⟨by omega, h.2⟩]
      · rw [if_neg h, if_neg (fun q => h ⟨by omega, q.2⟩)]
  unfold agV
  rw [this]
  rfl
theorem agV_0 (t : TT) (v : Nat) : agV t v 0 = t := by
  have : (fun b => if b < 0 ∧ v.testBit b = true then 0 else tA t b) = tA t := by
    funext p
    rw [if_neg (by omega)]
  unfold agV
  rw [this]
  rfl
theorem WT_agV {t : TT} (w : WT t) (v i : Nat) : WT (agV t v i) := WT_A w (fun b hb => by
  have := (w.2.2 b hb).2.2.2.2.2
  split <;> omega)
theorem r_sumWith {m : pw_Mem} {s : SS} (hM : MS m s) (w : WS s) {v : Nat} (hv : v < 1024) : ∃ m2 : pw_Mem, fX11_sumWith (iI (v : Int)) m = some (iI (sumI (tmV s.1 v) (tK s.1)), m2) ∧ ∀ c, c ≠ 73 → m2 c = m c := by
  have w1 := w.1.1
  have hk := w1.1.2.1
  have h7 := w1.1.1
  obtain ⟨m1, q1, g1, f1⟩ := r_work hM w
  unfold fX11_sumWith
  rw [q1, bd_some]
  refine lpI3 (fun i v2 v3 (m4 : pw_Mem) => v2 = iI (sumI (tmV s.1 v) i) ∧ v3 = iI (i : Nat) ∧ RT m4 73 (agV s.1 v i) ∧ ∀ c, c ≠ 73 → m4 c = m c) (fun r => ∃ m2 : pw_Mem, r = some (iI (sumI (tmV s.1 v) (tK s.1)), m2) ∧ ∀ c, c ≠ 73 → m2 c = m c) (tK s.1) (by omega) ?_ ?_ ⟨rfl, rfl, by rw [agV_0]; exact g1, f1⟩
  · rintro nx i _ _ m4 hi ⟨rfl, rfl, g4, f4⟩ hnx
    have eK : m4 73 (1 : Int32).toNatClampNeg = iI (tK s.1 : Nat) := g4.1.2.1
    have of4 : fX11_of (iI (i : Int)) 4 m4 = some (iI ((18 + 6 * i + 4 : Nat) : Int)) := r_of i 4 m4
    have cl4 : (iI ((18 + 6 * i + 4 : Nat) : Int)).toNatClampNeg = 18 + 6 * i + 4 := clN (by omega)
    have eA : m4 73 (iI ((18 + 6 * i + 4 : Nat) : Int)).toNatClampNeg = iI (tA s.1 i : Nat) := by
      rw [cl4, (g4.2.2 i hi).2.2.2.2.1]
      show iI ((if i < i ∧ v.testBit i = true then 0 else tA s.1 i : Nat) : Int) = _
      rw [if_neg (by omega)]
    have a99 := (w1.2.2 i hi).2.2.2.2.2
    have e : sumI (tmV s.1 v) (i + 1) = sumI (tmV s.1 v) i + tmV s.1 v i := rfl
    have go : ∀ y : Nat, y = (if v.testBit i = true then 0 else tA s.1 i) → ∃ m2 : pw_Mem, (bd (fX11_isWhole 73 (iI (i : Int)) (pw_up m4 73 (18 + 6 * i + 4) (iI (y : Int)))) fun y11 => jn (κ := Int32 → Option (Int32 × pw_Mem)) (fun w12 => lt (iI (sumI (tmV s.1 v) i) + w12) fun x13 => lt (iI (i : Int) + (1 : Int32)) fun x14 => nx x13 x14 (pw_up m4 73 (18 + 6 * i + 4) (iI (y : Int)))) (fun k15 => if y11 = true then bd (fX11_holdsNow 73 (iI (i : Int)) (pw_up m4 73 (18 + 6 * i + 4) (iI (y : Int)))) fun y17 => bd (fX11_stretch 73 (iI (i : Int)) (pw_up m4 73 (18 + 6 * i + 4) (iI (y : Int)))) fun y18 => k15 (y17 - y18) else k15 (0 : Int32))) = some (iI (sumI (tmV s.1 v) (tK s.1)), m2) ∧ ∀ c, c ≠ 73 → m2 c = m c := by
      intro y hy
      have g5 := RT_age (v := y) g4 hi hk h7
      have g6 : RT (pw_up m4 73 (18 + 6 * i + 4) (iI (y : Int))) 73 (agV s.1 v (i + 1)) := by
        rw [agV_s, ← hy]
        exact g5
      obtain ⟨m5, hm5⟩ : ∃ m5, m5 = pw_up m4 73 (18 + 6 * i + 4) (iI (y : Int)) := ⟨_, rfl⟩
      rw [← hm5] at g6 ⊢
      have wa := WT_agV w1 v (i + 1)
      have f5 : ∀ c, c ≠ 73 → m5 c = m c := fun c hc => by rw [hm5, up_oc hc, f4 c hc]
      have ha : tA (agV s.1 v (i + 1)) i = (if v.testBit i = true then 0 else tA s.1 i) := by
        show (if i < i + 1 ∧ v.testBit i = true then 0 else tA s.1 i) = _
        by_cases q : v.testBit i = true
        · rw [if_pos ⟨by omega, q⟩, if_pos q]
        · rw [if_neg (fun z => q z.2), if_neg q]
      have hh : hnow (agV s.1 v (i + 1)) i = hld (tI s.1 i) (tF s.1 i) - (if v.testBit i = true then 0 else tA s.1 i) / 5 - tC s.1 / 2 := by
        rw [← ha]
        rfl
      have hst : strt (agV s.1 v (i + 1)) i = strt s.1 i := rfl
      have i1w := r_isWhole g6 wa (b := i) hi
      have i2w := r_holdsNow g6 wa (b := i) hi
      have i3w := r_stretch g6 wa (b := i) hi
      have hxx : tX (agV s.1 v (i + 1)) i = tX s.1 i := rfl
      rw [hxx] at i1w
      rw [hh] at i2w
      rw [hst] at i3w
      rw [i1w, bd_some, jn_def]
      cases hx : tX s.1 i
      · rw [if_pos (by rfl), i2w, bd_some, i3w, bd_some]
        simp only [lt_def, inc1, iI_sub, iI_add]
        exact hnx _ _ _ ⟨by rw [e]; unfold tmV; rw [hx, itF], rfl, g6, f5⟩
      · rw [if_neg (by decide)]
        have z : iI (sumI (tmV s.1 v) i) + 0 = iI (sumI (tmV s.1 v) i + 0) := iI_add _ 0
        simp only [lt_def, inc1, z]
        exact hnx _ _ _ ⟨by rw [e]; unfold tmV; rw [hx, itT], rfl, g6, f5⟩
    rw [gd_true (by decide), eK, leF (by omega), of4, bd_some, r_has _ _ _ (by omega) (by omega), bd_some, jn_def]
    cases hq : v.testBit i
    · rw [itF, bd_some, gdN (by omega), eA]
      dsimp only
      rw [gdN (by omega), lt_def, cl4]
      exact go _ (by rw [hq, itF])
    · rw [itT]
      dsimp only
      rw [gdN (by omega), lt_def, cl4]
      exact go 0 (by rw [hq, itT])
  · rintro nx _ _ m4 ⟨rfl, rfl, g4, f4⟩
    have eK : m4 73 (1 : Int32).toNatClampNeg = iI (tK s.1 : Nat) := g4.1.2.1
    rw [gd_true (by decide), eK, leT (by omega)]
    exact ⟨m4, rfl, f4⟩
theorem sumI_b {f : Nat → Int} {c : Int} : ∀ {k : Nat}, (∀ i, i < k → -c ≤ f i ∧ f i ≤ c) → -(k * c) ≤ sumI f k ∧ sumI f k ≤ k * c
  | 0, _ => by
    simp [sumI]
  | k + 1, h => by
    have ih := sumI_b (f := f) (c := c) (k := k) (fun i hi => h i (by omega))
    have h1 := h k (by omega)
    have e : ((k + 1 : Nat) : Int) * c = k * c + c := by
      rw [show ((k + 1 : Nat) : Int) = (k : Int) + 1 by omega, Int.add_mul, Int.one_mul]
    rw [e]
    simp only [sumI]
    omega
theorem tm_b {t : TT} (w : WT t) (v : Nat) : -420 ≤ sumI (tmV t v) (tK t) ∧ sumI (tmV t v) (tK t) ≤ 420 := by
  have := sumI_b (f := tmV t v) (c := 42) (k := tK t) (fun b hb => by
    have h1 := hld_le (k := tI t b) (w.2.2 b hb).2.1
    have h2 := strt_le w hb
    unfold tmV
    split <;> omega)
  have hk := w.1.2.1
  omega
theorem op_renew {m : pw_Mem} (hs : Sim m) (a1 a2 : Int32) : OpWW (fX10_renew a1 a2) (fX11_renew a1 a2) m := by
  have hs0 := hs
  obtain ⟨s, hC, hM, w⟩ := hs
  obtain ⟨x, rfl, h1, h2⟩ := rg a1
  obtain ⟨z, rfl, h5, h6⟩ := rg a2
  have w1 := w.1.1
  have hk := w1.1.2.1
  obtain ⟨hsh, hp, hp0⟩ := sh_K w1
  have up4 : fX10_isUpTo (iI x) 4 m = some (decide (0 ≤ x ∧ x ≤ 4)) := by
    rw [show (4 : Int32) = iI 4 from rfl]
    exact c_isUpTo m h1 h2 (by omega) (by omega)
  have in4 : ∀ m', fX11_isIn (iI x) 0 4 m' = some (decide (0 ≤ x ∧ x ≤ 4)) := fun m' => by
    rw [show (4 : Int32) = iI 4 from rfl, show (0 : Int32) = iI 0 from rfl]
    exact r_isIn x 0 4 m' (by omega) (by omega) (by omega)
  by_cases cx : 0 ≤ x ∧ x ≤ 4
  · by_cases cz : 0 ≤ z ∧ z ≤ 1
    · obtain ⟨n, rfl⟩ := Int.eq_ofNat_of_zero_le cx.1
      obtain ⟨m2, q2, f2⟩ := c_best hC w (n := n) (by omega)
      obtain ⟨F, hF⟩ : ∃ F, F = sel s.1 n := ⟨_, rfl⟩
      have Fs : ∀ v, F (v + 1) = if cb10 v ≤ n ∧ okV s.1 v = true ∧ (F v).2 < gn s.1 v then (v, gn s.1 v) else F v := by
        rw [hF]
        exact sel_s s.1 n
      have Fb : ∀ v, (F v).2 ≤ 420 := by
        rw [hF]
        exact sel_g w1 n
      have F1 : F 1 = (0, 0) := by
        rw [hF]
        exact sel_1 s.1 n
      have Fi : ∀ v, (F v).2 = gn s.1 (F v).1 ∧ okV s.1 (F v).1 = true ∧ (F v).1 ≤ v := by
        rw [hF]
        exact sel_in s.1 n
      have Fl : (F (2 ^ tK s.1)).1 < 2 ^ tK s.1 := by
        rw [hF]
        exact sel_lt s.1 n _ _ hp0 (Nat.le_refl _)
      rw [← hF] at q2
      clear hF
      obtain ⟨S, hS⟩ : ∃ S, S = 2 ^ (tK s.1) := ⟨_, rfl⟩
      rw [← hS] at hsh hp hp0 Fl q2
      have tb := tm_b w1 0
      have tS := tm_gn w1 (Fi S).2.1
      rw [← (Fi S).1] at tS
      refine op_calc hC hM w (r := iI (if z = 0 then ((F S).1 : Int) else sumI (tmV s.1 0) (tK s.1) + ((F S).2 : Nat))) ?_ ?_
      · refine ⟨m2, ?_, fun c hc => f2 c (by omega)⟩
        have h2' : CT m2 1 s.1 := CT_frame hC.1 (fun c _ _ => f2 c (by omega))
        unfold fX10_renew
        rw [up4, bd_some, ite_dec, if_pos cx, upTo1 _ h5 h6, bd_some, ite_dec, if_pos cz, q2, bd2_some, n0]
        by_cases hz : z = 0
        · rw [eqT (by omega), if_pos hz]
        · rw [eqF (by omega), c_spare h2' w1 (by omega), bd_some, if_neg hz, tS]
      · intro m1 hM1
        obtain ⟨m4, q4, f4⟩ := r_sumWith hM1 w (v := 0) (by omega)
        unfold fX11_renew
        rw [in4, bd_some, ite_dec, if_pos cx, isIn01 _ h5 h6, bd_some, ite_dec, if_pos cz]
        have q4' : fX11_sumWith 0 m1 = some (iI (sumI (tmV s.1 0) (tK s.1)), m4) := q4
        rw [q4', bd2_some]
        obtain ⟨B, hB⟩ : ∃ B, B = sumI (tmV s.1 0) (tK s.1) := ⟨_, rfl⟩
        rw [← hB] at tb tS ⊢
        refine lpI4 (fun i v5 v6 v7 (m8 : pw_Mem) => v5 = iI ((F (i + 1)).1 : Nat) ∧ v6 = iI (B + ((F (i + 1)).2 : Nat)) ∧ v7 = iI ((i + 1 : Nat) : Int) ∧ ∀ c, c ≠ 73 → m8 c = m1 c) (fun r => ∃ m2 : pw_Mem, r = some (iI (if z = 0 then ((F S).1 : Int) else B + ((F S).2 : Nat)), m2) ∧ m2 71 5 = m1 71 5 ∧ ∀ c, (c < 71 ∨ c = 72 ∨ c = 74 ∨ 80 ≤ c) → m2 c = m1 c) (S - 1) (by omega) ?_ ?_ ⟨by rw [F1]; rfl, by rw [F1]; exact congrArg iI (by omega), rfl, f4⟩
        · rintro nx i _ _ _ m8 hi ⟨rfl, rfl, rfl, f8⟩ hnx
          obtain ⟨v, hv⟩ : ∃ v, v = i + 1 := ⟨_, rfl⟩
          rw [← hv] at hnx ⊢
          have hM8 := MS_work hM1 (fun c h _ => f8 c h)
          have eK : m8 72 (1 : Int32).toNatClampNeg = iI (tK s.1 : Nat) := hM8.1.1.2.1
          have fb := Fb v
          have hvS : v < S := by omega
          have wl := whl_lt w1
          have rb : fX11_bits (iI (v : Int)) m8 = some (iI (cb10 v : Nat)) := r_bits (by omega) m8
          have cb : cb10 v ≤ 10 := cnt_le _ _
          have an : iI (v : Nat) &&& (iI (whl s.1 : Nat) ^^^ -1) = iI ((andn v (whl s.1) : Nat) : Int) := iI_andn (by omega) (by omega)
          have oa := ok_andn w1 (v := v) (by rw [← hS]; exact hvS)
          have hva : andn v (whl s.1) < 2 ^ 10 := andn_lt (by omega)
          have gb : gn s.1 v ≤ 420 := gnV_le w1 v (Nat.le_refl (tK s.1))
          have no : ¬ (cb10 v ≤ n ∧ okV s.1 v = true ∧ (F v).2 < gn s.1 v) → ∀ m9 : pw_Mem, (∀ c, c ≠ 73 → m9 c = m1 c) → ∃ m2 : pw_Mem, nx (iI ((F v).1 : Nat)) (iI (B + ((F v).2 : Nat))) (iI ((v + 1 : Nat) : Int)) m9 = some (iI (if z = 0 then ((F S).1 : Int) else B + ((F S).2 : Nat)), m2) ∧ m2 71 5 = m1 71 5 ∧ ∀ c, (c < 71 ∨ c = 72 ∨ c = 74 ∨ 80 ≤ c) → m2 c = m1 c := fun h m9 f9 => hnx _ _ _ _ ⟨by rw [Fs, if_neg h], by rw [Fs, if_neg h], rfl, f9⟩
          rw [gd_true (by decide), eK, hsh, leF (by omega), rb, bd_some, jn_def]
          by_cases k1 : cb10 v ≤ n
          · rw [ltF (by omega), r_wholeSet hM8.1 w1, bd_some, an]
            by_cases k2 : andn v (whl s.1) = 0
            · have ok := oa.mp k2
              obtain ⟨m9, q9, f9⟩ := r_sumWith hM8 w (v := v) (by omega)
              rw [tm_gn w1 ok, ← hB] at q9
              have f9' : ∀ c, c ≠ 73 → m9 c = m1 c := fun c hc => by rw [f9 c hc, f8 c hc]
              have hM9 := MS_work hM1 (fun c h _ => f9' c h)
              obtain ⟨m10, q10, f10⟩ := r_sumWith hM9 w (v := v) (by omega)
              rw [tm_gn w1 ok, ← hB] at q10
              rw [if_pos (by rw [k2]; rfl), q9, bd2_some]
              by_cases k3 : (F v).2 < gn s.1 v
              · rw [ltT (by omega), q10, bd2_some]
                simp only [lt_def, inc1]
                have yes : cb10 v ≤ n ∧ okV s.1 v = true ∧ (F v).2 < gn s.1 v := ⟨k1, ok, k3⟩
                exact hnx _ _ _ _ ⟨by rw [Fs, if_pos yes], by rw [Fs, if_pos yes], rfl, fun c hc => by rw [f10 c hc, f9' c hc]⟩
              · rw [ltF (by omega)]
                simp only [lt_def, inc1]
                exact no (fun h => k3 h.2.2) m9 f9'
            · rw [n0, eqF (by omega)]
              simp only [lt_def, inc1]
              exact no (fun h => k2 (oa.mpr h.2.1)) m8 f8
          · rw [ltT (by omega)]
            simp only [lt_def, inc1]
            exact no (fun h => k1 h.1) m8 f8
        · rintro nx _ _ _ m8 ⟨rfl, rfl, rfl, f8⟩
          have hM8 := MS_work hM1 (fun c h _ => f8 c h)
          have eK : m8 72 (1 : Int32).toNatClampNeg = iI (tK s.1 : Nat) := hM8.1.1.2.1
          rw [gd_true (by decide), eK, hsh, leT (by omega), show S - 1 + 1 = S by omega, n0]
          by_cases hz : z = 0
          · rw [eqT (by omega), if_pos hz]
            exact ⟨m8, rfl, by rw [f8 71 (by omega)], fun c hc => f8 c (by omega)⟩
          · rw [eqF (by omega), if_neg hz]
            exact ⟨m8, rfl, by rw [f8 71 (by omega)], fun c hc => f8 c (by omega)⟩
    · refine op_same hs0 (r := -1) ?_ ?_
      · unfold fX10_renew
        rw [up4, bd_some, ite_dec, if_pos cx, upTo1 _ h5 h6, bd_some, ite_dec, if_neg cz]
      · unfold fX11_renew
        rw [in4, bd_some, ite_dec, if_pos cx, isIn01 _ h5 h6, bd_some, ite_dec, if_neg cz]
  · refine op_same hs0 (r := -1) ?_ ?_
    · unfold fX10_renew
      rw [up4, bd_some, ite_dec, if_neg cx]
    · unfold fX11_renew
      rw [in4, bd_some, ite_dec, if_neg cx]
