/-! CALLS: order; the class's side -/
set_option maxRecDepth 100000
theorem lt0F {τ : Type} {a : Int} {hd : Decidable (iI a < 0)} {x y : τ} (h : 0 ≤ a ∧ a < 2147483648) : @ite τ (iI a < 0) hd x y = y := if_neg (fun q => by
  have := (iI_lt (b := 0) (by omega) (by omega) (by omega) (by omega)).mp q
  omega)
theorem lt0T {τ : Type} {a : Int} {hd : Decidable (iI a < 0)} {x y : τ} (h : -2147483648 ≤ a ∧ a < 0) : @ite τ (iI a < 0) hd x y = x := if_pos ((iI_lt (b := 0) (by omega) (by omega) (by omega) (by omega)).mpr h.2)
/-- a band breaks, one end at x, the other at g -/
def brk (t : TT) (g b x : Nat) : Bool := decide (hnow t b < dst x g - slk (tI t b) (tF t b))
def fbB (t : TT) (g p q b : Nat) : Bool := !tX t b && (decide ((tO t b = p ∧ tQ t b = q) ∨ (tO t b = q ∧ tQ t b = p)) && brk t g b (tP t q))
def fb (t : TT) (g p q k : Nat) : Nat := cnt (fbB t g p q) k
theorem fb_le (t : TT) (g p q k : Nat) : fb t g p q k ≤ k := cnt_le _ _
def coN (t : TT) (g T p : Nat) : Nat := sumN (fun q => if T.testBit q = true then 0 else fb t g p q (tK t)) (tN t)
/-- who goes next breaks those -/
def mvB (t : TT) (g T p b : Nat) : Bool := !tX t b && ((decide (tO t b = p) && (!T.testBit (tQ t b) && brk t g b (tP t (tQ t b)))) || (decide (tQ t b = p) && (!T.testBit (tO t b) && brk t g b (tP t (tO t b)))))
theorem sumN_one {r : Nat} {c : Prop} [Decidable c] : ∀ N, sumN (fun q => if q = r ∧ c then 1 else 0) N = if r < N ∧ c then 1 else 0
  | 0 => by
    rw [if_neg (by omega)]
    rfl
  | N + 1 => by
    have e : sumN (fun q => if q = r ∧ c then 1 else 0) (N + 1) = sumN (fun q => if q = r ∧ c then 1 else 0) N + (if N = r ∧ c then 1 else 0) := rfl
    rw [e, sumN_one N]
    by_cases hc : c
    · by_cases h1 : r < N
      · rw [if_pos ⟨h1, hc⟩, if_neg (by omega), if_pos ⟨by omega, hc⟩]
      · by_cases h2 : N = r
        · rw [if_neg (by omega), if_pos ⟨h2, hc⟩, if_pos ⟨by omega, hc⟩]
        · rw [if_neg (by omega), if_neg (by omega), if_neg (by omega)]
    · rw [if_neg (fun z => hc z.2), if_neg (fun z => hc z.2), if_neg (fun z => hc z.2)]
theorem coN_mv {t : TT} (w : WT t) (g T p : Nat) : coN t g T p = cnt (mvB t g T p) (tK t) := by
  have key : ∀ k, k ≤ tK t → sumN (fun q => if T.testBit q = true then 0 else fb t g p q k) (tN t) = cnt (mvB t g T p) k := by
    intro k
    induction k with
    | zero =>
      intro _
      exact sumN_z fun q _ => by split <;> rfl
    | succ k ih =>
      intro hk
      obtain ⟨-, -, l1, l2, l3, -⟩ := w.2.2 k (by omega)
      have e1 : sumN (fun q => if T.testBit q = true then 0 else fb t g p q (k + 1)) (tN t) = sumN (fun q => (if T.testBit q = true then 0 else fb t g p q k) + (if T.testBit q = true then 0 else (if fbB t g p q k = true then 1 else 0))) (tN t) := sumN_congr fun q _ => by
        have : fb t g p q (k + 1) = fb t g p q k + (if fbB t g p q k = true then 1 else 0) := rfl
        rw [this]
        cases T.testBit q
        · rw [itF, itF, itF]
        · rw [itT, itT, itT]
      have e2 : cnt (mvB t g T p) (k + 1) = cnt (mvB t g T p) k + (if mvB t g T p k = true then 1 else 0) := rfl
      have e3 : sumN (fun q => if T.testBit q = true then 0 else (if fbB t g p q k = true then 1 else 0)) (tN t) = if mvB t g T p k = true then 1 else 0 := by
        by_cases hO : tO t k = p
        · have hQ : ¬ tQ t k = p := fun z => l3 (hO.trans z.symm)
          have e4 : ∀ q, q < tN t → (if T.testBit q = true then 0 else (if fbB t g p q k = true then 1 else 0)) = if q = tQ t k ∧ (!tX t k && (!T.testBit (tQ t k) && brk t g k (tP t (tQ t k)))) = true then 1 else 0 := fun q _ => by
            unfold fbB
            by_cases e : q = tQ t k
            · rw [e, decide_eq_true (Or.inl ⟨hO, rfl⟩)]
              cases tX t k <;> cases T.testBit (tQ t k) <;> cases brk t g k (tP t (tQ t k)) <;> simp
            · rw [decide_eq_false (by omega), if_neg (show ¬ (q = tQ t k ∧ (!tX t k && (!T.testBit (tQ t k) && brk t g k (tP t (tQ t k)))) = true) from fun z => e z.1)]
              cases tX t k <;> cases T.testBit q <;> rfl
          rw [sumN_congr e4, sumN_one]
          unfold mvB
          rw [decide_eq_true hO, decide_eq_false hQ]
          cases tX t k <;> cases T.testBit (tQ t k) <;> cases brk t g k (tP t (tQ t k)) <;> simp [l2]
        · by_cases hQ : tQ t k = p
          · have e4 : ∀ q, q < tN t → (if T.testBit q = true then 0 else (if fbB t g p q k = true then 1 else 0)) = if q = tO t k ∧ (!tX t k && (!T.testBit (tO t k) && brk t g k (tP t (tO t k)))) = true then 1 else 0 := fun q _ => by
              unfold fbB
              by_cases e : q = tO t k
              · rw [e, decide_eq_true (Or.inr ⟨rfl, hQ⟩)]
                cases tX t k <;> cases T.testBit (tO t k) <;> cases brk t g k (tP t (tO t k)) <;> simp
              · rw [decide_eq_false (by omega), if_neg (show ¬ (q = tO t k ∧ (!tX t k && (!T.testBit (tO t k) && brk t g k (tP t (tO t k)))) = true) from fun z => e z.1)]
                cases tX t k <;> cases T.testBit q <;> rfl
            rw [sumN_congr e4, sumN_one]
            unfold mvB
            rw [decide_eq_false hO, decide_eq_true hQ]
            cases tX t k <;> cases T.testBit (tO t k) <;> cases brk t g k (tP t (tO t k)) <;> simp [l1]
          · have e4 : ∀ q, q < tN t → (if T.testBit q = true then 0 else (if fbB t g p q k = true then 1 else 0)) = 0 := fun q _ => by
              unfold fbB
              rw [decide_eq_false (by omega)]
              cases tX t k <;> cases T.testBit q <;> rfl
            rw [sumN_z e4]
            unfold mvB
            rw [decide_eq_false hO, decide_eq_false hQ]
            cases tX t k <;> rfl
      rw [e1, e2, sumN_add, ih (by omega), e3]
  exact key _ (Nat.le_refl _)
theorem coN_le {t : TT} (w : WT t) (g T p : Nat) : coN t g T p ≤ 10 := by
  have h := cnt_le (mvB t g T p) (tK t)
  have hk := w.1.2.1
  rw [coN_mv w]
  omega
-- the fewest
def mnN (P : Nat → Bool) (f : Nat → Nat) (z : Nat) : Nat → Nat
  | 0 => z
  | k + 1 => if P k = true then mnN P f z k else min (mnN P f z k) (f k)
theorem mn_s (P : Nat → Bool) (f : Nat → Nat) (z k : Nat) : mnN P f z (k + 1) = if P k = true then mnN P f z k else min (mnN P f z k) (f k) := rfl
theorem mn_le {P : Nat → Bool} {f : Nat → Nat} {z : Nat} : ∀ {k p}, p < k → P p = false → mnN P f z k ≤ f p
  | 0, p, h, _ => absurd h (Nat.not_lt_zero p)
  | k + 1, p, h, hp => by
    rw [mn_s]
    by_cases e : p = k
    · subst e
      rw [hp, itF]
      exact Nat.min_le_right _ _
    · have ih := mn_le (P := P) (f := f) (z := z) (k := k) (by omega) hp
      split
      · exact ih
      · exact Nat.le_trans (Nat.min_le_left _ _) ih
theorem mn_ex {P : Nat → Bool} {f : Nat → Nat} {z : Nat} : ∀ k, mnN P f z k = z ∨ ∃ p, p < k ∧ P p = false ∧ mnN P f z k = f p
  | 0 => Or.inl rfl
  | k + 1 => by
    rw [mn_s]
    cases hp : P k
    · rw [itF]
      rcases Nat.le_total (mnN P f z k) (f k) with h | h
      · rw [Nat.min_eq_left h]
        rcases mn_ex (P := P) (f := f) (z := z) k with h | ⟨p, h1, h2, h3⟩
        · exact Or.inl h
        · exact Or.inr ⟨p, by omega, h2, h3⟩
      · rw [Nat.min_eq_right h]
        exact Or.inr ⟨k, by omega, hp, rfl⟩
    · rw [itT]
      rcases mn_ex (P := P) (f := f) (z := z) k with h | ⟨p, h1, h2, h3⟩
      · exact Or.inl h
      · exact Or.inr ⟨p, by omega, h2, h3⟩
theorem mn_congr {P : Nat → Bool} {f g : Nat → Nat} {z : Nat} : ∀ {k}, (∀ p, p < k → P p = false → f p = g p) → mnN P f z k = mnN P g z k
  | 0, _ => rfl
  | k + 1, h => by
    rw [mn_s, mn_s, mn_congr (k := k) (fun p hp => h p (by omega))]
    cases hp : P k
    · rw [itF, itF, h k (by omega) hp]
    · rw [itT, itT]
def GN (t : TT) (g : Nat) : Nat → Nat → Nat
  | 0, _ => 0
  | n + 1, T => mnN (fun p => T.testBit p) (fun p => GN t g n (T ||| 2 ^ p) + coN t g T p) 1000000 (tN t)
/-- how many are not there -/
def rem (t : TT) (T : Nat) : Nat := cnt (fun p => !T.testBit p) (tN t)
def FF (t : TT) (g T : Nat) : Nat := GN t g (rem t T) T
theorem rem_s {t : TT} {T p : Nat} (hp : p < tN t) (h : T.testBit p = false) : rem t (T ||| 2 ^ p) + 1 = rem t T := by
  unfold rem
  have e := cnt_or (P := fun q => !(T ||| 2 ^ p).testBit q) (Q := fun q => decide (q = p)) (k := tN t) (fun q _ hq => by
    rw [sb_or] at hq
    by_cases z : p = q
    · rw [decide_eq_true z] at hq
      simp at hq
    · exact decide_eq_false (fun y => z y.symm))
  have e1 : cnt (fun q => decide (q = p)) (tN t) = 1 := by
    have h1 := sumN_one (r := p) (c := True) (tN t)
    have h2 := sumN_cnt (fun q => decide (q = p)) (tN t)
    rw [← h2]
    have h3 : sumN (fun i => if decide (i = p) = true then 1 else 0) (tN t) = sumN (fun q => if q = p ∧ True then 1 else 0) (tN t) := sumN_congr fun q _ => by
      by_cases z : q = p <;> simp [z]
    rw [h3, h1, if_pos ⟨hp, trivial⟩]
  have e2 : cnt (fun b => !(T ||| 2 ^ p).testBit b || decide (b = p)) (tN t) = cnt (fun q => !T.testBit q) (tN t) := cnt_congr fun q _ => by
    rw [sb_or]
    by_cases z : p = q
    · subst z
      rw [h]
      simp
    · have z2 : ¬ q = p := fun y => z y.symm
      simp [z, z2]
  omega
theorem FF_s {t : TT} {g T : Nat} (h : rem t T ≠ 0) : FF t g T = mnN (fun p => T.testBit p) (fun p => FF t g (T ||| 2 ^ p) + coN t g T p) 1000000 (tN t) := by
  obtain ⟨n, hn⟩ : ∃ n, rem t T = n + 1 := ⟨rem t T - 1, by omega⟩
  have e : FF t g T = mnN (fun p => T.testBit p) (fun p => GN t g n (T ||| 2 ^ p) + coN t g T p) 1000000 (tN t) := by
    unfold FF
    rw [hn]
    rfl
  rw [e]
  refine mn_congr fun p hp h1 => ?_
  have := rem_s hp h1
  unfold FF
  rw [show rem t (T ||| 2 ^ p) = n by omega]
theorem FF_0 {t : TT} {g T : Nat} (h : rem t T = 0) : FF t g T = 0 := by
  unfold FF
  rw [h]
  rfl
theorem FF_le {t : TT} (w : WT t) (g : Nat) : ∀ n T, rem t T = n → FF t g T ≤ 10 * n
  | 0, T, h => by
    rw [FF_0 h]
    exact Nat.zero_le _
  | n + 1, T, h => by
    rw [FF_s (by omega)]
    rcases low_ex (fun p => !T.testBit p) (tN t) with z | ⟨p, hp, h1, -⟩
    · have : rem t T = 0 := cnt_z z
      omega
    · have hb : T.testBit p = false := by simpa using h1
      have := rem_s hp hb
      have ih := FF_le w g n (T ||| 2 ^ p) (by omega)
      have := mn_le (P := fun p => T.testBit p) (f := fun p => FF t g (T ||| 2 ^ p) + coN t g T p) (z := 1000000) hp hb
      have := coN_le w g T p
      omega
theorem rem_le (t : TT) (T : Nat) : rem t T ≤ tN t := cnt_le _ _
theorem FF_b {t : TT} (w : WT t) (g T : Nat) : FF t g T ≤ 70 := by
  have h1 := FF_le w g _ T rfl
  have h2 := rem_le t T
  have h7 := w.1.1
  omega
/-- the fewest is the least of what all that are not there cost -/
theorem FF_min {t : TT} {g T p : Nat} (hp : p < tN t) (h : T.testBit p = false) : FF t g T ≤ FF t g (T ||| 2 ^ p) + coN t g T p := by
  have := rem_s hp h
  rw [FF_s (by omega)]
  exact mn_le (f := fun p => FF t g (T ||| 2 ^ p) + coN t g T p) hp h
theorem FF_ex {t : TT} (w : WT t) {g T : Nat} (h : rem t T ≠ 0) : ∃ p, p < tN t ∧ T.testBit p = false ∧ FF t g T = FF t g (T ||| 2 ^ p) + coN t g T p := by
  have hb := FF_b w g T
  rw [FF_s h] at hb ⊢
  rcases mn_ex (P := fun p => T.testBit p) (f := fun p => FF t g (T ||| 2 ^ p) + coN t g T p) (z := 1000000) (tN t) with e | e
  · omega
  · exact e
def isN (t : TT) (g T p : Nat) : Bool := !T.testBit p && decide (FF t g (T ||| 2 ^ p) + coN t g T p = FF t g T)
def fstN (P : Nat → Bool) (N : Nat) : Nat → Nat → Nat
  | 0, _ => 0
  | f + 1, v => if v < N then (if P v = true then v else fstN P N f (v + 1)) else 0
/-- who goes next in the first best order -/
def nxN (t : TT) (g T : Nat) : Nat := fstN (isN t g T) (tN t) 8 0
theorem fst_at {P : Nat → Bool} {N b : Nat} (hb : P b = true) (hN : b < N) : ∀ {f v : Nat}, v ≤ b → b < v + f → (∀ c, c < b → P c = false) → fstN P N f v = b
  | 0, v, h1, h2, _ => by omega
  | f + 1, v, h1, h2, h3 => by
    simp only [fstN]
    rw [if_pos (by omega)]
    by_cases e : v = b
    · subst e
      rw [if_pos hb]
    · rw [h3 v (by omega), if_neg (by decide)]
      exact fst_at hb hN (by omega) (by omega) h3
theorem fst_no {P : Nat → Bool} {N : Nat} (h : ∀ c, c < N → P c = false) : ∀ {f v : Nat}, fstN P N f v = 0
  | 0, v => rfl
  | f + 1, v => by
    simp only [fstN]
    by_cases e : v < N
    · rw [if_pos e, h v e, itF]
      exact fst_no h
    · rw [if_neg e]
theorem nx_at {t : TT} (w : WT t) {g T p : Nat} (hp : p < tN t) (h1 : T.testBit p = false) (h2 : FF t g (T ||| 2 ^ p) + coN t g T p = FF t g T) (h3 : ∀ c, c < p → T.testBit c = false → FF t g (T ||| 2 ^ c) + coN t g T c ≠ FF t g T) : nxN t g T = p := by
  have h7 := w.1.1
  refine fst_at (by unfold isN; rw [h1, decide_eq_true h2]; rfl) hp (Nat.zero_le _) (by omega) (fun c hc => ?_)
  unfold isN
  cases q : T.testBit c
  · rw [decide_eq_false (h3 c hc q)]
    rfl
  · rfl
theorem nx_lt {t : TT} (g T : Nat) : nxN t g T < 7 ∨ 7 < tN t := by
  by_cases h : 7 < tN t
  · exact Or.inr h
  · left
    rcases low_ex (isN t g T) (tN t) with z | ⟨b, h1, h2, h3⟩
    · unfold nxN
      rw [fst_no z]
      omega
    · unfold nxN
      rw [fst_at h2 h1 (Nat.zero_le _) (by omega) h3]
      omega
def Ts (t : TT) (g T : Nat) : Nat → Nat
  | 0 => T
  | j + 1 => Ts t g T j ||| 2 ^ nxN t g (Ts t g T j)
def pth (t : TT) (g T j : Nat) : Nat := nxN t g (Ts t g T j)
theorem Ts_s (t : TT) (g T : Nat) : ∀ j, Ts t g T (j + 1) = Ts t g (T ||| 2 ^ nxN t g T) j
  | 0 => rfl
  | j + 1 => by
    have ih := Ts_s t g T j
    show Ts t g T (j + 1) ||| 2 ^ nxN t g (Ts t g T (j + 1)) = Ts t g (T ||| 2 ^ nxN t g T) j ||| 2 ^ nxN t g (Ts t g (T ||| 2 ^ nxN t g T) j)
    rw [ih]
-- the class
theorem c_brk {m : pw_Mem} {t : TT} (h : CT m 1 t) (w : WT t) {b x g : Nat} (hb : b < tK t) (hx : x ≤ 30) (hg : g ≤ 30) : fX4_breaksTo (iI (b : Int)) (iI ((x : Int) - (g : Int))) m = some (iI ((if brk t g b x = true then 1 else 0 : Nat) : Int)) := by
  have hk := w.1.2.1
  obtain ⟨k7, f9, -, -, -, a99⟩ := w.2.2 b hb
  have hc9 := w.1.2.2.1
  have hh := hnow_le w hb
  have d30 := dst_le hx hg
  have e4 : m (1 + 4) (iI (b : Int)).toNatClampNeg = iI (tI t b : Nat) := by
    rw [clN (by omega)]
    exact (h.2.2 b hb).1
  have e5 : m (1 + 5) (iI (b : Int)).toNatClampNeg = iI (tF t b : Nat) := by
    rw [clN (by omega)]
    exact (h.2.2 b hb).2.1
  have e8 : m (1 + 8) (iI (b : Int)).toNatClampNeg = iI (tA t b : Nat) := by
    rw [clN (by omega)]
    exact (h.2.2 b hb).2.2.2.2.1
  have q1 : fX7_holdsAt 1 (iI (b : Int)) (iI (tA t b : Nat)) (iI (tC t : Nat)) m = some (iI (hnow t b : Nat)) := c_holdsAt h w hb (by omega) (by omega)
  unfold fX4_breaksTo
  rw [gdN (by omega), gdN (by omega), e4, e5, iI_jabs (by omega) (by omega), c_kstretch _ _ _ m k7 f9 (by omega), bd_some, gdN (by omega), e8, h.1.2.2.2.1, q1, bd_some]
  unfold brk
  by_cases k : dst x g - slk (tI t b) (tF t b) ≤ hnow t b
  · rw [leT (by omega), decide_eq_false (by omega)]
    rfl
  · rw [leF (by omega), decide_eq_true (by omega)]
    rfl
def fbH (t : TT) (g : Nat) (m : pw_Mem) (k : Nat) : Prop := ∀ p q, p < 7 → q < 7 → m (39 + p) q = iI (fb t g p q k : Nat)
theorem c_first {m : pw_Mem} {t : TT} (h : CT m 1 t) (w : WT t) {g : Nat} (hg : g ≤ 30) : ∃ m2 : pw_Mem, fX4_findFirstBreaks (iI (g : Int)) m = some m2 ∧ fbH t g m2 (tK t) ∧ ∀ c, c < 39 ∨ 45 < c → m2 c = m c := by
  have hk := w.1.2.1
  have h7 := w.1.1
  unfold fX4_findFirstBreaks
  refine lpI2 (fun i v1 (m2 : pw_Mem) => v1 = iI (i : Nat) ∧ (∀ p q, p < i → q < 7 → m2 (39 + p) q = iI ((0 : Nat) : Int)) ∧ ∀ c, c < 39 ∨ 45 < c → m2 c = m c) (fun r => ∃ m2 : pw_Mem, r = some m2 ∧ fbH t g m2 (tK t) ∧ ∀ c, c < 39 ∨ 45 < c → m2 c = m c) 7 (by omega) ?_ ?_ ⟨rfl, fun p q hp => absurd hp (Nat.not_lt_zero p), fun _ _ => rfl⟩
  · rintro nx i _ m2 hi ⟨rfl, hz, f2⟩ hnx
    rw [n7, leF (by omega)]
    refine lpI2 (fun j v27 (m28 : pw_Mem) => v27 = iI (j : Nat) ∧ (∀ q, q < j → m28 (39 + i) q = iI ((0 : Nat) : Int)) ∧ (∀ p q, p < i → q < 7 → m28 (39 + p) q = iI ((0 : Nat) : Int)) ∧ ∀ c, c < 39 ∨ 45 < c → m28 c = m c) (fun r => ∃ m2 : pw_Mem, r = some m2 ∧ fbH t g m2 (tK t) ∧ ∀ c, c < 39 ∨ 45 < c → m2 c = m c) 7 (by omega) ?_ ?_ ⟨rfl, fun q hq => absurd hq (Nat.not_lt_zero q), hz, f2⟩
    · rintro nx2 j _ m28 hj ⟨rfl, hq, hz2, f28⟩ hnx2
      rw [leF (by omega), gdN (by omega), gdN (by omega), lt_def, lt_def, inc1, clN (n := i) (by omega), clN (n := j) (by omega)]
      refine hnx2 _ _ ⟨rfl, fun q hq' => ?_, fun p q hp hq' => by rw [up_o (by omega)]; exact hz2 p q hp hq', fun c hc => by rw [up_oc (by omega), f28 c hc]⟩
      by_cases e : q = j
      · subst e
        rw [up_eq]
        rfl
      · rw [up_ne e]
        exact hq q (by omega)
    · rintro nx2 _ m28 ⟨rfl, hq, hz2, f28⟩
      rw [leT (by omega), lt_def, inc1]
      refine hnx _ _ ⟨rfl, fun p q hp hq' => ?_, f28⟩
      by_cases e : p = i
      · rw [e]
        exact hq q hq'
      · exact hz2 p q (by omega) hq'
  · rintro nx _ m2 ⟨rfl, hz, f2⟩
    rw [n7, leT (by omega)]
    refine lpI2 (fun i v5 (m6 : pw_Mem) => v5 = iI (i : Nat) ∧ fbH t g m6 i ∧ ∀ c, c < 39 ∨ 45 < c → m6 c = m c) (fun r => ∃ m2 : pw_Mem, r = some m2 ∧ fbH t g m2 (tK t) ∧ ∀ c, c < 39 ∨ 45 < c → m2 c = m c) (tK t) (by omega) ?_ ?_ ⟨rfl, fun p q hp hq => hz p q hp hq, f2⟩
    · rintro nx2 i _ m6 hi ⟨rfl, hf, f6⟩ hnx2
      have h6 : CT m6 1 t := CT_frame h (fun c _ _ => f6 c (by omega))
      obtain ⟨⟨eO, eQ, eP, eR⟩, k1, k2, k3, k4, k5⟩ := c_pq h6 w hi
      obtain ⟨-, -, l1, l2, l3, -⟩ := w.2.2 i hi
      have es : ∀ p q, fb t g p q (i + 1) = fb t g p q i + (if fbB t g p q i = true then 1 else 0) := fun p q => rfl
      rw [h6.1.2.1, leF (by omega), c_isSnapped h6 w hi, bd_some, jn_def]
      cases hx : tX t i
      · have cO : (iI (tO t i : Int)).toNatClampNeg = tO t i := clN (by omega)
        have cQ : (iI (tQ t i : Int)).toNatClampNeg = tQ t i := clN (by omega)
        have eP' : m6 (1 + 1) (tO t i) = iI (tP t (tO t i) : Nat) := (h6.2.1 _ l1).1
        have eR' : m6 (1 + 1) (tQ t i) = iI (tP t (tQ t i) : Nat) := (h6.2.1 _ l2).1
        rw [itF, gdN (by omega), eO, lt_def, gdN (by omega), eQ, lt_def, gdN (by omega), gdN (by omega), gdN (by omega), eR, iI_sub, c_brk h6 w hi k5 hg, bd_some, gdN (by omega)]
        have a1 : m6 (39 + (iI (tO t i : Int)).toNatClampNeg) (iI (tQ t i : Int)).toNatClampNeg = iI (fb t g (tO t i) (tQ t i) i : Nat) := by
          rw [cO, cQ]
          exact hf _ _ k2 k3
        rw [a1, iN_add, lt_def]
        obtain ⟨m18, hm18⟩ : ∃ m18, m18 = pw_up m6 (39 + (iI (tO t i : Int)).toNatClampNeg) (iI (tQ t i : Int)).toNatClampNeg (iI ((fb t g (tO t i) (tQ t i) i + (if brk t g i (tP t (tQ t i)) = true then 1 else 0) : Nat) : Int)) := ⟨_, rfl⟩
        rw [← hm18]
        rw [cO, cQ] at hm18
        have f18 : ∀ c, c < 39 ∨ 45 < c → m18 c = m c := fun c hc => by rw [hm18, up_oc (by omega), f6 c hc]
        have h18 : CT m18 1 t := CT_frame h (fun c _ _ => f18 c (by omega))
        obtain ⟨⟨-, -, eP2, -⟩, -⟩ := c_pq h18 w hi
        have a2 : m18 (39 + (iI (tQ t i : Int)).toNatClampNeg) (iI (tO t i : Int)).toNatClampNeg = iI (fb t g (tQ t i) (tO t i) i : Nat) := by
          rw [cO, cQ, hm18, up_o (by omega)]
          exact hf _ _ k3 k2
        rw [gdN (by omega), gdN (by omega), gdN (by omega), eP2, iI_sub, c_brk h18 w hi k4 hg, bd_some, gdN (by omega), a2, iN_add]
        simp only [lt_def, inc1]
        rw [cO, cQ]
        refine hnx2 _ _ ⟨rfl, fun p q hp hq => ?_, fun c hc => by rw [up_oc (by omega), f18 c hc]⟩
        rw [es]
        by_cases z1 : p = tQ t i ∧ q = tO t i
        · have hB : fbB t g p q i = brk t g i (tP t (tO t i)) := by
            unfold fbB
            rw [hx, z1.1, z1.2, decide_eq_true (Or.inr ⟨rfl, rfl⟩)]
            rfl
          rw [hB, z1.1, z1.2, up_eq]
        · have r1 : pw_up m18 (39 + tQ t i) (tO t i) (iI ((fb t g (tQ t i) (tO t i) i + (if brk t g i (tP t (tO t i)) = true then 1 else 0) : Nat) : Int)) (39 + p) q = m18 (39 + p) q := by
            by_cases z2 : p = tQ t i
            · rw [z2]
              exact up_ne (fun z => z1 ⟨z2, z⟩)
            · exact up_o (by omega)
          rw [r1, hm18]
          by_cases z3 : p = tO t i ∧ q = tQ t i
          · have hB : fbB t g p q i = brk t g i (tP t (tQ t i)) := by
              unfold fbB
              rw [hx, z3.1, z3.2, decide_eq_true (Or.inl ⟨rfl, rfl⟩)]
              rfl
            rw [hB, z3.1, z3.2, up_eq]
          · have hB : fbB t g p q i = false := by
              unfold fbB
              rw [decide_eq_false (by omega), Bool.false_and, Bool.and_false]
            have r2 : pw_up m6 (39 + tO t i) (tQ t i) (iI ((fb t g (tO t i) (tQ t i) i + (if brk t g i (tP t (tQ t i)) = true then 1 else 0) : Nat) : Int)) (39 + p) q = m6 (39 + p) q := by
              by_cases z4 : p = tO t i
              · rw [z4]
                exact up_ne (fun z => z3 ⟨z4, z⟩)
              · exact up_o (by omega)
            rw [r2, hB, itF, Nat.add_zero]
            exact hf p q hp hq
      · rw [itT]
        simp only [lt_def, inc1]
        refine hnx2 _ _ ⟨rfl, fun p q hp hq => ?_, f6⟩
        have hB : fbB t g p q i = false := by
          unfold fbB
          rw [hx]
          rfl
        rw [es, hB, itF, Nat.add_zero]
        exact hf p q hp hq
    · rintro nx2 _ m6 ⟨rfl, hf, f6⟩
      have h6 : CT m6 1 t := CT_frame h (fun c _ _ => f6 c (by omega))
      rw [h6.1.2.1, leT (by omega)]
      exact ⟨m6, rfl, hf, f6⟩
theorem orp {T p N : Nat} (hT : T < 2 ^ N) (hp : p < N) (hN : N ≤ 7) : T ||| 2 ^ p < 2 ^ N ∧ 2 ^ N ≤ 128 := ⟨Nat.or_lt_two_pow hT (Nat.pow_lt_pow_right (by omega) hp), Nat.pow_le_pow_right (n := 2) (by omega) hN⟩
theorem c_ifN {m : pw_Mem} {t : TT} (h : CT m 1 t) (w : WT t) {g T p : Nat} (hf : fbH t g m (tK t)) (hT : T < 2 ^ tN t) (hp : p < tN t) {x : Nat} (hx : m 46 (T ||| 2 ^ p) = iI (x : Int)) : fX4_snappedIfNext (iI (T : Int)) (iI (p : Int)) m = some (iI ((x + coN t g T p : Nat) : Int)) := by
  have hk := w.1.2.1
  have h7 := w.1.1
  obtain ⟨o1, o2⟩ := orp hT hp h7
  have sh : (1 : Int32) <<< (iI (p : Int) &&& 31) = iI ((2 ^ p : Nat) : Int) := iI_shl (by omega)
  have p2 : 2 ^ p < 2 ^ tN t := Nat.pow_lt_pow_right (by omega) hp
  have ex : m 46 (iI ((T ||| 2 ^ p : Nat) : Int)).toNatClampNeg = iI (x : Int) := by
    rw [clN (by omega)]
    exact hx
  unfold fX4_snappedIfNext
  rw [sh, iI_or (by omega) (by omega), gdN (by omega), lt_def, ex]
  refine lpI2 (fun i v2 v3 => v2 = iI ((x + sumN (fun q => if T.testBit q = true then 0 else fb t g p q (tK t)) i : Nat) : Int) ∧ v3 = iI (i : Nat)) (fun r => r = some (iI ((x + coN t g T p : Nat) : Int))) (tN t) (by omega) ?_ ?_ ⟨rfl, rfl⟩
  · rintro nx i _ _ hi ⟨rfl, rfl⟩ hnx
    have hb := bit0 (s := T) (b := i) (by omega) (by omega)
    have ef : m (39 + (iI (p : Int)).toNatClampNeg) (iI (i : Int)).toNatClampNeg = iI (fb t g p i (tK t) : Nat) := by
      rw [clN (by omega), clN (by omega)]
      exact hf p i (by omega) (by omega)
    have e : sumN (fun q => if T.testBit q = true then 0 else fb t g p q (tK t)) (i + 1) = sumN (fun q => if T.testBit q = true then 0 else fb t g p q (tK t)) i + (if T.testBit i = true then 0 else fb t g p i (tK t)) := rfl
    rw [h.1.1, leF (by omega), jn_def]
    cases hq : T.testBit i
    · rw [if_pos (hb.mpr hq), gdN (by omega), gdN (by omega), ef, iN_add]
      simp only [lt_def, inc1]
      exact hnx _ _ ⟨by rw [e, hq, itF, Nat.add_assoc], rfl⟩
    · rw [if_neg (fun z => by rw [hb.mp z] at hq; exact absurd hq (by decide))]
      simp only [lt_def, inc1]
      exact hnx _ _ ⟨by rw [e, hq, itT, Nat.add_zero], rfl⟩
  · rintro nx _ _ ⟨rfl, rfl⟩
    rw [h.1.1, leT (by omega)]
    rfl
theorem or_gt {T p : Nat} (h : T.testBit p = false) : T < T ||| 2 ^ p := by
  have h1 : T ≤ T ||| 2 ^ p := Nat.left_le_or
  rcases Nat.lt_or_ge T (T ||| 2 ^ p) with q | q
  · exact q
  · have e : T ||| 2 ^ p = T := by omega
    have : (T ||| 2 ^ p).testBit p = true := by
      rw [sb_or]
      simp
    rw [e, h] at this
    exact absurd this (by decide)
theorem rem_0 {t : TT} {T : Nat} (hT : T < 2 ^ tN t) : rem t T = 0 ↔ T = 2 ^ tN t - 1 := by
  constructor
  · intro h
    apply Nat.eq_of_testBit_eq
    intro i
    rw [Nat.testBit_two_pow_sub_one]
    by_cases hi : i < tN t
    · have := cnt_0 h i hi
      rw [decide_eq_true hi]
      simpa using this
    · rw [decide_eq_false hi, Nat.testBit_lt_two_pow (Nat.lt_of_lt_of_le hT (Nat.pow_le_pow_right (by omega) (by omega)))]
  · intro h
    exact cnt_z fun b hb => by
      rw [h, Nat.testBit_two_pow_sub_one, decide_eq_true hb]
      rfl
theorem c_weigh {m : pw_Mem} {t : TT} (h : CT m 1 t) (w : WT t) : ∃ m2 : pw_Mem, fX4_weighOrders m = some m2 ∧ fbH t (meetN t 30) m2 (tK t) ∧ (∀ T, T < 2 ^ tN t → m2 46 T = iI (FF t (meetN t 30) T : Nat)) ∧ ∀ c, c < 39 ∨ 46 < c → m2 c = m c := by
  have hk := w.1.2.1
  have h7 := w.1.1
  have hg := meetN_le t 30
  obtain ⟨g, hgg⟩ : ∃ g, g = meetN t 30 := ⟨_, rfl⟩
  have cm := c_meet h w
  rw [← hgg] at hg cm ⊢
  clear hgg
  obtain ⟨m2, q2, hf, f2⟩ := c_first h w hg
  have h2 : CT m2 1 t := CT_frame h (fun c _ _ => f2 c (by omega))
  have shN : (1 : Int32) <<< (iI (tN t : Int) &&& 31) = iI ((2 ^ tN t : Nat) : Int) := iI_shl (by omega)
  have A1 : 2 ^ tN t ≤ 128 := Nat.pow_le_pow_right (n := 2) (by omega) h7
  have A2 : 0 < 2 ^ tN t := Nat.pow_pos (by omega)
  obtain ⟨S, hS⟩ : ∃ S, S = 2 ^ tN t := ⟨_, rfl⟩
  have es : iI (S : Int) - 1 = iI ((S : Int) - 1) := iI_sub _ 1
  unfold fX4_weighOrders
  rw [cm, bd_some, q2, bd_some, h2.1.1, shN, ← hS, es, lt_def]
  rw [← hS] at A1 A2
  refine lpI2 (fun i v4 (m5 : pw_Mem) => v4 = iI ((S : Int) - 1 - (i : Int)) ∧ (∀ T, T < S → S ≤ T + i → m5 46 T = iI (FF t g T : Nat)) ∧ ∀ c, c ≠ 46 → m5 c = m2 c) (fun r => ∃ m2' : pw_Mem, r = some m2' ∧ fbH t g m2' (tK t) ∧ (∀ T, T < S → m2' 46 T = iI (FF t g T : Nat)) ∧ ∀ c, c < 39 ∨ 46 < c → m2' c = m c) S (by omega) ?_ ?_ ⟨congrArg iI (by omega), fun T h1 h2 => by omega, fun _ _ => rfl⟩
  · rintro nx i _ m5 hi ⟨rfl, hF, f5⟩ hnx
    obtain ⟨T, hT⟩ : ∃ T : Nat, T = S - 1 - i := ⟨_, rfl⟩
    have eT : (S : Int) - 1 - (i : Int) = (T : Int) := by omega
    have hTS : T < S := by omega
    have hTS2 : T < 2 ^ tN t := by omega
    have h5 : CT m5 1 t := CT_frame h2 (fun c _ _ => f5 c (by omega))
    have hf5 : fbH t g m5 (tK t) := fun p q hp hq => by
      rw [f5 (39 + p) (by omega)]
      exact hf p q hp hq
    have r0 := rem_0 hTS2
    rw [← hS] at r0
    have acc : ∀ z : Nat, z ≤ 1000000 → (rem t T = 0 → z = 0) → (rem t T ≠ 0 → z = 1000000) → ∃ m2' : pw_Mem, lp (κ := Int32 → Int32 → Option pw_Mem) (fun _ _ => none) (fun nx11 v9 v10 => if (m5 1 11) ≤ v10 then gd (ix (iI (T : Int)) 128) (lt (pw_up m5 46 (iI (T : Int)).toNatClampNeg v9) fun m13 => lt (iI (T : Int) + (-1 : Int32)) fun x14 => nx x14 m13) else jn (κ := Int32 → Option pw_Mem) (fun v15 => lt (v10 + (1 : Int32)) fun x16 => nx11 v15 x16) (fun k17 => if ((iI (T : Int) >>> (v10 &&& 31)) &&& (1 : Int32)) = 0 then bd (fX4_snappedIfNext (iI (T : Int)) v10 m5) fun y19 => lt (jmin v9 y19) fun x20 => k17 x20 else k17 v9)) FU (iI (z : Int)) (0 : Int32) = some m2' ∧ fbH t g m2' (tK t) ∧ (∀ T, T < S → m2' 46 T = iI (FF t g T : Nat)) ∧ ∀ c, c < 39 ∨ 46 < c → m2' c = m c := by
      intro z hz z0 z1
      refine lpI2 (fun j v9 v10 => v9 = iI ((mnN (fun p => T.testBit p) (fun p => FF t g (T ||| 2 ^ p) + coN t g T p) z j : Nat) : Int) ∧ v10 = iI (j : Nat) ∧ mnN (fun p => T.testBit p) (fun p => FF t g (T ||| 2 ^ p) + coN t g T p) z j ≤ 1000000) (fun r => ∃ m2' : pw_Mem, r = some m2' ∧ fbH t g m2' (tK t) ∧ (∀ T, T < S → m2' 46 T = iI (FF t g T : Nat)) ∧ ∀ c, c < 39 ∨ 46 < c → m2' c = m c) (tN t) (by omega) ?_ ?_ ⟨rfl, rfl, hz⟩
      · rintro nx2 j _ _ hj ⟨rfl, rfl, hb0⟩ hnx2
        have hb := bit0 (s := T) (b := j) (by omega) (by omega)
        have ms := mn_s (fun p => T.testBit p) (fun p => FF t g (T ||| 2 ^ p) + coN t g T p) z j
        obtain ⟨M, hM⟩ : ∃ M, M = mnN (fun p => T.testBit p) (fun p => FF t g (T ||| 2 ^ p) + coN t g T p) z j := ⟨_, rfl⟩
        rw [← hM] at ms hb0 ⊢
        rw [h5.1.1, leF (by omega), jn_def]
        cases hq : T.testBit j
        · have og := or_gt hq
          obtain ⟨o1, o2⟩ := orp hTS2 hj h7
          have fbd := FF_b w g (T ||| 2 ^ j)
          have cbd := coN_le w g T j
          rw [hq, itF] at ms
          have mle : min M (FF t g (T ||| 2 ^ j) + coN t g T j) ≤ M := Nat.min_le_left _ _
          rw [if_pos (hb.mpr hq), c_ifN h5 w hf5 hTS2 hj (hF (T ||| 2 ^ j) (by omega) (by omega)), bd_some, c_jmin _ _ (by omega) (by omega)]
          simp only [lt_def, inc1]
          exact hnx2 _ _ ⟨by rw [ms], rfl, by rw [ms]; omega⟩
        · rw [hq, itT] at ms
          rw [if_neg (fun z => by rw [hb.mp z] at hq; exact absurd hq (by decide))]
          simp only [lt_def, inc1]
          exact hnx2 _ _ ⟨by rw [ms], rfl, by rw [ms]; exact hb0⟩
      · rintro nx2 _ _ ⟨rfl, rfl, hb0⟩
        have fin : mnN (fun p => T.testBit p) (fun p => FF t g (T ||| 2 ^ p) + coN t g T p) z (tN t) = FF t g T := by
          by_cases k : rem t T = 0
          · rw [FF_0 k, z0 k]
            have no : ∀ j, j ≤ tN t → mnN (fun p => T.testBit p) (fun p => FF t g (T ||| 2 ^ p) + coN t g T p) 0 j = 0 := by
              intro j
              induction j with
              | zero => intro _; rfl
              | succ j ih =>
                intro hj
                have := cnt_0 k j (by omega)
                have hb : T.testBit j = true := by simpa using this
                rw [mn_s, hb, itT]
                exact ih (by omega)
            exact no _ (Nat.le_refl _)
          · rw [FF_s k, z1 k]
        have emn : iI (T : Int) + (-1 : Int32) = iI ((T : Int) + -1) := by rw [em1, iI_add]
        rw [h5.1.1, leT (by omega), gdN (by omega), lt_def, lt_def, emn, clN (by omega), fin]
        refine hnx _ _ ⟨congrArg iI (by omega), fun T' h1 h2 => ?_, fun c hc => by rw [up_oc hc, f5 c hc]⟩
        by_cases e : T' = T
        · rw [e, up_eq]
        · rw [up_ne e]
          exact hF T' h1 (by omega)
    rw [eT, lt0F (by omega), jn_def]
    by_cases k : T = S - 1
    · have := r0.mpr k
      rw [eqT (by omega)]
      dsimp only
      exact acc 0 (by omega) (fun _ => rfl) (fun z => absurd this z)
    · have : ¬ rem t T = 0 := fun z => k (r0.mp z)
      rw [eqF (by omega)]
      dsimp only
      exact acc 1000000 (by omega) (fun z => absurd z this) (fun _ => rfl)
  · rintro nx _ m5 ⟨rfl, hF, f5⟩
    rw [lt0T (by omega)]
    exact ⟨m5, rfl, fun p q hp hq => by rw [f5 (39 + p) (by omega)]; exact hf p q hp hq, fun T hT => hF T hT (by omega), fun c hc => by rw [f5 c (by omega), f2 c (by omega)]⟩
theorem c_next {m : pw_Mem} {t : TT} (h : CT m 1 t) (w : WT t) {g T : Nat} (hf : fbH t g m (tK t)) (hF : ∀ T, T < 2 ^ tN t → m 46 T = iI (FF t g T : Nat)) (hT : T < 2 ^ tN t) : fX4_nextInOrder (iI (T : Int)) m = some (iI (nxN t g T : Nat)) := by
  have h7 := w.1.1
  have A1 : 2 ^ tN t ≤ 128 := Nat.pow_le_pow_right (n := 2) (by omega) h7
  unfold fX4_nextInOrder
  refine lpI1 (fun i v => v = iI (i : Nat) ∧ ∀ c, c < i → isN t g T c = false) (fun r => r = some (iI (nxN t g T : Nat))) (tN t) (by omega) ?_ ?_ ⟨rfl, fun c hc => absurd hc (Nat.not_lt_zero c)⟩
  · rintro nx i _ hi ⟨rfl, hlow⟩ hnx
    have hb := bit0 (s := T) (b := i) (by omega) (by omega)
    obtain ⟨o1, o2⟩ := orp hT hi h7
    have fbd := FF_b w g (T ||| 2 ^ i)
    have fbd2 := FF_b w g T
    have cbd := coN_le w g T i
    have e46 : m 46 (iI (T : Int)).toNatClampNeg = iI (FF t g T : Nat) := by
      rw [clN (by omega)]
      exact hF T hT
    have go : isN t g T i = false → nx (iI ((i + 1 : Nat) : Int)) = some (iI (nxN t g T : Nat)) := fun hz => hnx _ ⟨rfl, fun c hc => by
      by_cases e : c = i
      · rw [e]
        exact hz
      · exact hlow c (by omega)⟩
    rw [h.1.1, leF (by omega), jn_def, lt_def, inc1]
    cases hq : T.testBit i
    · rw [if_pos (hb.mpr hq), c_ifN h w hf hT hi (hF _ o1), bd_some, gdN (by omega), e46]
      by_cases k : FF t g (T ||| 2 ^ i) + coN t g T i = FF t g T
      · have hi1 : isN t g T i = true := by
          unfold isN
          rw [hq, decide_eq_true k]
          rfl
        have : nxN t g T = i := fst_at hi1 hi (Nat.zero_le _) (by omega) hlow
        rw [eqT (by omega), this]
      · rw [eqF (by omega)]
        exact go (by unfold isN; rw [hq, decide_eq_false k]; rfl)
    · rw [if_neg (fun z => by rw [hb.mp z] at hq; exact absurd hq (by decide))]
      exact go (by unfold isN; rw [hq]; rfl)
  · rintro nx _ ⟨rfl, hlow⟩
    have : nxN t g T = 0 := fst_no hlow
    rw [h.1.1, leT (by omega), this]
    rfl
theorem nx_in {t : TT} (w : WT t) {g T : Nat} (h : rem t T ≠ 0) : nxN t g T < tN t ∧ T.testBit (nxN t g T) = false := by
  have h7 := w.1.1
  obtain ⟨p, h1, h2, h3⟩ := FF_ex w (g := g) h
  rcases low_ex (isN t g T) (tN t) with z | ⟨b, k1, k2, k3⟩
  · have := z p h1
    unfold isN at this
    rw [h2, decide_eq_true h3.symm] at this
    exact absurd this (by decide)
  · have e : nxN t g T = b := fst_at k2 k1 (Nat.zero_le _) (by omega) k3
    rw [e]
    refine ⟨k1, ?_⟩
    unfold isN at k2
    cases q : T.testBit b
    · rfl
    · rw [q] at k2
      simp at k2
theorem Ts_in {t : TT} (w : WT t) {g : Nat} : ∀ j, j ≤ tN t → Ts t g 0 j < 2 ^ tN t ∧ rem t (Ts t g 0 j) + j = tN t
  | 0, _ => by
    refine ⟨Nat.pow_pos (by omega), ?_⟩
    have : rem t 0 = tN t := by
      have h := cnt_not (fun _ => false) (tN t)
      rw [cnt_z (P := fun _ => false) (fun _ _ => rfl)] at h
      have e : rem t 0 = cnt (fun b => !(fun _ => false) b) (tN t) := cnt_congr fun b _ => by rw [Nat.zero_testBit]
      rw [e]
      omega
    show rem t 0 + 0 = tN t
    omega
  | j + 1, hj => by
    obtain ⟨h1, h2⟩ := Ts_in w (g := g) j (by omega)
    obtain ⟨h3, h4⟩ := nx_in w (g := g) (T := Ts t g 0 j) (by omega)
    have h5 := rem_s h3 h4
    show Ts t g 0 j ||| 2 ^ nxN t g (Ts t g 0 j) < 2 ^ tN t ∧ rem t (Ts t g 0 j ||| 2 ^ nxN t g (Ts t g 0 j)) + (j + 1) = tN t
    exact ⟨Nat.or_lt_two_pow h1 (Nat.pow_lt_pow_right (by omega) h3), by omega⟩
theorem c_inOrder {m : pw_Mem} {t : TT} (h : CT m 1 t) (w : WT t) {g i : Nat} (hf : fbH t g m (tK t)) (hF : ∀ T, T < 2 ^ tN t → m 46 T = iI (FF t g T : Nat)) (hi : i < tN t) : fX4_inOrder (iI (i : Int)) m = some (iI (pth t g 0 i : Nat)) := by
  have h7 := w.1.1
  have A1 : 2 ^ tN t ≤ 128 := Nat.pow_le_pow_right (n := 2) (by omega) h7
  unfold fX4_inOrder
  refine lpI3 (fun k v1 v2 v3 => v1 = iI ((Ts t g 0 k : Nat) : Int) ∧ v3 = iI (k : Nat) ∧ (k ≠ 0 → v2 = iI (pth t g 0 (k - 1) : Nat))) (fun r => r = some (iI (pth t g 0 i : Nat))) (i + 1) (by omega) ?_ ?_ ⟨rfl, rfl, fun z => absurd rfl z⟩
  · rintro nx k _ _ _ hk ⟨rfl, rfl, -⟩ hnx
    obtain ⟨t1, t2⟩ := Ts_in w (g := g) k (by omega)
    obtain ⟨t3, t4⟩ := nx_in w (g := g) (T := Ts t g 0 k) (by omega)
    have p2 : 2 ^ nxN t g (Ts t g 0 k) < 2 ^ tN t := Nat.pow_lt_pow_right (by omega) t3
    have sh : (1 : Int32) <<< (iI (nxN t g (Ts t g 0 k) : Int) &&& 31) = iI ((2 ^ nxN t g (Ts t g 0 k) : Nat) : Int) := iI_shl (by omega)
    rw [ltF (by omega), c_next h w hf hF t1, bd_some, sh, iI_or (by omega) (by omega), lt_def, lt_def, inc1]
    exact hnx _ _ _ ⟨rfl, rfl, fun _ => rfl⟩
  · rintro nx _ v2 _ ⟨rfl, rfl, h2⟩
    rw [ltT (by omega), h2 (by omega)]
    rfl
