/-! CALLS: order; the reference's side, the call -/
set_option maxRecDepth 100000
def leftN (t : TT) (T : Nat) : Nat := andn (2 ^ tN t - 1) T
theorem left_bit (t : TT) (T p : Nat) : (leftN t T).testBit p = (decide (p < tN t) && !T.testBit p) := by
  unfold leftN
  rw [andn_bit, Nat.testBit_two_pow_sub_one]
theorem left_lt {t : TT} (w : WT t) (T : Nat) : leftN t T < 128 := by
  have h7 := w.1.1
  have A1 : 2 ^ tN t ≤ 128 := Nat.pow_le_pow_right (n := 2) (by omega) h7
  have A2 : 0 < 2 ^ tN t := Nat.pow_pos (by omega)
  have : leftN t T < 2 ^ tN t := andn_lt (by omega)
  omega
theorem left_0 {t : TT} {T : Nat} : leftN t T = 0 ↔ rem t T = 0 := by
  constructor
  · intro h
    refine cnt_z fun p hp => ?_
    have := left_bit t T p
    rw [h, Nat.zero_testBit, decide_eq_true hp, Bool.true_and] at this
    exact this.symm
  · intro h
    apply Nat.eq_of_testBit_eq
    intro i
    rw [left_bit, Nat.zero_testBit]
    by_cases hi : i < tN t
    · rw [cnt_0 h i hi, Bool.and_false]
    · rw [decide_eq_false hi, Bool.false_and]
theorem left_s (t : TT) (T p : Nat) : andn (leftN t T) (2 ^ p) = leftN t (T ||| 2 ^ p) := by
  apply Nat.eq_of_testBit_eq
  intro i
  rw [andn_bit, left_bit, left_bit, sb_or, Nat.testBit_two_pow]
  cases T.testBit i <;> by_cases h : p = i <;> simp [h]
/-- what is snapped when those of T have gone -/
def SI (t : TT) (g T S : Nat) : Prop := S < 2 ^ tK t ∧ (∀ b, b < tK t → S.testBit b = true → tX t b = false ∧ (T.testBit (tO t b) = true ∨ T.testBit (tQ t b) = true)) ∧ ∀ b, b < tK t → tX t b = false → ((T.testBit (tO t b) = true ∧ T.testBit (tQ t b) = false ∧ brk t g b (tP t (tQ t b)) = true) ∨ (T.testBit (tQ t b) = true ∧ T.testBit (tO t b) = false ∧ brk t g b (tP t (tO t b)) = true)) → S.testBit b = true
theorem SI_0 (t : TT) (g : Nat) : SI t g 0 0 := by
  refine ⟨Nat.pow_pos (by omega), fun b _ h => ?_, fun b _ _ h => ?_⟩
  · rw [Nat.zero_testBit] at h
    exact absurd h (by decide)
  · rw [Nat.zero_testBit, Nat.zero_testBit] at h
    rcases h with h | h <;> exact absurd h.1 (by decide)
theorem or3 (S b : Nat) (P : Nat → Bool) (k : Nat) : (S ||| msk P k).testBit b = (S.testBit b || (decide (b < k) && P b)) := by rw [Nat.testBit_or, msk_bit]
theorem mv_t {t : TT} {g T p b : Nat} : mvB t g T p b = true ↔ tX t b = false ∧ ((tO t b = p ∧ T.testBit (tQ t b) = false ∧ brk t g b (tP t (tQ t b)) = true) ∨ (tQ t b = p ∧ T.testBit (tO t b) = false ∧ brk t g b (tP t (tO t b)) = true)) := by
  unfold mvB
  rw [Bool.and_eq_true, Bool.or_eq_true, Bool.and_eq_true, Bool.and_eq_true, Bool.and_eq_true, Bool.and_eq_true, decide_eq_true_iff, decide_eq_true_iff, Bool.not_eq_true', Bool.not_eq_true', Bool.not_eq_true']
theorem SI_s {t : TT} (w : WT t) {g T S p : Nat} (h : SI t g T S) (hp : T.testBit p = false) : SI t g (T ||| 2 ^ p) (S ||| msk (mvB t g T p) (tK t)) := by
  obtain ⟨h1, h2, h3⟩ := h
  have up : ∀ q, T.testBit q = true → (T ||| 2 ^ p).testBit q = true := fun q z => by
    rw [sb_or, z]
    rfl
  have dn : ∀ q, (T ||| 2 ^ p).testBit q = false → T.testBit q = false := fun q z => by
    rw [sb_or, Bool.or_eq_false_iff] at z
    exact z.1
  have pp : (T ||| 2 ^ p).testBit p = true := by
    rw [sb_or]
    simp
  refine ⟨Nat.or_lt_two_pow h1 (msk_lt _ _), fun b hb z => ?_, fun b hb hx z => ?_⟩
  · rw [or3, decide_eq_true hb, Bool.true_and, Bool.or_eq_true] at z
    rcases z with z | z
    · obtain ⟨k1, k2⟩ := h2 b hb z
      exact ⟨k1, k2.imp (up _) (up _)⟩
    · obtain ⟨k1, k2⟩ := mv_t.mp z
      refine ⟨k1, ?_⟩
      rcases k2 with k2 | k2
      · rw [k2.1]
        exact Or.inl pp
      · rw [k2.1]
        exact Or.inr pp
  · rw [or3, decide_eq_true hb, Bool.true_and, Bool.or_eq_true]
    rcases z with ⟨z1, z2, z3⟩ | ⟨z1, z2, z3⟩
    · by_cases e : tO t b = p
      · exact Or.inr (mv_t.mpr ⟨hx, Or.inl ⟨e, dn _ z2, z3⟩⟩)
      · rw [sb_or, decide_eq_false (fun y => e y.symm), Bool.or_false] at z1
        exact Or.inl (h3 b hb hx (Or.inl ⟨z1, dn _ z2, z3⟩))
    · by_cases e : tQ t b = p
      · exact Or.inr (mv_t.mpr ⟨hx, Or.inr ⟨e, dn _ z2, z3⟩⟩)
      · rw [sb_or, decide_eq_false (fun y => e y.symm), Bool.or_false] at z1
        exact Or.inl (h3 b hb hx (Or.inr ⟨z1, dn _ z2, z3⟩))
theorem brk_t {t : TT} {g b x : Nat} : brk t g b x = true ↔ hnow t b < dst x g - slk (tI t b) (tF t b) := by
  unfold brk
  exact decide_eq_true_iff
def tgt (t : TT) (g T p q : Nat) : Nat := if T.testBit q = false ∧ q ≠ p then tP t q else g
theorem mo_mv {t : TT} (wu : WU t) {g T S p : Nat} (h : SI t g T S) (hp : T.testBit p = false) {f : Nat → Nat} (hf : ∀ q, q < tN t → f q = tgt t g T p q) {b : Nat} (hb : b < tK t) : (S.testBit b = false ∧ tX t b = false ∧ hnow t b < strt (sP t f) b) ↔ mvB t g T p b = true := by
  have w := wu.1
  obtain ⟨-, -, l1, l2, l3, -⟩ := w.2.2 b hb
  have hst : strt (sP t f) b = dst (f (tO t b)) (f (tQ t b)) - slk (tI t b) (tF t b) := rfl
  have fO := hf _ l1
  have fQ := hf _ l2
  have calm := wu.2.2 b hb
  have dsym : ∀ x y : Nat, dst x y = dst y x := fun x y => by
    unfold dst
    omega
  rw [mv_t, hst, fO, fQ]
  unfold tgt
  have hcalm : tX t b = false → ¬ hnow t b < dst (tP t (tO t b)) (tP t (tQ t b)) - slk (tI t b) (tF t b) := fun hx z => by
    unfold ovr strt at calm
    rw [hx, decide_eq_true z] at calm
    exact absurd calm (by decide)
  have dgg : ¬ hnow t b < dst g g - slk (tI t b) (tF t b) := by
    have : dst g g = 0 := by
      unfold dst
      omega
    omega
  constructor
  · rintro ⟨z1, z2, z3⟩
    refine ⟨z2, ?_⟩
    by_cases a1 : T.testBit (tO t b) = false ∧ tO t b ≠ p
    · rw [if_pos a1] at z3
      by_cases a2 : T.testBit (tQ t b) = false ∧ tQ t b ≠ p
      · rw [if_pos a2] at z3
        exact absurd z3 (hcalm z2)
      · rw [if_neg a2] at z3
        have bk : brk t g b (tP t (tO t b)) = true := brk_t.mpr z3
        by_cases a3 : tQ t b = p
        · exact Or.inr ⟨a3, a1.1, bk⟩
        · have : T.testBit (tQ t b) = true := by
            cases q : T.testBit (tQ t b)
            · exact absurd ⟨q, a3⟩ a2
            · rfl
          rw [h.2.2 b hb z2 (Or.inr ⟨this, a1.1, bk⟩)] at z1
          exact absurd z1 (by decide)
    · rw [if_neg a1] at z3
      by_cases a2 : T.testBit (tQ t b) = false ∧ tQ t b ≠ p
      · rw [if_pos a2] at z3
        have bk : brk t g b (tP t (tQ t b)) = true := brk_t.mpr (by rw [dsym]; exact z3)
        by_cases a3 : tO t b = p
        · exact Or.inl ⟨a3, a2.1, bk⟩
        · have : T.testBit (tO t b) = true := by
            cases q : T.testBit (tO t b)
            · exact absurd ⟨q, a3⟩ a1
            · rfl
          rw [h.2.2 b hb z2 (Or.inl ⟨this, a2.1, bk⟩)] at z1
          exact absurd z1 (by decide)
      · rw [if_neg a2] at z3
        exact absurd z3 dgg
  · rintro ⟨z2, z3⟩
    rcases z3 with ⟨e1, e2, e3⟩ | ⟨e1, e2, e3⟩
    · refine ⟨?_, z2, ?_⟩
      · cases q : S.testBit b
        · rfl
        · rcases (h.2.1 b hb q).2 with y | y
          · rw [e1, hp] at y
            exact absurd y (by decide)
          · rw [e2] at y
            exact absurd y (by decide)
      · rw [if_neg (fun y => y.2 e1), if_pos ⟨e2, fun y => l3 (e1.trans y.symm)⟩, dsym]
        exact brk_t.mp e3
    · refine ⟨?_, z2, ?_⟩
      · cases q : S.testBit b
        · rfl
        · rcases (h.2.1 b hb q).2 with y | y
          · rw [e2] at y
            exact absurd y (by decide)
          · rw [e1, hp] at y
            exact absurd y (by decide)
      · rw [if_pos ⟨e2, fun y => l3 (y.trans e1.symm)⟩, if_neg (fun y => y.2 e1)]
        exact brk_t.mp e3
theorem cb_mv {t : TT} (w : WT t) {g T S p : Nat} (h : SI t g T S) (hp : T.testBit p = false) : cb10 (S ||| msk (mvB t g T p) (tK t)) = cb10 S + coN t g T p := by
  have hk := w.1.2.1
  rw [coN_mv w]
  have e1 : cb10 (S ||| msk (mvB t g T p) (tK t)) = cnt (fun b => S.testBit b || (msk (mvB t g T p) (tK t)).testBit b) 10 := cnt_congr fun b _ => Nat.testBit_or _ _ _
  have e2 := cnt_or (P := fun b => S.testBit b) (Q := fun b => (msk (mvB t g T p) (tK t)).testBit b) (k := 10) (fun b _ q => by
    rw [msk_bit]
    by_cases hb : b < tK t
    · rw [decide_eq_true hb, Bool.true_and]
      cases z : mvB t g T p b
      · rfl
      · obtain ⟨-, k2⟩ := mv_t.mp z
        have := (h.2.1 b hb q).2
        rcases k2 with ⟨y1, y2, -⟩ | ⟨y1, y2, -⟩
        · rw [y1, hp, y2] at this
          rcases this with this | this <;> exact absurd this (by decide)
        · rw [y1, hp, y2] at this
          rcases this with this | this <;> exact absurd this (by decide)
    · rw [decide_eq_false hb, Bool.false_and])
  rw [e1, ← e2, cnt_msk _ hk]
  rfl
def PL (t : TT) (g : Nat) (m : pw_Mem) (B : Nat) : Prop := RT m 72 t ∧ (∃ f, RT m 73 (sP t f)) ∧ m 71 13 = iI (g : Int) ∧ m 71 12 = iI (B : Int)
def DR (t : TT) (g T S i : Nat) (m : pw_Mem) (B : Nat) (m' : pw_Mem) : Prop :=
  ((∀ c, c ≠ 71 → c ≠ 73 → c ≠ 78 → c ≠ 79 → m' c = m c) ∧ (∀ j, j ≠ 12 → m' 71 j = m 71 j) ∧ (∃ f, RT m' 73 (sP t f)) ∧ ∀ k, k < i → m' 78 k = m 78 k) ∧
  (cb10 S + FF t g T < B → m' 71 12 = iI ((cb10 S + FF t g T : Nat) : Int) ∧ ∀ k, k < tN t → m' 79 k = if k < i then m 78 k else iI (pth t g T (k - i) : Nat)) ∧
  (B ≤ cb10 S + FF t g T → m' 71 12 = iI (B : Int) ∧ ∀ k, m' 79 k = m 79 k)
def cpN (t : TT) (g T S p : Nat) : Nat := cb10 S + (FF t g (T ||| 2 ^ p) + coN t g T p)
def BI (t : TT) (g T S i : Nat) (m : pw_Mem) (B j : Nat) (m3 : pw_Mem) : Prop :=
  (m3 71 12 = iI (B : Int) ∧ (∀ k, m3 79 k = m 79 k) ∧ ∀ p, p < j → T.testBit p = false → B ≤ cpN t g T S p) ∨
  ∃ p0, p0 < j ∧ T.testBit p0 = false ∧ cpN t g T S p0 < B ∧ m3 71 12 = iI (cpN t g T S p0 : Nat) ∧ (∀ k, k < tN t → m3 79 k = if k < i then m 78 k else if k = i then iI (p0 : Int) else iI (pth t g (T ||| 2 ^ p0) (k - (i + 1)) : Nat)) ∧ (∀ p, p < j → T.testBit p = false → cpN t g T S p0 ≤ cpN t g T S p) ∧ ∀ p, p < p0 → T.testBit p = false → cpN t g T S p0 < cpN t g T S p
/-- all orders have been looked at -/
theorem BI_end {t : TT} (w : WT t) {g T S i n : Nat} {m m3 : pw_Mem} {B : Nat} (hr : rem t T = n + 1) (hi : i + (n + 1) = tN t) (h : BI t g T S i m B (tN t) m3) : (cb10 S + FF t g T < B → m3 71 12 = iI ((cb10 S + FF t g T : Nat) : Int) ∧ ∀ k, k < tN t → m3 79 k = if k < i then m 78 k else iI (pth t g T (k - i) : Nat)) ∧ (B ≤ cb10 S + FF t g T → m3 71 12 = iI (B : Int) ∧ ∀ k, m3 79 k = m 79 k) := by
  obtain ⟨p1, a1, a2, a3⟩ := FF_ex w (g := g) (T := T) (by omega)
  have c1 : cpN t g T S p1 = cb10 S + FF t g T := by
    unfold cpN
    rw [← a3]
  rcases h with ⟨h1, h2, h3⟩ | ⟨p0, h0, h1, h2, h3, h4, h5, h6⟩
  · have := h3 p1 a1 a2
    exact ⟨fun z => by omega, fun _ => ⟨h1, h2⟩⟩
  · have e1 := h5 p1 a1 a2
    have e2 := FF_min (g := g) h0 h1
    have e3 : cpN t g T S p0 = cb10 S + FF t g T := by
      have : cpN t g T S p0 = cb10 S + (FF t g (T ||| 2 ^ p0) + coN t g T p0) := rfl
      omega
    have nx : nxN t g T = p0 := nx_at w h0 h1 (by
      have : cpN t g T S p0 = cb10 S + (FF t g (T ||| 2 ^ p0) + coN t g T p0) := rfl
      omega) (fun c hc hT z => by
      have := h6 c hc hT
      have : cpN t g T S c = cb10 S + (FF t g (T ||| 2 ^ c) + coN t g T c) := rfl
      omega)
    refine ⟨fun _ => ⟨by rw [h3, e3], fun k hk => ?_⟩, fun z => by omega⟩
    rw [h4 k hk]
    by_cases k1 : k < i
    · rw [if_pos k1, if_pos k1]
    · rw [if_neg k1, if_neg k1]
      by_cases k2 : k = i
      · have : pth t g T 0 = p0 := nx
        rw [if_pos k2, k2, Nat.sub_self, this]
      · obtain ⟨d, hd⟩ : ∃ d, k = i + 1 + d := ⟨k - (i + 1), by omega⟩
        have : pth t g T (d + 1) = pth t g (T ||| 2 ^ p0) d := by
          unfold pth
          rw [Ts_s, nx]
        rw [if_neg k2, hd, show i + 1 + d - (i + 1) = d by omega, show i + 1 + d - i = d + 1 by omega, this]
theorem r_dfs {t : TT} {g : Nat} (wu : WU t) (hg : g ≤ 30) : ∀ n T S f i m B, rem t T = n → T < 2 ^ tN t → i + n = tN t → n < f → SI t g T S → PL t g m B → B ≤ 1000000000 → ∃ m', fX11_ordersFromR f (iI (i : Int)) (iI (leftN t T : Int)) (iI (S : Int)) m = some m' ∧ DR t g T S i m B m' := by
  have w := wu.1
  have hk := w.1.2.1
  have h7 := w.1.1
  intro n
  induction n with
  | zero =>
    intro T S f i m B hr hT hi hf hS hP hB
    obtain ⟨f', rfl⟩ : ∃ f', f = f' + 1 := ⟨f - 1, by omega⟩
    obtain ⟨P1, P2, P3, P4⟩ := hP
    have hS10 : S < 1024 := Nat.lt_of_lt_of_le hS.1 (Nat.pow_le_pow_right (n := 2) (by omega) hk)
    have rb : ∀ m', fX11_bits (iI (S : Int)) m' = some (iI (cb10 S : Nat)) := fun m' => r_bits (by omega) m'
    have cb : cb10 S ≤ 10 := cnt_le _ _
    have f0 := FF_0 (g := g) hr
    have l0 := left_0.mpr hr
    unfold fX11_ordersFromR
    rw [rb, bd_some, P4]
    by_cases hB1 : cb10 S < B
    · rw [ltT (by omega), eq0T (by omega), bd_some, lt_def]
      refine lpI2 (fun q v63 (m64 : pw_Mem) => v63 = iI (q : Nat) ∧ (∀ k, k < q → m64 79 k = m 78 k) ∧ (∀ c, c ≠ 71 → c ≠ 79 → m64 c = m c) ∧ m64 71 = pw_up m 71 12 (iI (cb10 S : Nat)) 71) (fun r => ∃ m', r = some m' ∧ DR t g T S i m B m') 7 (by omega) ?_ ?_ ⟨rfl, fun k h => absurd h (Nat.not_lt_zero k), fun c h1 _ => up_oc h1, rfl⟩
      · rintro nx q _ m64 hq ⟨rfl, e1, e2, e3⟩ hnx
        have e78 : m64 78 (iI (q : Int)).toNatClampNeg = m 78 q := by rw [clN (by omega), e2 78 (by omega) (by omega)]
        rw [n7, leF (by omega), gdN (by omega), gdN (by omega), e78, lt_def, lt_def, inc1, clN (by omega)]
        refine hnx _ _ ⟨rfl, fun k h => ?_, fun c h1 h2 => by rw [up_oc h2, e2 c h1 h2], by rw [up_oc (by omega)]; exact e3⟩
        by_cases e : k = q
        · rw [e, up_eq]
        · rw [up_ne e]
          exact e1 k (by omega)
      · rintro nx _ m64 ⟨rfl, e1, e2, e3⟩
        rw [n7, leT (by omega)]
        refine ⟨m64, rfl, ⟨fun c h1 _ _ h4 => e2 c h1 h4, fun j hj => by rw [e3, up_ne hj], ?_, fun k _ => by rw [e2 78 (by omega) (by omega)]⟩, fun _ => ⟨by rw [e3, up_eq, f0]; rfl, fun k hk' => by rw [if_pos (by omega)]; exact e1 k (by omega)⟩, fun z => by omega⟩
        obtain ⟨ff, hff⟩ := P2
        exact ⟨ff, RT_frame hff (e2 73 (by omega) (by omega))⟩
    · rw [ltF (by omega)]
      exact ⟨m, rfl, ⟨fun _ _ _ _ _ => rfl, fun _ _ => rfl, P2, fun _ _ => rfl⟩, fun z => by omega, fun _ => ⟨P4, fun _ => rfl⟩⟩
  | succ n ih =>
    intro T S f i m B hr hT hi hf hS hP hB
    obtain ⟨f', rfl⟩ : ∃ f', f = f' + 1 := ⟨f - 1, by omega⟩
    obtain ⟨P1, P2, P3, P4⟩ := hP
    have hS10 : S < 1024 := Nat.lt_of_lt_of_le hS.1 (Nat.pow_le_pow_right (n := 2) (by omega) hk)
    have rb : ∀ m', fX11_bits (iI (S : Int)) m' = some (iI (cb10 S : Nat)) := fun m' => r_bits (by omega) m'
    have cb : cb10 S ≤ 10 := cnt_le _ _
    have ll := left_lt w T
    have lne : leftN t T ≠ 0 := fun z => by
      have := left_0.mp z
      omega
    unfold fX11_ordersFromR
    rw [rb, bd_some, P4]
    by_cases hB1 : cb10 S < B
    · rw [ltT (by omega), eq0F (by omega)]
      refine lpI2 (fun j v2 (m3 : pw_Mem) => v2 = iI (j : Nat) ∧ ((∀ c, c ≠ 71 → c ≠ 73 → c ≠ 78 → c ≠ 79 → m3 c = m c) ∧ (∀ j, j ≠ 12 → m3 71 j = m 71 j) ∧ (∃ f, RT m3 73 (sP t f)) ∧ ∀ k, k < i → m3 78 k = m 78 k) ∧ BI t g T S i m B j m3) (fun r => ∃ m', r = some m' ∧ DR t g T S i m B m') (tN t) (by omega) ?_ ?_ ⟨rfl, ⟨fun _ _ _ _ _ => rfl, fun _ _ => rfl, P2, fun _ _ => rfl⟩, Or.inl ⟨P4, fun _ => rfl, fun p hp => absurd hp (Nat.not_lt_zero p)⟩⟩
      · rintro nx j _ m3 hj ⟨rfl, ⟨F1, F2, F3, F4⟩, hBI⟩ hnx
        have g72 : RT m3 72 t := RT_frame P1 (F1 72 (by omega) (by omega) (by omega) (by omega))
        have eN : m3 72 (0 : Int32).toNatClampNeg = iI (tN t : Nat) := g72.1.1
        rw [gd_true (by decide), eN, leF (by omega), r_has _ _ _ (by omega) (by omega), bd_some, left_bit, decide_eq_true hj, Bool.true_and, jn_def]
        cases hTj : T.testBit j
        · rw [if_pos (by rfl), gdN (by omega), lt_def]
          -- j goes next
          obtain ⟨m11, hm11⟩ : ∃ m11, m11 = pw_up m3 78 (iI (i : Int)).toNatClampNeg (iI (j : Int)) := ⟨_, rfl⟩
          rw [← hm11]
          rw [clN (by omega)] at hm11
          have f11 : ∀ c, c ≠ 78 → m11 c = m3 c := fun c hc => by rw [hm11, up_oc hc]
          obtain ⟨ff, hff⟩ := F3
          refine lpI2 (fun q v12 (m13 : pw_Mem) => v12 = iI (q : Nat) ∧ (∃ f, RT m13 73 (sP t f) ∧ ∀ q', q' < q → f q' = tgt t g T j q') ∧ ∀ c, c ≠ 73 → m13 c = m11 c) (fun r => ∃ m', r = some m' ∧ DR t g T S i m B m') (tN t) (by omega) ?_ ?_ ⟨rfl, ⟨ff, RT_frame hff (f11 73 (by omega)), fun q' h => absurd h (Nat.not_lt_zero q')⟩, fun _ _ => rfl⟩
          · rintro nx2 q _ m13 hq ⟨rfl, ⟨f2, g13, hf2⟩, f13⟩ hnx2
            have g72' : RT m13 72 t := RT_frame g72 (by rw [f13 72 (by omega), f11 72 (by omega)])
            have eN' : m13 72 (0 : Int32).toNatClampNeg = iI (tN t : Nat) := g72'.1.1
            obtain ⟨s1, s2, s3, s4⟩ := r_pl g72' w hq
            have eg : m13 71 13 = iI (g : Int) := by
              rw [f13 71 (by omega), f11 71 (by omega), F2 13 (by omega)]
              exact P3
            have fin : ∀ v : Nat, v = tgt t g T j q → ∃ m', nx2 (iI ((q + 1 : Nat) : Int)) (pw_up m13 73 (iI ((4 + q : Nat) : Int)).toNatClampNeg (iI (v : Int))) = some m' ∧ DR t g T S i m B m' := fun v hv => by
              have r1 := RT_place (v := v) g13 (p := q) hq h7
              rw [clN (by omega)]
              refine hnx2 _ _ ⟨rfl, ⟨up1 f2 q v, r1, fun q' h => ?_⟩, fun c hc => by rw [up_oc hc, f13 c hc]⟩
              by_cases e : q' = q
              · rw [e, up1_eq]
                exact hv
              · rw [up1_ne e]
                exact hf2 q' (by omega)
            rw [gd_true (by decide), eN', leF (by omega), r_has _ _ _ (by omega) (by omega), bd_some, left_bit, decide_eq_true hq, Bool.true_and, jn_def, jn_def, s1, gdN (by omega), eg, s2]
            simp only [lt_def, inc1]
            cases hTq : T.testBit q
            · rw [if_pos (by rfl)]
              by_cases e : q = j
              · rw [eqT (by omega), gdN (by omega)]
                exact fin g (by unfold tgt; rw [if_neg (fun z => z.2 e)])
              · rw [eqF (by omega), gdN (by omega)]
                exact fin (tP t q) (by unfold tgt; rw [if_pos ⟨hTq, e⟩])
            · rw [if_neg (by decide), gdN (by omega)]
              exact fin g (by unfold tgt; rw [if_neg (fun z => by rw [hTq] at z; exact absurd z.1 (by decide))])
          · rintro nx2 _ m13 ⟨rfl, ⟨f2, g13, hf2⟩, f13⟩
            have g72' : RT m13 72 t := RT_frame g72 (by rw [f13 72 (by omega), f11 72 (by omega)])
            have eN' : m13 72 (0 : Int32).toNatClampNeg = iI (tN t : Nat) := g72'.1.1
            have eK' : m13 72 (1 : Int32).toNatClampNeg = iI (tK t : Nat) := g72'.1.2.1
            have wf : WT (sP t f2) := WT_P w (fun q hq => by
              rw [hf2 q hq]
              unfold tgt
              split
              · exact (w.2.1 q hq).1
              · exact hg)
            rw [gd_true (by decide), eN', leT (by omega)]
            refine lpI2 (fun b v16 v17 => v16 = iI (msk (mvB t g T j) b : Nat) ∧ v17 = iI (b : Nat)) (fun r => ∃ m', r = some m' ∧ DR t g T S i m B m') (tK t) (by omega) ?_ ?_ ⟨rfl, rfl⟩
            · rintro nx3 b _ _ hb ⟨rfl, rfl⟩ hnx3
              have mo := mo_mv wu hS hTj hf2 hb
              have no : mvB t g T j b = false → ∃ m', nx3 (iI ((msk (mvB t g T j) b : Nat) : Int) ||| 0) (iI ((b + 1 : Nat) : Int)) = some m' ∧ DR t g T S i m B m' := fun z => by
                rw [mskF z (by omega)]
                exact hnx3 _ _ ⟨rfl, rfl⟩
              have sb := strt_le wf (b := b) hb
              have hh := hnow_le w hb
              rw [gd_true (by decide), eK', leF (by omega), r_has _ _ _ (by omega) (by omega), bd_some, jn_def, jn_def]
              have nf : ¬ (S.testBit b = false ∧ tX t b = false ∧ hnow t b < strt (sP t f2) b) → mvB t g T j b = false := fun z => by
                cases q : mvB t g T j b
                · rfl
                · exact absurd (mo.mpr q) z
              cases hs : S.testBit b
              · rw [itF, r_isWhole g72' w hb, bd_some]
                cases hx : tX t b
                · rw [if_pos (by rfl), r_stretch g13 wf (b := b) hb, bd_some, r_holdsNow g72' w hb, bd_some]
                  by_cases z : strt (sP t f2) b ≤ hnow t b
                  · rw [leT (by omega)]
                    simp only [lt_def, inc1]
                    exact no (nf (by omega))
                  · rw [leF (by omega)]
                    simp only [lt_def, inc1]
                    rw [mskT (mo.mp ⟨hs, hx, by omega⟩) (by omega)]
                    exact hnx3 _ _ ⟨rfl, rfl⟩
                · rw [if_neg (by decide)]
                  simp only [lt_def, inc1]
                  exact no (nf (fun z => by rw [hx] at z; exact absurd z.2.1 (by decide)))
              · rw [itT]
                simp only [lt_def, inc1]
                exact no (nf (fun z => by rw [hs] at z; exact absurd z.1 (by decide)))
            · rintro nx3 _ _ ⟨rfl, rfl⟩
              have mb := msk_lt' (mvB t g T j) hk
              have p2 : (2 : Nat) ^ j < 2 ^ 7 := Nat.pow_lt_pow_right (by omega) (by omega)
              have sh : (1 : Int32) <<< (iI (j : Int) &&& 31) = iI ((2 ^ j : Nat) : Int) := iI_shl (by omega)
              have an : iI (leftN t T : Nat) &&& (iI ((2 ^ j : Nat) : Int) ^^^ (-1 : Int32)) = iI ((andn (leftN t T) (2 ^ j) : Nat) : Int) := iI_andn (by omega) (by omega)
              have rs := rem_s hj hTj
              have m7178 : ∀ c, c ≠ 73 → c ≠ 78 → m13 c = m3 c := fun c h1 h2 => by rw [f13 c h1, f11 c h2]
              have e71 : m13 71 = m3 71 := m7178 71 (by omega) (by omega)
              have e79 : m13 79 = m3 79 := m7178 79 (by omega) (by omega)
              have e78i : m13 78 i = iI (j : Int) := by rw [f13 78 (by omega), hm11, up_eq]
              have e78k : ∀ k, k < i → m13 78 k = m 78 k := fun k hk' => by
                rw [f13 78 (by omega), hm11, up_ne (by omega)]
                exact F4 k hk'
              have hcv := cb_mv w hS hTj
              have hcp : cb10 (S ||| msk (mvB t g T j) (tK t)) + FF t g (T ||| 2 ^ j) = cpN t g T S j := by
                unfold cpN
                omega
              -- the best so far
              have hB3 : ∃ B3, B3 ≤ B ∧ m3 71 12 = iI (B3 : Int) ∧ ((B3 = B ∧ (∀ k, m3 79 k = m 79 k) ∧ ∀ p, p < j → T.testBit p = false → B ≤ cpN t g T S p) ∨ ∃ p0, p0 < j ∧ T.testBit p0 = false ∧ cpN t g T S p0 < B ∧ B3 = cpN t g T S p0 ∧ (∀ k, k < tN t → m3 79 k = if k < i then m 78 k else if k = i then iI (p0 : Int) else iI (pth t g (T ||| 2 ^ p0) (k - (i + 1)) : Nat)) ∧ (∀ p, p < j → T.testBit p = false → cpN t g T S p0 ≤ cpN t g T S p) ∧ ∀ p, p < p0 → T.testBit p = false → cpN t g T S p0 < cpN t g T S p) := by
                rcases hBI with ⟨y1, y2, y3⟩ | ⟨p0, y0, y1, y2, y3, y4, y5, y6⟩
                · exact ⟨B, Nat.le_refl _, y1, Or.inl ⟨rfl, y2, y3⟩⟩
                · exact ⟨cpN t g T S p0, by omega, y3, Or.inr ⟨p0, y0, y1, y2, rfl, y4, y5, y6⟩⟩
              obtain ⟨B3, b1, b2, b3⟩ := hB3
              obtain ⟨m20, q20, ⟨d1, d2, d3, d4⟩, d5, d6⟩ := ih (T ||| 2 ^ j) (S ||| msk (mvB t g T j) (tK t)) f' (i + 1) m13 B3 (by omega) (orp hT hj h7).1 (by omega) (by omega) (SI_s w hS hTj) ⟨g72', ⟨f2, g13⟩, by rw [e71, F2 13 (by omega)]; exact P3, by rw [e71]; exact b2⟩ (by omega)
              rw [hcp] at d5 d6
              rw [gd_true (by decide), eK', leT (by omega), sh, an, left_s, iI_or (by omega) (by omega), inc1, q20, bd_some]
              simp only [lt_def, inc1]
              refine hnx _ _ ⟨rfl, ⟨fun c h1 h2 h3 h4 => by rw [d1 c h1 h2 h3 h4, m7178 c h2 h3, F1 c h1 h2 h3 h4], fun j' h => by rw [d2 j' h, e71, F2 j' h], d3, fun k hk' => by rw [d4 k (by omega)]; exact e78k k hk'⟩, ?_⟩
              have all : ∀ X : Nat, (∀ p, p < j → T.testBit p = false → X ≤ cpN t g T S p) → X ≤ cpN t g T S j → ∀ p, p < j + 1 → T.testBit p = false → X ≤ cpN t g T S p := fun X h1 h2 p hp hz => by
                by_cases e : p = j
                · rw [e]
                  exact h2
                · exact h1 p (by omega) hz
              by_cases k : cpN t g T S j < B3
              · obtain ⟨u1, u2⟩ := d5 k
                refine Or.inr ⟨j, by omega, hTj, by omega, u1, fun k' hk' => ?_, ?_, ?_⟩
                · rw [u2 k' hk']
                  by_cases z1 : k' < i
                  · rw [if_pos (by omega), if_pos z1]
                    exact e78k k' z1
                  · rw [if_neg z1]
                    by_cases z2 : k' = i
                    · rw [if_pos (by omega), if_pos z2, z2]
                      exact e78i
                    · rw [if_neg (by omega), if_neg z2]
                · refine all _ (fun p hp hz => ?_) (Nat.le_refl _)
                  rcases b3 with ⟨y1, y2, y3⟩ | ⟨p0, y0, y1, y2, y3, y4, y5, y6⟩
                  · have := y3 p hp hz
                    omega
                  · have := y5 p hp hz
                    omega
                · intro p hp hz
                  rcases b3 with ⟨y1, y2, y3⟩ | ⟨p0, y0, y1, y2, y3, y4, y5, y6⟩
                  · have := y3 p hp hz
                    omega
                  · have := y5 p hp hz
                    omega
              · obtain ⟨u1, u2⟩ := d6 (by omega)
                rcases b3 with ⟨y1, y2, y3⟩ | ⟨p0, y0, y1, y2, y3, y4, y5, y6⟩
                · exact Or.inl ⟨by rw [u1, y1], fun k' => by rw [u2 k', e79]; exact y2 k', all _ y3 (by omega)⟩
                · exact Or.inr ⟨p0, by omega, y1, y2, by rw [u1, y3], fun k' hk' => by rw [u2 k', e79]; exact y4 k' hk', all _ y5 (by omega), y6⟩
        · rw [if_neg (by decide)]
          simp only [lt_def, inc1]
          have all : ∀ X : Nat, (∀ p, p < j → T.testBit p = false → X ≤ cpN t g T S p) → ∀ p, p < j + 1 → T.testBit p = false → X ≤ cpN t g T S p := fun X h1 p hp hz => by
            by_cases e : p = j
            · rw [e, hTj] at hz
              exact absurd hz (by decide)
            · exact h1 p (by omega) hz
          refine hnx _ _ ⟨rfl, ⟨F1, F2, F3, F4⟩, ?_⟩
          rcases hBI with ⟨y1, y2, y3⟩ | ⟨p0, y0, y1, y2, y3, y4, y5, y6⟩
          · exact Or.inl ⟨y1, y2, all _ y3⟩
          · exact Or.inr ⟨p0, by omega, y1, y2, y3, y4, all _ y5, y6⟩
      · rintro nx _ m3 ⟨rfl, ⟨F1, F2, F3, F4⟩, hBI⟩
        have g72 : RT m3 72 t := RT_frame P1 (F1 72 (by omega) (by omega) (by omega) (by omega))
        have eN : m3 72 (0 : Int32).toNatClampNeg = iI (tN t : Nat) := g72.1.1
        rw [gd_true (by decide), eN, leT (by omega)]
        exact ⟨m3, rfl, ⟨F1, F2, F3, F4⟩, BI_end w hr hi hBI⟩
    · rw [ltF (by omega)]
      exact ⟨m, rfl, ⟨fun _ _ _ _ _ => rfl, fun _ _ => rfl, P2, fun _ _ => rfl⟩, fun z => by omega, fun _ => ⟨P4, fun _ => rfl⟩⟩
theorem op_order {m : pw_Mem} (hs : Sim m) (a : Int32) : OpWW (fX10_order a) (fX11_order a) m := by
  have hs0 := hs
  obtain ⟨s, hC, hM, w⟩ := hs
  obtain ⟨z, rfl, h1, h2⟩ := rg a
  have w1 := w.1.1
  have hk := w1.1.2.1
  have h7 := w1.1.1
  have A2 : 0 < 2 ^ tN s.1 := Nat.pow_pos (by omega)
  have A1 : 2 ^ tN s.1 ≤ 128 := Nat.pow_le_pow_right (n := 2) (by omega) h7
  have lt1 : ∀ (τ : Type) (x y : τ), (if iI z < (-1 : Int32) then x else y) = if z < -1 then x else y := fun τ x y => by
    rw [em1, if_lt h1 h2 (by omega) (by omega)]
  have eq1 : ∀ (τ : Type) (x y : τ), (if iI z = (-1 : Int32) then x else y) = if z = -1 then x else y := fun τ x y => by
    rw [em1, if_eq h1 h2 (by omega) (by omega)]
  have le0 : ∀ (τ : Type) (x y : τ), (if 0 ≤ iI z then x else y) = if 0 ≤ z then x else y := fun τ x y => by
    have : (0 : Int32) = iI 0 := rfl
    rw [this, if_le (by omega) (by omega) h1 h2]
  by_cases c : -1 ≤ z ∧ z < tN s.1
  · obtain ⟨g, hgg⟩ : ∃ g, g = meetN s.1 30 := ⟨_, rfl⟩
    have hg : g ≤ 30 := by
      rw [hgg]
      exact meetN_le _ _
    obtain ⟨R, hR⟩ : ∃ R : Nat, ∀ _ : Unit, (if 0 ≤ z then pth s.1 g 0 z.toNat else FF s.1 g 0) = R := ⟨_, fun _ => rfl⟩
    refine op_calc hC hM w (r := iI (R : Int)) ?_ ?_
    · obtain ⟨m1, q1, e1, e2, f1⟩ := c_weigh hC.1 w1
      rw [← hgg] at e1 e2
      have h1' : CT m1 1 s.1 := CT_frame hC.1 (fun c _ _ => f1 c (by omega))
      refine ⟨m1, ?_, fun c hc => f1 c (by omega)⟩
      unfold fX10_order
      rw [lt1, if_neg (by omega), hC.1.1.1, ltT (by omega), q1, bd_some, le0]
      have hRR := hR ()
      by_cases hz : 0 ≤ z
      · obtain ⟨k, rfl⟩ := Int.eq_ofNat_of_zero_le hz
        rw [if_pos hz, Int.toNat_natCast] at hRR
        rw [if_pos hz, c_inOrder h1' w1 e1 e2 (by omega), bd_some, hRR]
      · rw [if_neg hz] at hRR
        have e46 : m1 46 (0 : Int32).toNatClampNeg = iI (FF s.1 g 0 : Nat) := e2 0 A2
        rw [if_neg hz]
        unfold fX4_fewestSnapped
        rw [gd_true (by decide), e46, bd_some, hRR]
    · intro m1 hM1
      have cp := r_meet hM1.1 w1
      rw [← hgg] at cp
      have body : ∃ m2 : pw_Mem, (bd (fX11_christmasPlace m1) fun y1 => lt (pw_up m1 71 13 y1) fun m2 => bd (fX11_copies 72 73 m2) fun m3 => lt (pw_up m3 71 12 (1000000000 : Int32)) fun m4 => gd (ix (0 : Int32) 78) (bd (fX11_ordersFrom (0 : Int32) (((1 : Int32) <<< ((m4 72 ((0 : Int32)).toNatClampNeg) &&& 31)) - (1 : Int32)) (0 : Int32) m4) fun m5 => if 0 ≤ iI z then gd (ix (iI z) 7) (some (m5 79 (iI z).toNatClampNeg, m5)) else some (m5 71 12, m5))) = some (iI (R : Int), m2) ∧ m2 71 5 = m1 71 5 ∧ ∀ c, (c < 71 ∨ c = 72 ∨ c = 74 ∨ 80 ≤ c) → m2 c = m1 c := by
        rw [cp, bd_some, lt_def]
        have hM2 : MS (pw_up m1 71 13 (iI (g : Int))) s := MS_f hM1 (up_ne (by omega)) (fun c hc => up_oc (by omega))
        obtain ⟨m3, q3, g3, f3⟩ := r_work hM2 w
        rw [q3, bd_some, lt_def]
        obtain ⟨m4, hm4⟩ : ∃ m4, m4 = pw_up m3 71 12 (1000000000 : Int32) := ⟨_, rfl⟩
        rw [← hm4]
        have f4 : ∀ c, c ≠ 71 → c ≠ 73 → m4 c = m1 c := fun c h1 h2 => by rw [hm4, up_oc h1, f3 c h2, up_oc h1]
        have g72 : RT m4 72 s.1 := RT_frame hM1.1 (f4 72 (by omega) (by omega))
        have eN : m4 72 (0 : Int32).toNatClampNeg = iI (tN s.1 : Nat) := g72.1.1
        have sh : (1 : Int32) <<< (iI (tN s.1 : Int) &&& 31) = iI ((2 ^ tN s.1 : Nat) : Int) := iI_shl (by omega)
        have l0 : leftN s.1 0 = 2 ^ tN s.1 - 1 := by
          apply Nat.eq_of_testBit_eq
          intro i
          rw [left_bit, Nat.testBit_two_pow_sub_one, Nat.zero_testBit]
          simp
        have es : iI ((2 ^ tN s.1 : Nat) : Int) - 1 = iI (leftN s.1 0 : Nat) := by
          have : iI ((2 ^ tN s.1 : Nat) : Int) - 1 = iI (((2 ^ tN s.1 : Nat) : Int) - 1) := iI_sub _ 1
          rw [this, l0]
          exact congrArg iI (by omega)
        have r0 := (Ts_in w1 (g := g) 0 (by omega)).2
        have r0' : rem s.1 0 + 0 = tN s.1 := r0
        obtain ⟨m5, q5, ⟨d1, d2, d3, d4⟩, d5, -⟩ := r_dfs w.1 hg (tN s.1) 0 0 9 0 m4 1000000000 (by omega) A2 (by omega) (by omega) (SI_0 s.1 g) ⟨g72, ⟨tP s.1, RT_frame g3 (by rw [hm4, up_oc (by omega)])⟩, by rw [hm4, up_ne (by omega), f3 71 (by omega), up_eq], by rw [hm4, up_eq]; rfl⟩ (Nat.le_refl _)
        have q5' : fX11_ordersFrom 0 (iI (leftN s.1 0 : Int)) 0 m4 = some m5 := q5
        have fb := FF_b w1 g 0
        have c0 : cb10 0 = 0 := cnt_z fun b _ => Nat.zero_testBit b
        obtain ⟨d6, d7⟩ := d5 (by omega)
        rw [gd_true (by decide), eN, sh, es, q5', bd_some, le0]
        have fr : m5 71 5 = m1 71 5 ∧ ∀ c, (c < 71 ∨ c = 72 ∨ c = 74 ∨ 80 ≤ c) → m5 c = m1 c := by
          refine ⟨?_, fun c hc => by rw [d1 c (by omega) (by omega) (by omega) (by omega), f4 c (by omega) (by omega)]⟩
          rw [d2 5 (by omega), hm4, up_ne (by omega), f3 71 (by omega), up_ne (by omega)]
        have hRR := hR ()
        by_cases hz : 0 ≤ z
        · obtain ⟨k, rfl⟩ := Int.eq_ofNat_of_zero_le hz
          have e79 : m5 79 (iI (k : Int)).toNatClampNeg = iI (pth s.1 g 0 k : Nat) := by
            rw [clN (by omega), d7 k (by omega), if_neg (Nat.not_lt_zero k), Nat.sub_zero]
          rw [if_pos hz, Int.toNat_natCast] at hRR
          rw [if_pos hz, gdN (by omega), e79, hRR]
          exact ⟨m5, rfl, fr⟩
        · rw [if_neg hz] at hRR
          rw [c0, Nat.zero_add, hRR] at d6
          rw [if_neg hz, d6]
          exact ⟨m5, rfl, fr⟩
      unfold fX11_order
      rw [jn_def, eq1]
      by_cases hz : z = -1
      · rw [if_pos hz]
        exact body
      · rw [if_neg hz, r_isPerson hM1.1 w1 h1 h2, bd_some, ite_dec, if_pos (by omega)]
        exact body
  · refine op_same hs0 (r := -1) ?_ ?_
    · unfold fX10_order
      rw [lt1]
      by_cases k : z < -1
      · rw [if_pos k]
      · rw [if_neg k, hC.1.1.1, ltF (by omega)]
    · unfold fX11_order
      rw [jn_def, eq1, if_neg (by omega), r_isPerson hM.1 w1 h1 h2, bd_some, ite_dec, if_neg (by omega)]
