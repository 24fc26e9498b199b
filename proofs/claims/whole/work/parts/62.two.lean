/-! CALLS: two -/
set_option maxRecDepth 100000
def canA (t : TT) (p q : Nat) : Bool := if tP t p < tP t q then decide (1 ≤ tP t p) else decide (tP t p ≤ 29)
def stA (t : TT) (p q c : Nat) : Nat := if canA t p q = true then c else 0
def rnd (t : TT) (k a b : Nat) : Bool := decide ((tO t k = a ∧ tQ t k = b) ∨ (tO t k = b ∧ tQ t k = a))
def pbV (t : TT) (a b D k : Nat) : Nat := if tX t k = true then 0 else if rnd t k a b = true then pvl (tI t k) (tF t k) D else 0
def hvD (t : TT) (a b x y : Nat) : Nat := dst (tP t a) (tP t b) + stA t a b x + stA t b a y
def hvS (t : TT) (a b x y : Nat) : Nat := sumN (pbV t a b (hvD t a b x y)) (tK t)
def hv (t : TT) (a b x y : Nat) : Int := 3 * (stA t a b x : Int) - (hvS t a b x y : Nat)
theorem stA_le (t : TT) (p q : Nat) {c : Nat} (hc : c ≤ 1) : stA t p q c ≤ 1 := by
  unfold stA
  split <;> omega
theorem pbV_le (t : TT) (a b : Nat) {D k : Nat} (hD : D ≤ 100) : pbV t a b D k ≤ 400 := by
  have := pvl_le (k := tI t k) (f := tF t k) hD
  unfold pbV
  split
  · omega
  · split <;> omega
theorem pbS_le {t : TT} (w : WT t) (a b : Nat) {D i : Nat} (hD : D ≤ 100) (hi : i ≤ tK t) : sumN (pbV t a b D) i ≤ 4000 := by
  have h1 := sumN_le (f := pbV t a b D) (c := 400) (k := i) (fun k _ => pbV_le t a b hD)
  have h2 := w.1.2.1
  omega
theorem hvD_le {t : TT} (w : WT t) {a b x y : Nat} (ha : a < tN t) (hb : b < tN t) (hx : x ≤ 1) (hy : y ≤ 1) : hvD t a b x y ≤ 32 := by
  have := dst_le (w.2.1 a ha).1 (w.2.1 b hb).1
  have := stA_le t a b hx
  have := stA_le t b a hy
  unfold hvD
  omega
theorem hv_b {t : TT} (w : WT t) {a b x y : Nat} (ha : a < tN t) (hb : b < tN t) (hx : x ≤ 1) (hy : y ≤ 1) : -10000 ≤ hv t a b x y ∧ hv t a b x y ≤ 10000 := by
  have h1 := hvD_le w ha hb hx hy
  have h2 := pbS_le w a b (D := hvD t a b x y) (by omega) (Nat.le_refl (tK t))
  have h3 := stA_le t a b hx
  unfold hv hvS
  omega
theorem c_steps {m : pw_Mem} {t : TT} (h : CT m 1 t) (w : WT t) {p q c : Nat} (hp : p < tN t) (hq : q < tN t) : fX2_stepsAway (iI (p : Int)) (iI (q : Int)) (iI (c : Int)) m = some (iI (stA t p q c : Nat)) := by
  have h7 := w.1.1
  have e1 : m (1 + 1) (iI (p : Int)).toNatClampNeg = iI (tP t p : Nat) := by
    rw [clN (by omega)]
    exact (h.2.1 p hp).1
  have e2 : m (1 + 1) (iI (q : Int)).toNatClampNeg = iI (tP t q : Nat) := by
    rw [clN (by omega)]
    exact (h.2.1 q hq).1
  have p30 := (w.2.1 p hp).1
  have q30 := (w.2.1 q hq).1
  have up : ∀ z : Int, -100 ≤ z → z ≤ 100 → fX10_isUpTo (iI z) 30 m = some (decide (0 ≤ z ∧ z ≤ 30)) := fun z h1 h2 => by
    rw [show (30 : Int32) = iI 30 from rfl]
    exact c_isUpTo m (by omega) (by omega) (by omega) (by omega)
  unfold fX2_stepsAway stA canA
  rw [gdN (by omega), gdN (by omega), jn_def, e1, e2]
  by_cases k : tP t p < tP t q
  · have es : iI (tP t p : Int) - 1 = iI ((tP t p : Int) - 1) := iI_sub _ 1
    rw [leF (by omega), gdN (by omega), es]
    dsimp only
    rw [up _ (by omega) (by omega), bd_some, ite_dec, if_pos k, ite_dec]
    by_cases k2 : 1 ≤ tP t p
    · rw [if_pos (by omega), if_pos k2]
    · rw [if_neg (by omega), if_neg k2]
      rfl
  · have es : iI (tP t p : Int) + 1 = iI ((tP t p : Int) + 1) := iI_add _ 1
    rw [leT (by omega), gdN (by omega), es]
    dsimp only
    rw [up _ (by omega) (by omega), bd_some, ite_dec, if_neg k, ite_dec]
    by_cases k2 : tP t p ≤ 29
    · rw [if_pos (by omega), if_pos k2]
    · rw [if_neg (by omega), if_neg k2]
      rfl
theorem c_round {m : pw_Mem} {t : TT} (h : CT m 1 t) (w : WT t) {k a b : Nat} (hk : k < tK t) (ha : a < tN t) (hb : b < tN t) : fX7_isRound 1 (iI (k : Int)) (iI (a : Int)) (iI (b : Int)) m = some (rnd t k a b) := by
  have h7 := w.1.1
  obtain ⟨⟨eO, eQ, -, -⟩, k1, k2, k3, -, -⟩ := c_pq h w hk
  unfold fX7_isRound rnd
  rw [gdN (by omega), jn_def, eO, eQ, gdN (by omega), gdN (by omega), gdN (by omega)]
  by_cases q1 : tO t k = a
  · rw [eqT (by omega)]
    by_cases q2 : tQ t k = b
    · rw [eqT (by omega), decide_eq_true (Or.inl ⟨q1, q2⟩)]
    · rw [eqF (by omega)]
      by_cases q3 : tO t k = b
      · rw [eqT (by omega)]
        by_cases q4 : tQ t k = a
        · rw [eqT (by omega), decide_eq_true (Or.inr ⟨q3, q4⟩)]
        · rw [eqF (by omega), decide_eq_false (by omega)]
      · rw [eqF (by omega), decide_eq_false (by omega)]
  · rw [eqF (by omega)]
    by_cases q3 : tO t k = b
    · rw [eqT (by omega)]
      by_cases q4 : tQ t k = a
      · rw [eqT (by omega), decide_eq_true (Or.inr ⟨q3, q4⟩)]
      · rw [eqF (by omega), decide_eq_false (by omega)]
    · rw [eqF (by omega), decide_eq_false (by omega)]
theorem c_pulB {m : pw_Mem} {t : TT} (h : CT m 1 t) (w : WT t) {a b D : Nat} (ha : a < tN t) (hb : b < tN t) (hD : D ≤ 100) : fX2_pullOfBoth (iI (a : Int)) (iI (b : Int)) (iI (D : Int)) m = some (iI (sumN (pbV t a b D) (tK t) : Nat)) := by
  have hk := w.1.2.1
  unfold fX2_pullOfBoth
  refine lpI2 (fun i v1 v2 => v1 = iI (sumN (pbV t a b D) i : Nat) ∧ v2 = iI (i : Nat)) (fun r => r = some (iI (sumN (pbV t a b D) (tK t) : Nat))) (tK t) (by omega) ?_ ?_ ⟨rfl, rfl⟩
  · rintro nx i _ _ hi ⟨rfl, rfl⟩ hnx
    have e : sumN (pbV t a b D) (i + 1) = sumN (pbV t a b D) i + pbV t a b D i := rfl
    have no : pbV t a b D i = 0 → nx (iI (sumN (pbV t a b D) i : Nat)) (iI ((i + 1 : Nat) : Int)) = some (iI (sumN (pbV t a b D) (tK t) : Nat)) := fun hz => hnx _ _ ⟨by rw [e, hz, Nat.add_zero], rfl⟩
    obtain ⟨k7, f9, -⟩ := w.2.2 i hi
    have e4 : m (1 + 4) (iI (i : Int)).toNatClampNeg = iI (tI t i : Nat) := by
      rw [clN (by omega)]
      exact (h.2.2 i hi).1
    have e5 : m (1 + 5) (iI (i : Int)).toNatClampNeg = iI (tF t i : Nat) := by
      rw [clN (by omega)]
      exact (h.2.2 i hi).2.1
    rw [h.1.2.1, leF (by omega), c_isSnapped h w hi, bd_some, jn_def]
    cases hx : tX t i
    · rw [itF, c_round h w hi ha hb, bd_some]
      cases hr : rnd t i a b
      · rw [itF]
        simp only [lt_def, inc1]
        exact no (by unfold pbV; rw [hx, hr, itF, itF])
      · have ep : fX3_pull (iI (tI t i : Nat)) (iI (tF t i : Nat)) (iI (D : Int)) m = some (iI (pvl (tI t i) (tF t i) D : Nat)) := c_kpull _ _ _ m k7 f9 (by omega)
        rw [itT, gdN (by omega), gdN (by omega), e4, e5, ep, bd_some, iN_add]
        simp only [lt_def, inc1]
        exact hnx _ _ ⟨by rw [e]; unfold pbV; rw [hx, hr, itF, itT], rfl⟩
    · rw [itT]
      simp only [lt_def, inc1]
      exact no (by unfold pbV; rw [hx, itT])
  · rintro nx _ _ ⟨rfl, rfl⟩
    rw [h.1.2.1, leT (by omega)]
theorem c_hv {m : pw_Mem} {t : TT} (h : CT m 1 t) (w : WT t) {a b x y : Nat} (ha : a < tN t) (hb : b < tN t) (hx : x ≤ 1) (hy : y ≤ 1) : fX2_has (iI (a : Int)) (iI (b : Int)) (iI (x : Int)) (iI (y : Int)) m = some (iI (hv t a b x y)) := by
  have hD := hvD_le w ha hb hx hy
  have e3 : (3 : Int32) * iI (stA t a b x : Int) = iI (3 * (stA t a b x : Int)) := iI_mul 3 _
  unfold fX2_has
  rw [c_steps h w ha hb, bd_some, c_apart h w ha hb, bd_some, c_steps h w hb ha, bd_some, iN_add, iN_add]
  have cp : fX2_pullOfBoth (iI (a : Int)) (iI (b : Int)) (iI ((dst (tP t a) (tP t b) + stA t a b x + stA t b a y : Nat) : Int)) m = some (iI (hvS t a b x y : Nat)) := c_pulB h w ha hb (D := hvD t a b x y) (by omega)
  rw [cp, bd_some, e3, iI_sub]
  rfl
theorem i1m {x : Nat} (hx : x ≤ 1) : (1 : Int32) - iI (x : Int) = iI ((1 - x : Nat) : Int) := by
  have : (1 : Int32) - iI (x : Int) = iI (1 - (x : Int)) := iI_sub 1 _
  rw [this]
  exact congrArg iI (by omega)
theorem c_most {m : pw_Mem} {t : TT} (h : CT m 1 t) (w : WT t) {a b x y : Nat} (ha : a < tN t) (hb : b < tN t) (hx : x ≤ 1) (hy : y ≤ 1) : fX2_hasMost (iI (a : Int)) (iI (b : Int)) (iI (x : Int)) (iI (y : Int)) m = some (decide (hv t a b (1 - x) y ≤ hv t a b x y)) := by
  have b1 := hv_b w ha hb hx hy
  have b2 := hv_b w ha hb (x := 1 - x) (by omega) hy
  unfold fX2_hasMost
  rw [c_hv h w ha hb hx hy, bd_some, i1m hx, c_hv h w ha hb (by omega) hy, bd_some]
  by_cases k : hv t a b (1 - x) y ≤ hv t a b x y
  · rw [ltF (by omega), decide_eq_true k]
  · rw [ltT (by omega), decide_eq_false k]
-- the reference
theorem jnW {τ : Type} {B : Int32 → Option τ} {p q : Nat} (h : p ≤ 30 ∧ q ≤ 30) : jn (κ := Int32 → Option τ) B (fun k => if iI (q : Int) ≤ iI (p : Int) then k 1 else k (-1)) = B (iI (if p < q then -1 else 1)) := by
  rw [jn_def]
  by_cases k : p < q
  · rw [leF (by omega), if_pos k]
    rfl
  · rw [leT (by omega), if_neg k]
    rfl
theorem jnC {τ : Type} {K : Int32 → Option τ} {x : Nat} {c : Bool} {v : Int32} (hx : x ≤ 1) : jn (κ := Int32 → Option τ) K (fun k47 => jn (κ := Option τ) (k47 0) (fun k49 => if iI (x : Int) = 1 then if c = true then k47 v else k49 else k49)) = K (if x = 1 ∧ c = true then v else 0) := by
  rw [jn_def, jn_def, n1]
  by_cases k : x = 1
  · rw [eqT (by omega)]
    cases c
    · rw [itF, if_neg (fun z => absurd z.2 (by decide))]
    · rw [itT, if_pos ⟨k, rfl⟩]
  · rw [eqF (by omega), if_neg (fun z => k z.1)]
theorem jnD {τ : Type} {K : Int32 → Option τ} {y : Nat} {v : Int32} {n k : Nat} {e : Option Bool} {c : Bool} (hn : n < k ∧ k < 100000) (he : e = some c) (hy : y ≤ 1) : jn (κ := Int32 → Option τ) K (fun k38 => jn (κ := Option τ) (k38 0) (fun k40 => if iI (y : Int) = 1 then gd (ix (iI (n : Int)) k) (bd e fun y42 => if y42 = true then k38 v else k40) else k40)) = K (if y = 1 ∧ c = true then v else 0) := by
  rw [jn_def, jn_def, he, bd_some, gdN hn, n1]
  by_cases k : y = 1
  · rw [eqT (by omega)]
    cases c
    · rw [itF, if_neg (fun z => absurd z.2 (by decide))]
    · rw [itT, if_pos ⟨k, rfl⟩]
  · rw [eqF (by omega), if_neg (fun z => k z.1)]
theorem ifI {c : Prop} [Decidable c] (z : Int) : (if c then iI z else 0) = iI (if c then z else 0) := by
  by_cases h : c
  · rw [if_pos h, if_pos h]
  · rw [if_neg h, if_neg h]
    rfl
theorem r_hv {m : pw_Mem} {s : SS} (hM : MS m s) (w : WS s) {a b x y : Nat} (ha : a < tN s.1) (hb : b < tN s.1) (hab : tP s.1 a ≠ tP s.1 b) (hx : x ≤ 1) (hy : y ≤ 1) : ∃ m2 : pw_Mem, fX11_hasBy (iI (a : Int)) (iI (b : Int)) (iI (x : Int)) (iI (y : Int)) m = some (iI (hv s.1 a b x y), m2) ∧ ∀ c, c ≠ 73 → m2 c = m c := by
  have w1 := w.1.1
  have hk := w1.1.2.1
  have h7 := w1.1.1
  have hne : a ≠ b := fun e => hab (by rw [e])
  obtain ⟨m1, q1, g1, f1⟩ := r_work hM w
  have hM1 := MS_work hM (fun c h _ => f1 c h)
  obtain ⟨sa1, sa2, sa3, sa4⟩ := r_pl hM1.1 w1 ha
  obtain ⟨sb1, sb2, sb3, sb4⟩ := r_pl hM1.1 w1 hb
  have ea73 : m1 73 (iI ((4 + a : Nat) : Int)).toNatClampNeg = iI (tP s.1 a : Nat) := by
    rw [clN (by omega)]
    exact (g1.2.1 a ha).1
  obtain ⟨W, hW⟩ : ∃ W : Int, W = (if tP s.1 a < tP s.1 b then -1 else 1) := ⟨_, rfl⟩
  have hWb : (W = -1 ∧ tP s.1 a < tP s.1 b) ∨ (W = 1 ∧ tP s.1 b < tP s.1 a) := by
    rw [hW]
    by_cases k : tP s.1 a < tP s.1 b
    · rw [if_pos k]
      exact Or.inl ⟨rfl, k⟩
    · rw [if_neg k]
      exact Or.inr ⟨rfl, by omega⟩
  have cA : decide (0 ≤ (tP s.1 a : Int) + W ∧ (tP s.1 a : Int) + W ≤ 30) = canA s.1 a b := by
    unfold canA
    rcases hWb with ⟨h1, h2⟩ | ⟨h1, h2⟩
    · rw [if_pos h2]
      exact decide_eq_decide.mpr (by omega)
    · rw [if_neg (by omega)]
      exact decide_eq_decide.mpr (by omega)
  have cB : decide (0 ≤ (tP s.1 b : Int) - W ∧ (tP s.1 b : Int) - W ≤ 30) = canA s.1 b a := by
    unfold canA
    rcases hWb with ⟨h1, h2⟩ | ⟨h1, h2⟩
    · rw [if_neg (by omega)]
      exact decide_eq_decide.mpr (by omega)
    · rw [if_pos h2]
      exact decide_eq_decide.mpr (by omega)
  have sA := stA_le s.1 a b hx
  have sB := stA_le s.1 b a hy
  -- the new places
  obtain ⟨wa, hwa⟩ : ∃ wa : Int, wa = if x = 1 ∧ canA s.1 a b = true then W else 0 := ⟨_, rfl⟩
  obtain ⟨wb, hwb⟩ : ∃ wb : Int, wb = if y = 1 ∧ canA s.1 b a = true then W else 0 := ⟨_, rfl⟩
  have hwa2 : wa = W * (stA s.1 a b x : Int) := by
    rw [hwa]
    unfold stA
    cases hc : canA s.1 a b
    · rw [if_neg (fun z => absurd z.2 (by decide)), itF]
      omega
    · rw [itT]
      by_cases q : x = 1
      · rw [if_pos ⟨q, rfl⟩, q]
        omega
      · rw [if_neg (fun z => q z.1), show x = 0 by omega]
        omega
  have hwb2 : wb = W * (stA s.1 b a y : Int) := by
    rw [hwb]
    unfold stA
    cases hc : canA s.1 b a
    · rw [if_neg (fun z => absurd z.2 (by decide)), itF]
      omega
    · rw [itT]
      by_cases q : y = 1
      · rw [if_pos ⟨q, rfl⟩, q]
        omega
      · rw [if_neg (fun z => q z.1), show y = 0 by omega]
        omega
  have A1 : stA s.1 a b x = 1 → (0 ≤ (tP s.1 a : Int) + W ∧ (tP s.1 a : Int) + W ≤ 30) := fun h => by
    unfold stA at h
    cases hc : canA s.1 a b
    · rw [hc, itF] at h
      omega
    · rw [hc] at cA
      exact of_decide_eq_true cA
  have B1 : stA s.1 b a y = 1 → (0 ≤ (tP s.1 b : Int) - W ∧ (tP s.1 b : Int) - W ≤ 30) := fun h => by
    unfold stA at h
    cases hc : canA s.1 b a
    · rw [hc, itF] at h
      omega
    · rw [hc] at cB
      exact of_decide_eq_true cB
  obtain ⟨xa, hxa⟩ : ∃ xa : Nat, (xa : Int) = (tP s.1 a : Int) + wa := by
    refine ⟨((tP s.1 a : Int) + wa).toNat, ?_⟩
    rw [hwa2]
    rcases (show stA s.1 a b x = 0 ∨ stA s.1 a b x = 1 by omega) with q | q
    · rw [q]
      omega
    · have := A1 q
      rw [q]
      omega
  obtain ⟨xb, hxb⟩ : ∃ xb : Nat, (xb : Int) = (tP s.1 b : Int) - wb := by
    refine ⟨((tP s.1 b : Int) - wb).toNat, ?_⟩
    rw [hwb2]
    rcases (show stA s.1 b a y = 0 ∨ stA s.1 b a y = 1 by omega) with q | q
    · rw [q]
      omega
    · have := B1 q
      rw [q]
      omega
  have xa30 : xa ≤ 30 := by
    rcases (show stA s.1 a b x = 0 ∨ stA s.1 a b x = 1 by omega) with q | q
    · rw [q] at hwa2
      omega
    · have := A1 q
      rw [q] at hwa2
      omega
  have xb30 : xb ≤ 30 := by
    rcases (show stA s.1 b a y = 0 ∨ stA s.1 b a y = 1 by omega) with q | q
    · rw [q] at hwb2
      omega
    · have := B1 q
      rw [q] at hwb2
      omega
  have hD : dst xa xb = hvD s.1 a b x y := by
    unfold hvD dst
    rcases hWb with ⟨h1, h2⟩ | ⟨h1, h2⟩
    · rw [h1] at hwa2 hwb2
      omega
    · rw [h1] at hwa2 hwb2
      omega
  have hDb := hvD_le w1 ha hb hx hy
  -- the town as it then is
  obtain ⟨t1, ht1⟩ : ∃ t1, t1 = sP s.1 (up1 (tP s.1) a xa) := ⟨_, rfl⟩
  have wt1 : WT t1 := by
    rw [ht1]
    exact WT_move w1 xa30
  have g5 : RT (pw_up m1 73 (4 + a) (iI (xa : Int))) 73 t1 := by
    rw [ht1]
    exact RT_place g1 ha h7
  obtain ⟨m5, hm5⟩ : ∃ m5, m5 = pw_up m1 73 (4 + a) (iI (xa : Int)) := ⟨_, rfl⟩
  rw [← hm5] at g5
  have f5 : ∀ c, c ≠ 73 → m5 c = m c := fun c hc => by rw [hm5, up_oc hc, f1 c hc]
  have t1b : tP t1 b = tP s.1 b := by
    rw [ht1]
    exact up1_ne (Ne.symm hne)
  have t1n : tN t1 = tN s.1 := by rw [ht1]; rfl
  have eb73 : m5 73 (iI ((4 + b : Nat) : Int)).toNatClampNeg = iI (tP s.1 b : Nat) := by
    rw [clN (by omega), (g5.2.1 b (by omega)).1, t1b]
  obtain ⟨u, hu⟩ : ∃ u, u = sP t1 (up1 (tP t1) b xb) := ⟨_, rfl⟩
  have wu : WT u := by
    rw [hu]
    exact WT_move wt1 xb30
  have g7 : RT (pw_up m5 73 (4 + b) (iI (xb : Int))) 73 u := by
    rw [hu]
    exact RT_place g5 (by omega) (by omega)
  obtain ⟨m7, hm7⟩ : ∃ m7, m7 = pw_up m5 73 (4 + b) (iI (xb : Int)) := ⟨_, rfl⟩
  rw [← hm7] at g7
  have f7 : ∀ c, c ≠ 73 → m7 c = m c := fun c hc => by rw [hm7, up_oc hc, f5 c hc]
  have uK : tK u = tK s.1 := by rw [hu, ht1]; rfl
  have uN : tN u = tN s.1 := by rw [hu, ht1]; rfl
  have uO : tO u = tO s.1 := by rw [hu, ht1]; rfl
  have uQ : tQ u = tQ s.1 := by rw [hu, ht1]; rfl
  have uX : tX u = tX s.1 := by rw [hu, ht1]; rfl
  have uI : tI u = tI s.1 := by rw [hu, ht1]; rfl
  have uF : tF u = tF s.1 := by rw [hu, ht1]; rfl
  have uPa : tP u a = xa := by
    rw [hu]
    show up1 (tP t1) b xb a = xa
    rw [up1_ne hne, ht1]
    exact up1_eq _ _ _
  have uPb : tP u b = xb := by
    rw [hu]
    exact up1_eq _ _ _
  have hpu : ∀ k, rnd s.1 k a b = true → pul u k = pbV s.1 a b (hvD s.1 a b x y) k := fun k hr => by
    have hr' := of_decide_eq_true hr
    have hd : dst (tP u (tO u k)) (tP u (tQ u k)) = hvD s.1 a b x y := by
      rw [uO, uQ]
      rcases hr' with ⟨z1, z2⟩ | ⟨z1, z2⟩
      · rw [z1, z2, uPa, uPb]
        exact hD
      · rw [z1, z2, uPa, uPb, ← hD]
        unfold dst
        omega
    unfold pul pbV strt
    rw [hd, uX, uI, uF, hr, itT]
    rfl
  unfold fX11_hasBy
  rw [q1, bd_some, sa1, sb1, gdN (by omega), gdN (by omega), sa2, sb2, jnW ⟨sa3, sb3⟩, ← hW]
  rw [gdN (by omega), iI_add, r_isPlace _ (by omega) (by omega), bd_some, cA, gdN (by omega), jnC hx, ifI, ← hwa]
  rw [gdN (by omega), ea73, iI_add, ← hxa, lt_def, clN (n := 4 + a) (by omega), ← hm5, gdN (by omega)]
  have e72 : m5 72 (iI ((4 + b : Nat) : Int)).toNatClampNeg = iI (tP s.1 b : Nat) := by
    rw [hm5, up_oc (by omega)]
    exact sb2
  have ip : fX11_isPlace (m5 72 (iI ((4 + b : Nat) : Int)).toNatClampNeg - iI W) m5 = some (canA s.1 b a) := by
    rw [e72, iI_sub, r_isPlace _ (by omega) (by omega), cB]
  rw [jnD (by omega) ip hy, ifI, ← hwb]
  rw [gdN (by omega), eb73, iI_sub, ← hxb, lt_def, clN (n := 4 + b) (by omega), ← hm7, jnC hx]
  have e3 : (if x = 1 ∧ canA s.1 a b = true then (3 : Int32) else 0) = iI (3 * (stA s.1 a b x : Int)) := by
    unfold stA
    cases hc : canA s.1 a b
    · rw [if_neg (fun z => absurd z.2 (by decide)), itF]
      rfl
    · rw [itT]
      by_cases q : x = 1
      · rw [if_pos ⟨q, rfl⟩, q]
        rfl
      · rw [if_neg (fun z => q z.1), show x = 0 by omega]
        rfl
  rw [e3]
  refine lpI2 (fun i v9 v10 => v9 = iI (3 * (stA s.1 a b x : Int) - (sumN (pbV s.1 a b (hvD s.1 a b x y)) i : Nat)) ∧ v10 = iI (i : Nat)) (fun r => ∃ m2 : pw_Mem, r = some (iI (hv s.1 a b x y), m2) ∧ ∀ c, c ≠ 73 → m2 c = m c) (tK s.1) (by omega) ?_ ?_ ⟨congrArg iI (by show _ = _ - ((0 : Nat) : Int); omega), rfl⟩
  · rintro nx i _ _ hi ⟨rfl, rfl⟩ hnx
    have eK : m7 73 (1 : Int32).toNatClampNeg = iI (tK s.1 : Nat) := by
      rw [← uK]
      exact g7.1.2.1
    have e : sumN (pbV s.1 a b (hvD s.1 a b x y)) (i + 1) = sumN (pbV s.1 a b (hvD s.1 a b x y)) i + pbV s.1 a b (hvD s.1 a b x y) i := rfl
    have hiu : i < tK u := by omega
    have ra := r_isRound g7 wu (p := a) hiu (by omega)
    have rb := r_isRound g7 wu (p := b) hiu (by omega)
    rw [uO, uQ] at ra rb
    obtain ⟨-, -, l1, l2, l3, -⟩ := w1.2.2 i hi
    have no : rnd s.1 i a b = false → nx (iI (3 * (stA s.1 a b x : Int) - (sumN (pbV s.1 a b (hvD s.1 a b x y)) i : Nat)) - 0) (iI ((i + 1 : Nat) : Int)) = nx (iI (3 * (stA s.1 a b x : Int) - (sumN (pbV s.1 a b (hvD s.1 a b x y)) (i + 1) : Nat))) (iI ((i + 1 : Nat) : Int)) := fun hf => by
      have hz : pbV s.1 a b (hvD s.1 a b x y) i = 0 := by
        unfold pbV
        rw [hf, itF]
        split <;> rfl
      have : iI (3 * (stA s.1 a b x : Int) - (sumN (pbV s.1 a b (hvD s.1 a b x y)) i : Nat)) - 0 = iI (3 * (stA s.1 a b x : Int) - (sumN (pbV s.1 a b (hvD s.1 a b x y)) i : Nat) - 0) := iI_sub _ 0
      rw [this, e, hz]
      exact congrArg (fun z => nx (iI z) _) (by omega)
    rw [gd_true (by decide), eK, leF (by omega), ra, bd_some, jn_def, jn_def]
    by_cases k1 : tO s.1 i = a ∨ tQ s.1 i = a
    · rw [decide_eq_true k1, itT, rb, bd_some]
      by_cases k2 : tO s.1 i = b ∨ tQ s.1 i = b
      · have hr : rnd s.1 i a b = true := decide_eq_true (by omega)
        rw [decide_eq_true k2, itT, r_pull g7 wu hiu, bd_some, hpu i hr]
        simp only [lt_def, inc1, iI_sub]
        exact hnx _ _ ⟨congrArg iI (by rw [e]; omega), rfl⟩
      · rw [decide_eq_false k2, itF]
        simp only [lt_def, inc1]
        rw [no (decide_eq_false (by omega))]
        exact hnx _ _ ⟨rfl, rfl⟩
    · rw [decide_eq_false k1, itF]
      simp only [lt_def, inc1]
      rw [no (decide_eq_false (by omega))]
      exact hnx _ _ ⟨rfl, rfl⟩
  · rintro nx _ _ ⟨rfl, rfl⟩
    have eK : m7 73 (1 : Int32).toNatClampNeg = iI (tK s.1 : Nat) := by
      rw [← uK]
      exact g7.1.2.1
    rw [gd_true (by decide), eK, leT (by omega)]
    exact ⟨m7, rfl, f7⟩
def okT (t : TT) (a b i : Nat) : Bool := !(decide (hv t a b (1 - i / 2) (i % 2) ≤ hv t a b (i / 2) (i % 2)) && decide (hv t b a (1 - i % 2) (i / 2) ≤ hv t b a (i % 2) (i / 2)))
theorem op_two {m : pw_Mem} (hs : Sim m) (a1 a2 : Int32) : OpRW (fX10_two a1 a2) (fX11_two a1 a2) m := by
  have hs0 := hs
  obtain ⟨s, hC, hM, w⟩ := hs
  obtain ⟨y, rfl, h1, h2⟩ := rg a1
  obtain ⟨z, rfl, h3, h4⟩ := rg a2
  have w1 := w.1.1
  have h7 := w1.1.1
  by_cases c : (0 ≤ y ∧ y < tN s.1) ∧ (0 ≤ z ∧ z < tN s.1) ∧ y ≠ z
  · obtain ⟨a, rfl⟩ := Int.eq_ofNat_of_zero_le c.1.1
    obtain ⟨b, rfl⟩ := Int.eq_ofNat_of_zero_le c.2.1.1
    have ha : a < tN s.1 := by omega
    have hb : b < tN s.1 := by omega
    have a30 := (w1.2.1 a ha).1
    have b30 := (w1.2.1 b hb).1
    have e1 : m (1 + 1) (iI (a : Int)).toNatClampNeg = iI (tP s.1 a : Nat) := by
      rw [clN (by omega)]
      exact (hC.1.2.1 a ha).1
    have e2 : m (1 + 1) (iI (b : Int)).toNatClampNeg = iI (tP s.1 b : Nat) := by
      rw [clN (by omega)]
      exact (hC.1.2.1 b hb).1
    obtain ⟨sa1, sa2, sa3, sa4⟩ := r_pl hM.1 w1 ha
    obtain ⟨sb1, sb2, sb3, sb4⟩ := r_pl hM.1 w1 hb
    by_cases hab : tP s.1 a = tP s.1 b
    · refine ⟨-3, m, ?_, ?_, hs0⟩
      · unfold fX10_two
        rw [c_areTwo hC.1 w1 h1 h2 h3 h4, bd_some, ite_dec, if_pos c, gdN (by omega), gdN (by omega), e1, e2, eqT (by omega)]
      · unfold fX11_two
        rw [r_areTwo hM.1 w1 h1 h2 h3 h4, bd_some, ite_dec, if_pos c, sa1, sb1, gdN (by omega), gdN (by omega), sa2, sb2, eqT (by omega)]
    · obtain ⟨R, hR1, hR2⟩ := fst_ex (okT s.1 a b) 4 (fun i => ((10 * (i / 2) + i % 2 : Nat) : Int)) (-4)
      have hdv : ∀ i : Nat, i < 4 → iI (i : Int) / 2 = iI ((i / 2 : Nat) : Int) := fun i hi => iI_div (a := (i : Int)) (b := 2) (by omega) (by omega) (by omega) (by omega)
      have hmd : ∀ i : Nat, i < 4 → iI (i : Int) - iI (i : Int) / 2 * 2 = iI ((i % 2 : Nat) : Int) := fun i hi => by
        rw [hdv i hi]
        have : iI ((i / 2 : Nat) : Int) * 2 = iI ((i / 2 * 2 : Nat) : Int) := iN_mul _ 2
        rw [this, iI_sub]
        exact congrArg iI (by omega)
      have h10 : ∀ i : Nat, (10 : Int32) * iI ((i / 2 : Nat) : Int) + iI ((i % 2 : Nat) : Int) = iI ((10 * (i / 2) + i % 2 : Nat) : Int) := fun i => by
        have : (10 : Int32) * iI ((i / 2 : Nat) : Int) = iI ((10 * (i / 2) : Nat) : Int) := iN_mul 10 _
        rw [this, iN_add]
      refine op_calcR hC hM w (r := iI R) ?_ ?_
      · have key : fX2_restingChoices (iI (a : Int)) (iI (b : Int)) m = some (iI R) := by
          unfold fX2_restingChoices
          refine lpI1 (fun i v => v = iI (i : Nat) ∧ ∀ j, j < i → okT s.1 a b j = true) (fun r => r = some (iI R)) 4 (by omega) ?_ ?_ ⟨rfl, fun j hj => absurd hj (Nat.not_lt_zero j)⟩
          · rintro nx i _ hi ⟨rfl, hlow⟩ hnx
            rw [hmd i hi, hdv i hi, n4, leF (by omega), lt_def, lt_def, c_most hC.1 w1 ha hb (by omega) (by omega), bd_some, jn_def, lt_def, inc1]
            by_cases k1 : hv s.1 a b (1 - i / 2) (i % 2) ≤ hv s.1 a b (i / 2) (i % 2)
            · rw [decide_eq_true k1, itT, c_most hC.1 w1 hb ha (by omega) (by omega), bd_some]
              by_cases k2 : hv s.1 b a (1 - i % 2) (i / 2) ≤ hv s.1 b a (i % 2) (i / 2)
              · rw [decide_eq_true k2, itT, h10, hR2 i hi hlow (by unfold okT; rw [decide_eq_true k1, decide_eq_true k2]; rfl)]
              · rw [decide_eq_false k2, itF]
                exact hnx _ ⟨rfl, all_s hlow (by unfold okT; rw [decide_eq_false k2, Bool.and_false]; rfl)⟩
            · rw [decide_eq_false k1, itF]
              exact hnx _ ⟨rfl, all_s hlow (by unfold okT; rw [decide_eq_false k1]; rfl)⟩
          · rintro nx _ ⟨rfl, hlow⟩
            rw [n4, leT (by omega), hR1 hlow]
            rfl
        unfold fX10_two
        rw [c_areTwo hC.1 w1 h1 h2 h3 h4, bd_some, ite_dec, if_pos c, gdN (by omega), gdN (by omega), e1, e2, eqF (by omega), key, bd_some]
      · unfold fX11_two
        rw [r_areTwo hM.1 w1 h1 h2 h3 h4, bd_some, ite_dec, if_pos c, sa1, sb1, gdN (by omega), gdN (by omega), sa2, sb2, eqF (by omega)]
        refine lpI2 (fun i v (m3 : pw_Mem) => v = iI (i : Nat) ∧ (∀ j, j < i → okT s.1 a b j = true) ∧ ∀ c, c ≠ 73 → m3 c = m c) (fun r => ∃ m2 : pw_Mem, r = some (iI R, m2) ∧ m2 71 5 = m 71 5 ∧ ∀ c, (c < 71 ∨ c = 72 ∨ c = 74 ∨ 80 ≤ c) → m2 c = m c) 4 (by omega) ?_ ?_ ⟨rfl, fun j hj => absurd hj (Nat.not_lt_zero j), fun _ _ => rfl⟩
        · rintro nx i _ m3 hi ⟨rfl, hlow, f3⟩ hnx
          have hM3 := MS_work hM (fun c h _ => f3 c h)
          obtain ⟨m9, q9, f9⟩ := r_hv hM3 w ha hb hab (x := 1 - i / 2) (y := i % 2) (by omega) (by omega)
          have f9' : ∀ c, c ≠ 73 → m9 c = m c := fun c hc => by rw [f9 c hc, f3 c hc]
          obtain ⟨m11, q11, f11⟩ := r_hv (MS_work hM (fun c h _ => f9' c h)) w ha hb hab (x := i / 2) (y := i % 2) (by omega) (by omega)
          have f11' : ∀ c, c ≠ 73 → m11 c = m c := fun c hc => by rw [f11 c hc, f9' c hc]
          obtain ⟨m17, q17, f17⟩ := r_hv (MS_work hM (fun c h _ => f11' c h)) w hb ha (Ne.symm hab) (x := 1 - i % 2) (y := i / 2) (by omega) (by omega)
          have f17' : ∀ c, c ≠ 73 → m17 c = m c := fun c hc => by rw [f17 c hc, f11' c hc]
          obtain ⟨m19, q19, f19⟩ := r_hv (MS_work hM (fun c h _ => f17' c h)) w hb ha (Ne.symm hab) (x := i % 2) (y := i / 2) (by omega) (by omega)
          have f19' : ∀ c, c ≠ 73 → m19 c = m c := fun c hc => by rw [f19 c hc, f17' c hc]
          have b1 := hv_b w1 ha hb (x := 1 - i / 2) (y := i % 2) (by omega) (by omega)
          have b2 := hv_b w1 ha hb (x := i / 2) (y := i % 2) (by omega) (by omega)
          have b3 := hv_b w1 hb ha (x := 1 - i % 2) (y := i / 2) (by omega) (by omega)
          have b4 := hv_b w1 hb ha (x := i % 2) (y := i / 2) (by omega) (by omega)
          rw [hmd i hi, hdv i hi, n4, leF (by omega), lt_def, lt_def, i1m (by omega), q9, bd2_some, q11, bd2_some, jn_def]
          by_cases k1 : hv s.1 a b (1 - i / 2) (i % 2) ≤ hv s.1 a b (i / 2) (i % 2)
          · rw [ltF (by omega), i1m (by omega), q17, bd2_some, q19, bd2_some]
            by_cases k2 : hv s.1 b a (1 - i % 2) (i / 2) ≤ hv s.1 b a (i % 2) (i / 2)
            · rw [ltF (by omega), h10, hR2 i hi hlow (by unfold okT; rw [decide_eq_true k1, decide_eq_true k2]; rfl)]
              exact ⟨m19, rfl, by rw [f19' 71 (by omega)], fun c hc => f19' c (by omega)⟩
            · rw [ltT (by omega)]
              simp only [lt_def, inc1]
              exact hnx _ _ ⟨rfl, all_s hlow (by unfold okT; rw [decide_eq_false k2, Bool.and_false]; rfl), f19'⟩
          · rw [ltT (by omega)]
            simp only [lt_def, inc1]
            exact hnx _ _ ⟨rfl, all_s hlow (by unfold okT; rw [decide_eq_false k1]; rfl), f11'⟩
        · rintro nx _ m3 ⟨rfl, hlow, f3⟩
          rw [n4, leT (by omega), hR1 hlow]
          exact ⟨m3, rfl, by rw [f3 71 (by omega)], fun c hc => f3 c (by omega)⟩
  · refine ⟨-1, m, ?_, ?_, hs0⟩
    · unfold fX10_two
      rw [c_areTwo hC.1 w1 h1 h2 h3 h4, bd_some, ite_dec, if_neg c]
    · unfold fX11_two
      rw [r_areTwo hM.1 w1 h1 h2 h3 h4, bd_some, ite_dec, if_neg c]
