/-! THE TEXT: a statement done, on both sides -/
set_option maxRecDepth 100000
def eN (h : ShT) (q j : Nat) : Nat := (hE h (q + j) - 48).toNat
def GS (h : ShT) (q : Nat) : Prop := ∀ j, j < dgN (hE h q) + 2 → bdj h q j = false
theorem GS_d {h : ShT} {q : Nat} (hg : GS h q) {j : Nat} (h1 : 1 ≤ j) (hj : j ≤ dgN (hE h q)) : q + j < hL h ∧ hE h (q + j) = (eN h q j : Int) + 48 ∧ eN h q j ≤ 9 := by
  have := hg j (by omega)
  rw [bd_d h1 hj] at this
  have g : gDg h (q + j) = true := by simpa using this
  have g' := of_decide_eq_true g
  unfold eN
  omega
theorem GS_e {h : ShT} {q : Nat} (hg : GS h q) : nxt h q ≤ hL h ∧ hE h (q + dgN (hE h q) + 1) = 59 := by
  have := hg (dgN (hE h q) + 1) (by omega)
  rw [bd_e] at this
  have g : decide (q + dgN (hE h q) + 1 < hL h ∧ hE h (q + dgN (hE h q) + 1) = 59) = true := by simpa using this
  have g' := of_decide_eq_true g
  unfold nxt
  omega
theorem GS_l {h : ShT} {q : Nat} (hg : GS h q) : q < hL h ∧ dgN (hE h q) ≠ 0 := by
  have := hg 0 (by omega)
  unfold bdj at this
  rw [if_pos rfl, Bool.or_eq_false_iff] at this
  have h1 := of_decide_eq_false this.1
  have h2 := of_decide_eq_false this.2
  omega
def ex (h : ShT) (t : TT) (q : Nat) : Option TT :=
  if hE h q = 98 then (if eN h q 1 ≤ 7 ∧ eN h q 3 < tN t ∧ eN h q 4 < tN t ∧ eN h q 3 ≠ eN h q 4 ∧ tK t < 10 then some (tryT (addB t (eN h q 1) (eN h q 2) (eN h q 3) (eN h q 4))) else none)
  else if hE h q = 99 then some (tryT (sC t (eN h q 1)))
  else if hE h q = 103 then (if eN h q 1 < tN t ∧ 10 * eN h q 2 + eN h q 3 ≤ 30 then some (tryT (sP t (up1 (tP t) (eN h q 1) (10 * eN h q 2 + eN h q 3)))) else none)
  else if hE h q = 112 then (if 10 * eN h q 1 + eN h q 2 ≤ 30 ∧ tN t < 7 then some (addP t (10 * eN h q 1 + eN h q 2)) else none)
  else if hE h q = 121 then (if 1 ≤ 10 * eN h q 1 + eN h q 2 ∧ 10 * eN h q 1 + eN h q 2 ≤ 60 ∧ tY t + (10 * eN h q 1 + eN h q 2) ≤ 999 then some (yrI t (10 * eN h q 1 + eN h q 2)) else none)
  else (if eN h q 1 < tK t ∧ tX t (eN h q 1) = false then some (sX t (upB (tX t) (eN h q 1) true)) else none)
theorem letters {c : Int} (h : dgN c ≠ 0) : c = 98 ∨ c = 99 ∨ c = 103 ∨ c = 112 ∨ c = 120 ∨ c = 121 := by
  unfold dgN at h
  by_cases k1 : c = 98
  · omega
  · by_cases k2 : c = 99
    · omega
    · by_cases k3 : c = 103
      · omega
      · by_cases k4 : c = 112
        · omega
        · by_cases k5 : c = 120
          · omega
          · by_cases k6 : c = 121
            · omega
            · rw [if_neg k1, if_neg k2, if_neg k3, if_neg k4, if_neg k5, if_neg k6] at h
              exact absurd rfl h
theorem Calm_yrI {t : TT} (h : Calm t) : ∀ n, Calm (yrI t n)
  | 0 => h
  | n + 1 => Calm_try _
theorem ex_WU {h : ShT} {t u : TT} {q : Nat} (wu : WU t) (hg : GS h q) (he : ex h t q = some u) : WU u := by
  have w := wu.1
  obtain ⟨hq, hd⟩ := GS_l hg
  rcases letters hd with c | c | c | c | c | c
  · have d4 : dgN (hE h q) = 4 := by rw [c]; rfl
    obtain ⟨-, -, g2⟩ := GS_d hg (j := 2) (by omega) (by omega)
    unfold ex at he
    rw [if_pos c] at he
    split at he
    · rename_i z
      cases he
      exact ⟨WT_tryT (WT_addB w z.1 g2 z.2.1 z.2.2.1 z.2.2.2.1 z.2.2.2.2), wu.2.1, Calm_try _⟩
    · cases he
  · have d1 : dgN (hE h q) = 1 := by rw [c]; rfl
    obtain ⟨-, -, g1⟩ := GS_d hg (j := 1) (by omega) (by omega)
    unfold ex at he
    rw [if_neg (by omega), if_pos c] at he
    cases he
    exact ⟨WT_tryT (WT_C w g1), wu.2.1, Calm_try _⟩
  · unfold ex at he
    rw [if_neg (by omega), if_neg (by omega), if_pos c] at he
    split at he
    · rename_i z
      cases he
      exact ⟨WT_tryT (WT_move w z.2), wu.2.1, Calm_try _⟩
    · cases he
  · unfold ex at he
    rw [if_neg (by omega), if_neg (by omega), if_neg (by omega), if_pos c] at he
    split at he
    · rename_i z
      cases he
      exact ⟨WT_addP w z.1 z.2, wu.2.1, Calm_addP w wu.2.2 _⟩
    · cases he
  · unfold ex at he
    rw [if_neg (by omega), if_neg (by omega), if_neg (by omega), if_neg (by omega), if_neg (by omega)] at he
    split at he
    · rename_i z
      cases he
      exact ⟨WT_X w _, wu.2.1, Calm_X wu.2.2 (fun b hb => by
        by_cases e : b = eN h q 1
        · rw [e, upB_eq]
        · rw [upB_ne e]
          exact hb)⟩
    · cases he
  · unfold ex at he
    rw [if_neg (by omega), if_neg (by omega), if_neg (by omega), if_neg (by omega), if_pos c] at he
    split at he
    · rename_i z
      cases he
      exact ⟨WT_yrI w _ (by omega), by rw [(yrI_n t _).2.2.1]; exact z.2.2, Calm_yrI wu.2.2 _⟩
    · cases he
-- the class does it in mind
theorem c_dgt {m : pw_Mem} {s : SS} (hC : CS m s) (w : WS s) {n : Nat} (hn : n < 8) (hh : hH (s.2.2 n) = 2) {i : Nat} (hi : i < hL (s.2.2 n)) : fX8_digit (55 + 2 * n) (iI (i : Int)) m = some (iI (hE (s.2.2 n) i - 48)) := by
  have n48 : (48 : Int32) = iI 48 := rfl
  unfold fX8_digit
  rw [c_at hC w hn hh hi, bd_some, n48, iI_sub]
theorem c_two {m : pw_Mem} {s : SS} (hC : CS m s) (w : WS s) {n : Nat} (hn : n < 8) (hh : hH (s.2.2 n) = 2) {i : Nat} (hi : i + 1 < hL (s.2.2 n)) : fX8_twoDigits (55 + 2 * n) (iI (i : Int)) m = some (iI (10 * (hE (s.2.2 n) i - 48) + (hE (s.2.2 n) (i + 1) - 48))) := by
  have e10 : (10 : Int32) * iI (hE (s.2.2 n) i - 48) = iI (10 * (hE (s.2.2 n) i - 48)) := iI_mul 10 _
  unfold fX8_twoDigits
  rw [c_dgt hC w hn hh (by omega), bd_some, inc1, c_dgt hC w hn hh hi, bd_some, e10, iI_add]
theorem incN (q j : Nat) {z : Int32} (hz : z = iI (j : Int)) : iI (q : Int) + z = iI ((q + j : Nat) : Int) := by
  rw [hz]
  exact iN_add q j
def XR (h : ShT) (u : TT) (q : Nat) (b : Bool) (C : TT → Prop) : Prop := (∀ u', ex h u q = some u' → b = true ∧ C u') ∧ (ex h u q = none → b = false)
theorem c_exec {m : pw_Mem} {s : SS} (hC : CS m s) (w : WS s) {n : Nat} (hn : n < 8) (hh : hH (s.2.2 n) = 2) {q : Nat} (hg : GS (s.2.2 n) q) {u : TT} (hu : CT m 13 u) (wu : WU u) : ∃ b m', fX8_happens (55 + 2 * n) (iI (q : Int)) 13 m = some (b, m') ∧ (∀ c, c < 13 ∨ 24 < c → m' c = m c) ∧ XR (s.2.2 n) u q b (CT m' 13) := by
  obtain ⟨w3, wL, wE⟩ := (w.2.2 n hn).2.2 hh
  have wt := wu.1
  have hk := wt.1.2.1
  have h7 := wt.1.1
  obtain ⟨hq, hd⟩ := GS_l hg
  have we := (wE q hq).1
  have at1 := c_at hC w hn hh hq
  have cd := fun i (hi : i < hL (s.2.2 n)) => c_dgt hC w hn hh hi
  have c2 := fun i (hi : i + 1 < hL (s.2.2 n)) => c_two hC w hn hh hi
  have gd1 := fun j (h1 : 1 ≤ j) (h2 : j ≤ dgN (hE (s.2.2 n) q)) => GS_d hg h1 h2
  unfold XR
  obtain ⟨h, hh'⟩ : ∃ h, h = s.2.2 n := ⟨_, rfl⟩
  rw [← hh'] at at1 cd c2 gd1 hq hd we ⊢
  have up30 : ∀ z : Nat, z < 1000 → fX10_isUpTo (iI (z : Int)) 30 m = some (decide ((0 : Int) ≤ z ∧ (z : Int) ≤ 30)) := fun z hz => by
    rw [show (30 : Int32) = iI 30 from rfl]
    exact c_isUpTo m (by omega) (by omega) (by omega) (by omega)
  have up7 : ∀ z : Nat, z < 1000 → fX10_isUpTo (iI (z : Int)) 7 m = some (decide ((0 : Int) ≤ z ∧ (z : Int) ≤ 7)) := fun z hz => by
    rw [show (7 : Int32) = iI 7 from rfl]
    exact c_isUpTo m (by omega) (by omega) (by omega) (by omega)
  unfold fX8_happens
  rw [at1, bd_some, eqL (k := 98) we (by omega), eqL (k := 99) we (by omega), eqL (k := 103) we (by omega), eqL (k := 112) we (by omega), eqL (k := 121) we (by omega)]
  rcases letters hd with c | c | c | c | c | c
  · have d4 : dgN (hE h q) = 4 := by rw [c]; rfl
    obtain ⟨l1, x1, g1⟩ := gd1 1 (by omega) (by omega)
    obtain ⟨l2, x2, g2⟩ := gd1 2 (by omega) (by omega)
    obtain ⟨l3, x3, g3⟩ := gd1 3 (by omega) (by omega)
    obtain ⟨l4, x4, g4⟩ := gd1 4 (by omega) (by omega)
    have y1 := cd (q + 1) l1
    have y2 := cd (q + 2) l2
    have y3 := cd (q + 3) l3
    have y4 := cd (q + 4) l4
    rw [x1, Int.add_sub_cancel] at y1
    rw [x2, Int.add_sub_cancel] at y2
    rw [x3, Int.add_sub_cancel] at y3
    rw [x4, Int.add_sub_cancel] at y4
    have exE : ex h u q = if eN h q 1 ≤ 7 ∧ eN h q 3 < tN u ∧ eN h q 4 < tN u ∧ eN h q 3 ≠ eN h q 4 ∧ tK u < 10 then some (tryT (addB u (eN h q 1) (eN h q 2) (eN h q 3) (eN h q 4))) else none := by
      unfold ex
      rw [if_pos c]
    rw [if_pos (show hE h q = ((98 : Nat) : Int) from c)]
    unfold fX8_bandComes
    rw [inc1, y1, bd_some, incN q 3 (z := 3) rfl, y3, bd_some, incN q 4 (z := 4) rfl, y4, bd_some, up7 _ (by omega), bd_some, ite_dec, incN q 2 (z := 2) rfl, exE]
    by_cases k1 : eN h q 1 ≤ 7
    · rw [if_pos (show (0 : Int) ≤ (eN h q 1 : Int) ∧ (eN h q 1 : Int) ≤ 7 by omega), c_areTwo hu wt (by omega) (by omega) (by omega) (by omega), bd_some, ite_dec]
      by_cases k2 : eN h q 3 < tN u ∧ eN h q 4 < tN u ∧ eN h q 3 ≠ eN h q 4
      · rw [if_pos (show (0 ≤ (eN h q 3 : Int) ∧ (eN h q 3 : Int) < tN u) ∧ (0 ≤ (eN h q 4 : Int) ∧ (eN h q 4 : Int) < tN u) ∧ (eN h q 3 : Int) ≠ (eN h q 4 : Int) by omega), hu.1.2.1, n10]
        by_cases k3 : tK u < 10
        · obtain ⟨m7, q7, g7, f7⟩ := c_addBand hu wt k1 g2 k2.1 k2.2.1 k2.2.2 k3
          rw [ltT (by omega), y2, bd_some, q7, bd2_some, bd2_some, if_pos ⟨k1, k2.1, k2.2.1, k2.2.2, k3⟩]
          exact ⟨true, m7, rfl, fun c hc => f7 c (by omega), fun u' hu' => (by cases hu'; exact ⟨rfl, g7⟩), fun z => (by cases z)⟩
        · rw [ltF (by omega), bd2_some, if_neg (fun z => k3 z.2.2.2.2)]
          exact ⟨false, m, rfl, fun _ _ => rfl, fun u' hu' => (by cases hu'), fun _ => rfl⟩
      · rw [if_neg (show ¬ ((0 ≤ (eN h q 3 : Int) ∧ (eN h q 3 : Int) < tN u) ∧ (0 ≤ (eN h q 4 : Int) ∧ (eN h q 4 : Int) < tN u) ∧ (eN h q 3 : Int) ≠ (eN h q 4 : Int)) by omega), bd2_some, if_neg (fun z => k2 ⟨z.2.1, z.2.2.1, z.2.2.2.1⟩)]
        exact ⟨false, m, rfl, fun _ _ => rfl, fun u' hu' => (by cases hu'), fun _ => rfl⟩
    · rw [if_neg (show ¬ ((0 : Int) ≤ (eN h q 1 : Int) ∧ (eN h q 1 : Int) ≤ 7) by omega), bd2_some, if_neg (fun z => k1 z.1)]
      exact ⟨false, m, rfl, fun _ _ => rfl, fun u' hu' => (by cases hu'), fun _ => rfl⟩
  · have d1 : dgN (hE h q) = 1 := by rw [c]; rfl
    obtain ⟨l1, x1, g1⟩ := gd1 1 (by omega) (by omega)
    have y1 := cd (q + 1) l1
    rw [x1, Int.add_sub_cancel] at y1
    have exE : ex h u q = some (tryT (sC u (eN h q 1))) := by
      unfold ex
      rw [if_neg (by omega), if_pos c]
    obtain ⟨m7, q7, g7, f7⟩ := c_chills hu wt g1
    rw [if_neg (show ¬ hE h q = ((98 : Nat) : Int) by omega), if_pos (show hE h q = ((99 : Nat) : Int) from c), inc1, y1, bd_some, q7, bd2_some, exE]
    exact ⟨true, m7, rfl, fun c hc => f7 c (by omega) (by omega), fun u' hu' => (by cases hu'; exact ⟨rfl, g7⟩), fun z => (by cases z)⟩
  · have d3 : dgN (hE h q) = 3 := by rw [c]; rfl
    obtain ⟨l1, x1, g1⟩ := gd1 1 (by omega) (by omega)
    obtain ⟨l2, x2, g2⟩ := gd1 2 (by omega) (by omega)
    obtain ⟨l3, x3, g3⟩ := gd1 3 (by omega) (by omega)
    have y1 := cd (q + 1) l1
    rw [x1, Int.add_sub_cancel] at y1
    have y2 := c2 (q + 2) l3
    have x3' : hE h (q + 2 + 1) = (eN h q 3 : Int) + 48 := x3
    rw [x2, x3', Int.add_sub_cancel, Int.add_sub_cancel, show 10 * (eN h q 2 : Int) + (eN h q 3 : Int) = ((10 * eN h q 2 + eN h q 3 : Nat) : Int) by omega] at y2
    have exE : ex h u q = if eN h q 1 < tN u ∧ 10 * eN h q 2 + eN h q 3 ≤ 30 then some (tryT (sP u (up1 (tP u) (eN h q 1) (10 * eN h q 2 + eN h q 3)))) else none := by
      unfold ex
      rw [if_neg (by omega), if_neg (by omega), if_pos c]
    rw [if_neg (show ¬ hE h q = ((98 : Nat) : Int) by omega), if_neg (show ¬ hE h q = ((99 : Nat) : Int) by omega), if_pos (show hE h q = ((103 : Nat) : Int) from c), inc1, y1, bd_some, incN q 2 (z := 2) rfl, y2, bd_some, exE]
    unfold fX8_personGoes
    rw [c_isPerson hu wt (by omega) (by omega), bd_some, ite_dec]
    by_cases k1 : eN h q 1 < tN u
    · rw [if_pos (show 0 ≤ (eN h q 1 : Int) ∧ (eN h q 1 : Int) < tN u by omega), up30 _ (by omega), bd_some, ite_dec]
      by_cases k2 : 10 * eN h q 2 + eN h q 3 ≤ 30
      · obtain ⟨m7, q7, g7, f7⟩ := c_moves hu wt k1 k2
        rw [if_pos (show (0 : Int) ≤ ((10 * eN h q 2 + eN h q 3 : Nat) : Int) ∧ ((10 * eN h q 2 + eN h q 3 : Nat) : Int) ≤ 30 by omega), q7, bd2_some, bd2_some, if_pos ⟨k1, k2⟩]
        exact ⟨true, m7, rfl, fun c hc => f7 c (by omega) (by omega) (by omega), fun u' hu' => (by cases hu'; exact ⟨rfl, g7⟩), fun z => (by cases z)⟩
      · rw [if_neg (show ¬ ((0 : Int) ≤ ((10 * eN h q 2 + eN h q 3 : Nat) : Int) ∧ ((10 * eN h q 2 + eN h q 3 : Nat) : Int) ≤ 30) by omega), bd2_some, if_neg (fun z => k2 z.2)]
        exact ⟨false, m, rfl, fun _ _ => rfl, fun u' hu' => (by cases hu'), fun _ => rfl⟩
    · rw [if_neg (show ¬ (0 ≤ (eN h q 1 : Int) ∧ (eN h q 1 : Int) < tN u) by omega), bd2_some, if_neg (fun z => k1 z.1)]
      exact ⟨false, m, rfl, fun _ _ => rfl, fun u' hu' => (by cases hu'), fun _ => rfl⟩
  · have d2 : dgN (hE h q) = 2 := by rw [c]; rfl
    obtain ⟨l1, x1, g1⟩ := gd1 1 (by omega) (by omega)
    obtain ⟨l2, x2, g2⟩ := gd1 2 (by omega) (by omega)
    have y2 := c2 (q + 1) l2
    have x2' : hE h (q + 1 + 1) = (eN h q 2 : Int) + 48 := x2
    rw [x1, x2', Int.add_sub_cancel, Int.add_sub_cancel, show 10 * (eN h q 1 : Int) + (eN h q 2 : Int) = ((10 * eN h q 1 + eN h q 2 : Nat) : Int) by omega] at y2
    have exE : ex h u q = if 10 * eN h q 1 + eN h q 2 ≤ 30 ∧ tN u < 7 then some (addP u (10 * eN h q 1 + eN h q 2)) else none := by
      unfold ex
      rw [if_neg (by omega), if_neg (by omega), if_neg (by omega), if_pos c]
    rw [if_neg (show ¬ hE h q = ((98 : Nat) : Int) by omega), if_neg (show ¬ hE h q = ((99 : Nat) : Int) by omega), if_neg (show ¬ hE h q = ((103 : Nat) : Int) by omega), if_pos (show hE h q = ((112 : Nat) : Int) from c), inc1, y2, bd_some, exE]
    unfold fX8_personComes
    rw [up30 _ (by omega), bd_some, ite_dec]
    by_cases k1 : 10 * eN h q 1 + eN h q 2 ≤ 30
    · rw [if_pos (show (0 : Int) ≤ ((10 * eN h q 1 + eN h q 2 : Nat) : Int) ∧ ((10 * eN h q 1 + eN h q 2 : Nat) : Int) ≤ 30 by omega), hu.1.1, n7]
      by_cases k2 : tN u < 7
      · obtain ⟨m7, q7, g7, f7⟩ := c_addPerson hu wt (x := 10 * eN h q 1 + eN h q 2) k2
        rw [ltT (by omega), q7, bd2_some, bd2_some, if_pos ⟨k1, k2⟩]
        exact ⟨true, m7, rfl, fun c hc => f7 c (by omega), fun u' hu' => (by cases hu'; exact ⟨rfl, g7⟩), fun z => (by cases z)⟩
      · rw [ltF (by omega), bd2_some, if_neg (fun z => k2 z.2)]
        exact ⟨false, m, rfl, fun _ _ => rfl, fun u' hu' => (by cases hu'), fun _ => rfl⟩
    · rw [if_neg (show ¬ ((0 : Int) ≤ ((10 * eN h q 1 + eN h q 2 : Nat) : Int) ∧ ((10 * eN h q 1 + eN h q 2 : Nat) : Int) ≤ 30) by omega), bd2_some, if_neg (fun z => k1 z.1)]
      exact ⟨false, m, rfl, fun _ _ => rfl, fun u' hu' => (by cases hu'), fun _ => rfl⟩
  · have d1 : dgN (hE h q) = 1 := by rw [c]; rfl
    obtain ⟨l1, x1, g1⟩ := gd1 1 (by omega) (by omega)
    have y1 := cd (q + 1) l1
    rw [x1, Int.add_sub_cancel] at y1
    have exE : ex h u q = if eN h q 1 < tK u ∧ tX u (eN h q 1) = false then some (sX u (upB (tX u) (eN h q 1) true)) else none := by
      unfold ex
      rw [if_neg (by omega), if_neg (by omega), if_neg (by omega), if_neg (by omega), if_neg (by omega)]
    rw [if_neg (show ¬ hE h q = ((98 : Nat) : Int) by omega), if_neg (show ¬ hE h q = ((99 : Nat) : Int) by omega), if_neg (show ¬ hE h q = ((103 : Nat) : Int) by omega), if_neg (show ¬ hE h q = ((112 : Nat) : Int) by omega), if_neg (show ¬ hE h q = ((121 : Nat) : Int) by omega), inc1, y1, bd_some, exE]
    unfold fX8_bandIsCut
    rw [c_isBand hu wt (by omega) (by omega), bd_some, ite_dec]
    by_cases k1 : eN h q 1 < tK u
    · have mb := msk_lt' (tX u) hk
      have p2 : (2 : Nat) ^ (eN h q 1) < 2 ^ 10 := Nat.pow_lt_pow_right (by omega) (by omega)
      have sh : (1 : Int32) <<< (iI (eN h q 1 : Int) &&& 31) = iI ((2 ^ (eN h q 1) : Nat) : Int) := iI_shl (by omega)
      rw [if_pos (show 0 ≤ (eN h q 1 : Int) ∧ (eN h q 1 : Int) < tK u by omega), c_isSnapped hu wt k1, bd_some]
      cases hx : tX u (eN h q 1)
      · rw [itF, hu.1.2.2.1, sh, iI_or (by omega) (by omega), ← msk_upB _ k1, lt_def, bd2_some, if_pos ⟨k1, rfl⟩]
        exact ⟨true, _, rfl, fun c hc => up_oc (by omega), fun u' hu' => (by cases hu'; exact ⟨rfl, CT_snap hu rfl⟩), fun z => (by cases z)⟩
      · rw [itT, bd2_some, if_neg (fun z => absurd z.2 (by decide))]
        exact ⟨false, m, rfl, fun _ _ => rfl, fun u' hu' => (by cases hu'), fun _ => rfl⟩
    · rw [if_neg (show ¬ (0 ≤ (eN h q 1 : Int) ∧ (eN h q 1 : Int) < tK u) by omega), bd2_some, if_neg (fun z => k1 z.1)]
      exact ⟨false, m, rfl, fun _ _ => rfl, fun u' hu' => (by cases hu'), fun _ => rfl⟩
  · have d2 : dgN (hE h q) = 2 := by rw [c]; rfl
    obtain ⟨l1, x1, g1⟩ := gd1 1 (by omega) (by omega)
    obtain ⟨l2, x2, g2⟩ := gd1 2 (by omega) (by omega)
    have y2 := c2 (q + 1) l2
    have x2' : hE h (q + 1 + 1) = (eN h q 2 : Int) + 48 := x2
    rw [x1, x2', Int.add_sub_cancel, Int.add_sub_cancel, show 10 * (eN h q 1 : Int) + (eN h q 2 : Int) = ((10 * eN h q 1 + eN h q 2 : Nat) : Int) by omega] at y2
    have exE : ex h u q = if 1 ≤ 10 * eN h q 1 + eN h q 2 ∧ 10 * eN h q 1 + eN h q 2 ≤ 60 ∧ tY u + (10 * eN h q 1 + eN h q 2) ≤ 999 then some (yrI u (10 * eN h q 1 + eN h q 2)) else none := by
      unfold ex
      rw [if_neg (by omega), if_neg (by omega), if_neg (by omega), if_neg (by omega), if_pos c]
    rw [if_neg (show ¬ hE h q = ((98 : Nat) : Int) by omega), if_neg (show ¬ hE h q = ((99 : Nat) : Int) by omega), if_neg (show ¬ hE h q = ((103 : Nat) : Int) by omega), if_neg (show ¬ hE h q = ((112 : Nat) : Int) by omega), if_pos (show hE h q = ((121 : Nat) : Int) from c), inc1, y2, bd_some, exE]
    obtain ⟨N, hN⟩ : ∃ N, N = 10 * eN h q 1 + eN h q 2 := ⟨_, rfl⟩
    rw [← hN]
    have hY := wu.2.1
    have n60 : (60 : Int32) = iI ((60 : Nat) : Int) := rfl
    have n999 : (999 : Int32) = iI ((999 : Nat) : Int) := rfl
    unfold fX8_yearsPass
    rw [n1]
    by_cases k1 : 1 ≤ N
    · rw [ltF (by omega), n60]
      by_cases k2 : N ≤ 60
      · rw [ltF (by omega), hu.1.2.2.2.2, iN_add, n999]
        by_cases k3 : tY u + N ≤ 999
        · rw [leT (by omega), if_pos ⟨k1, k2, k3⟩]
          have key : ∃ m7, lp (κ := Int32 → pw_Mem → Option (Bool × pw_Mem)) (fun _ _ => none) (fun nx3 v1 m2 => if iI (N : Int) ≤ v1 then some (true, m2) else bd2 (fX7_passYear 13 m2) fun y5 m6 => lt (v1 + iI ((1 : Nat) : Int)) fun x7 => nx3 x7 m6) FU (0 : Int32) m = some (true, m7) ∧ CT m7 13 (yrI u N) ∧ ∀ c, c < 13 ∨ 24 < c → m7 c = m c := by
            refine lpI2 (fun i v (m6 : pw_Mem) => v = iI (i : Nat) ∧ CT m6 13 (yrI u i) ∧ ∀ c, c < 13 ∨ 24 < c → m6 c = m c) (fun r => ∃ m7, r = some (true, m7) ∧ CT m7 13 (yrI u N) ∧ ∀ c, c < 13 ∨ 24 < c → m7 c = m c) N (by omega) ?_ ?_ ⟨rfl, hu, fun _ _ => rfl⟩
            · rintro nx i _ m6 hi ⟨rfl, h6, f6⟩ hnx
              obtain ⟨m7, q7, g7, f7⟩ := c_year h6 (WT_yrI wt i (by omega)) (by have := (yrI_n u i).2.2.1; omega)
              rw [leF (by omega), q7, bd2_some, iN_add, lt_def]
              exact hnx _ _ ⟨rfl, g7, fun c hc => by rw [f7 c (by omega), f6 c hc]⟩
            · rintro nx _ m6 ⟨rfl, h6, f6⟩
              rw [leT (by omega)]
              exact ⟨m6, rfl, h6, f6⟩
          obtain ⟨m7, q7, g7, f7⟩ := key
          rw [q7, bd2_some]
          exact ⟨true, m7, rfl, f7, fun u' hu' => (by cases hu'; exact ⟨rfl, g7⟩), fun z => (by cases z)⟩
        · rw [leF (by omega), bd2_some, if_neg (fun z => k3 z.2.2)]
          exact ⟨false, m, rfl, fun _ _ => rfl, fun u' hu' => (by cases hu'), fun _ => rfl⟩
      · rw [ltT (by omega), bd2_some, if_neg (fun z => k2 z.2.1)]
        exact ⟨false, m, rfl, fun _ _ => rfl, fun u' hu' => (by cases hu'), fun _ => rfl⟩
    · rw [ltT (by omega), bd2_some, if_neg (fun z => k1 z.1)]
      exact ⟨false, m, rfl, fun _ _ => rfl, fun u' hu' => (by cases hu'), fun _ => rfl⟩
-- the reference does it
theorem eI_N {h : ShT} {q : Nat} (hg : GS h q) {j : Nat} (h1 : 1 ≤ j) (hj : j ≤ dgN (hE h q)) : eI h q j = (eN h q j : Int) := by
  obtain ⟨-, x, -⟩ := GS_d hg h1 hj
  unfold eI
  omega
theorem r_exec {m : pw_Mem} {h : ShT} {q : Nat} (hg : GS h q) {u : TT} (hu : RT m 72 u) (wu : WU u) (hN : NM h q m) : ∃ b m', fX11_isDone (iI (hE h q)) m = some (b, m') ∧ (∀ c, c ≠ 72 → c ≠ 76 → m' c = m c) ∧ XR h u q b (RT m' 72) := by
  have wt := wu.1
  have hk := wt.1.2.1
  have h7 := wt.1.1
  obtain ⟨hq, hd⟩ := GS_l hg
  have gd1 := fun j (h1 : 1 ≤ j) (h2 : j ≤ dgN (hE h q)) => (GS_d hg h1 h2).2.2
  have gi := fun j (h1 : 1 ≤ j) (h2 : j ≤ dgN (hE h q)) => eI_N hg h1 h2
  have k0 : m 77 (0 : Int32).toNatClampNeg = m 77 0 := rfl
  have k1' : m 77 (1 : Int32).toNatClampNeg = m 77 1 := rfl
  have k2' : m 77 (2 : Int32).toNatClampNeg = m 77 2 := rfl
  have k3' : m 77 (3 : Int32).toNatClampNeg = m 77 3 := rfl
  have eN' : m 72 (0 : Int32).toNatClampNeg = iI (tN u : Nat) := hu.1.1
  have eK' : m 72 (1 : Int32).toNatClampNeg = iI (tK u : Nat) := hu.1.2.1
  have eY' : m 72 (2 : Int32).toNatClampNeg = iI (tY u : Nat) := hu.1.2.2.1
  have lr : -2147483648 ≤ hE h q ∧ hE h q < 2147483648 := by
    rcases letters hd with c | c | c | c | c | c <;> omega
  unfold XR fX11_isDone
  rw [gd_true (by decide), lt_def, eqL (k := 98) lr (by omega), eqL (k := 99) lr (by omega), eqL (k := 103) lr (by omega), eqL (k := 112) lr (by omega), eqL (k := 121) lr (by omega), k0]
  rcases letters hd with c | c | c | c | c | c
  · have d4 : dgN (hE h q) = 4 := by rw [c]; rfl
    obtain ⟨a1, a2, a3, a4⟩ := hN.1 c
    rw [gi 1 (by omega) (by omega)] at a1
    rw [gi 2 (by omega) (by omega)] at a2
    rw [gi 3 (by omega) (by omega)] at a3
    rw [gi 4 (by omega) (by omega)] at a4
    have g1 := gd1 1 (by omega) (by omega)
    have g2 := gd1 2 (by omega) (by omega)
    have g3 := gd1 3 (by omega) (by omega)
    have g4 := gd1 4 (by omega) (by omega)
    have exE : ex h u q = if eN h q 1 ≤ 7 ∧ eN h q 3 < tN u ∧ eN h q 4 < tN u ∧ eN h q 3 ≠ eN h q 4 ∧ tK u < 10 then some (tryT (addB u (eN h q 1) (eN h q 2) (eN h q 3) (eN h q 4))) else none := by
      unfold ex
      rw [if_pos c]
    rw [if_pos (show hE h q = ((98 : Nat) : Int) from c), a1, n8, exE]
    by_cases k1 : eN h q 1 ≤ 7
    · rw [leF (by omega), gd_true (by decide), gd_true (by decide), k2', k3', a3, a4, r_areTwo hu wt (by omega) (by omega) (by omega) (by omega), bd_some, ite_dec]
      by_cases k2 : eN h q 3 < tN u ∧ eN h q 4 < tN u ∧ eN h q 3 ≠ eN h q 4
      · rw [if_pos (show (0 ≤ (eN h q 3 : Int) ∧ (eN h q 3 : Int) < tN u) ∧ (0 ≤ (eN h q 4 : Int) ∧ (eN h q 4 : Int) < tN u) ∧ (eN h q 3 : Int) ≠ (eN h q 4 : Int) by omega), gd_true (by decide), eK', n10]
        by_cases k3 : tK u < 10
        · obtain ⟨m7, q7, g7, f7⟩ := r_adds hu wt k1 g2 k2.1 k2.2.1 k2.2.2 k3
          rw [eqF (by omega), gd_true (by decide), gd_true (by decide), gd_true (by decide), k1', a2, q7, bd_some, if_pos ⟨k1, k2.1, k2.2.1, k2.2.2, k3⟩]
          exact ⟨true, m7, rfl, fun c hc _ => f7 c hc, fun u' hu' => (by cases hu'; exact ⟨rfl, g7⟩), fun z => (by cases z)⟩
        · rw [eqT (by omega), if_neg (fun z => k3 z.2.2.2.2)]
          exact ⟨false, m, rfl, fun _ _ _ => rfl, fun u' hu' => (by cases hu'), fun _ => rfl⟩
      · rw [if_neg (show ¬ ((0 ≤ (eN h q 3 : Int) ∧ (eN h q 3 : Int) < tN u) ∧ (0 ≤ (eN h q 4 : Int) ∧ (eN h q 4 : Int) < tN u) ∧ (eN h q 3 : Int) ≠ (eN h q 4 : Int)) by omega), if_neg (fun z => k2 ⟨z.2.1, z.2.2.1, z.2.2.2.1⟩)]
        exact ⟨false, m, rfl, fun _ _ _ => rfl, fun u' hu' => (by cases hu'), fun _ => rfl⟩
    · rw [leT (by omega), if_neg (fun z => k1 z.1)]
      exact ⟨false, m, rfl, fun _ _ _ => rfl, fun u' hu' => (by cases hu'), fun _ => rfl⟩
  · have d1 : dgN (hE h q) = 1 := by rw [c]; rfl
    have a1 := hN.2.2.2 (Or.inl c)
    rw [gi 1 (by omega) (by omega)] at a1
    have g1 := gd1 1 (by omega) (by omega)
    have exE : ex h u q = some (tryT (sC u (eN h q 1))) := by
      unfold ex
      rw [if_neg (by omega), if_pos c]
    have e3 : (3 : Int32).toNatClampNeg = 3 := rfl
    obtain ⟨m7, q7, g7, f7⟩ := r_tries (RT_cold (v := eN h q 1) hu) (WT_C wt g1)
    rw [if_neg (show ¬ hE h q = ((98 : Nat) : Int) by omega), if_pos (show hE h q = ((99 : Nat) : Int) from c), a1, gd_true (by decide), lt_def, e3, q7, bd2_some, exE]
    exact ⟨true, m7, rfl, fun c hc _ => by rw [f7 c hc, up_oc hc], fun u' hu' => (by cases hu'; exact ⟨rfl, g7⟩), fun z => (by cases z)⟩
  · have d3 : dgN (hE h q) = 3 := by rw [c]; rfl
    obtain ⟨a1, a2⟩ := hN.2.1 c
    rw [gi 1 (by omega) (by omega)] at a1
    rw [gi 2 (by omega) (by omega), gi 3 (by omega) (by omega), show 10 * (eN h q 2 : Int) + (eN h q 3 : Int) = ((10 * eN h q 2 + eN h q 3 : Nat) : Int) by omega] at a2
    have g1 := gd1 1 (by omega) (by omega)
    have g2 := gd1 2 (by omega) (by omega)
    have g3 := gd1 3 (by omega) (by omega)
    have exE : ex h u q = if eN h q 1 < tN u ∧ 10 * eN h q 2 + eN h q 3 ≤ 30 then some (tryT (sP u (up1 (tP u) (eN h q 1) (10 * eN h q 2 + eN h q 3)))) else none := by
      unfold ex
      rw [if_neg (by omega), if_neg (by omega), if_pos c]
    rw [if_neg (show ¬ hE h q = ((98 : Nat) : Int) by omega), if_neg (show ¬ hE h q = ((99 : Nat) : Int) by omega), if_pos (show hE h q = ((103 : Nat) : Int) from c), a1, r_isPerson hu wt (by omega) (by omega), bd_some, ite_dec, exE]
    by_cases k1 : eN h q 1 < tN u
    · rw [if_pos (show 0 ≤ (eN h q 1 : Int) ∧ (eN h q 1 : Int) < tN u by omega), gd_true (by decide), k1', a2, r_isPlace _ (by omega) (by omega), bd_some, ite_dec]
      by_cases k2 : 10 * eN h q 2 + eN h q 3 ≤ 30
      · obtain ⟨m7, q7, g7, f7⟩ := r_goesTo hu wt k1 k2
        rw [if_pos (show (0 : Int) ≤ ((10 * eN h q 2 + eN h q 3 : Nat) : Int) ∧ ((10 * eN h q 2 + eN h q 3 : Nat) : Int) ≤ 30 by omega), gd_true (by decide), q7, bd2_some, if_pos ⟨k1, k2⟩]
        exact ⟨true, m7, rfl, fun c hc _ => f7 c hc, fun u' hu' => (by cases hu'; exact ⟨rfl, g7⟩), fun z => (by cases z)⟩
      · rw [if_neg (show ¬ ((0 : Int) ≤ ((10 * eN h q 2 + eN h q 3 : Nat) : Int) ∧ ((10 * eN h q 2 + eN h q 3 : Nat) : Int) ≤ 30) by omega), if_neg (fun z => k2 z.2)]
        exact ⟨false, m, rfl, fun _ _ _ => rfl, fun u' hu' => (by cases hu'), fun _ => rfl⟩
    · rw [if_neg (show ¬ (0 ≤ (eN h q 1 : Int) ∧ (eN h q 1 : Int) < tN u) by omega), if_neg (fun z => k1 z.1)]
      exact ⟨false, m, rfl, fun _ _ _ => rfl, fun u' hu' => (by cases hu'), fun _ => rfl⟩
  · have d2 : dgN (hE h q) = 2 := by rw [c]; rfl
    have a1 := hN.2.2.1 (Or.inl c)
    rw [gi 1 (by omega) (by omega), gi 2 (by omega) (by omega), show 10 * (eN h q 1 : Int) + (eN h q 2 : Int) = ((10 * eN h q 1 + eN h q 2 : Nat) : Int) by omega] at a1
    have g1 := gd1 1 (by omega) (by omega)
    have g2 := gd1 2 (by omega) (by omega)
    have exE : ex h u q = if 10 * eN h q 1 + eN h q 2 ≤ 30 ∧ tN u < 7 then some (addP u (10 * eN h q 1 + eN h q 2)) else none := by
      unfold ex
      rw [if_neg (by omega), if_neg (by omega), if_neg (by omega), if_pos c]
    rw [if_neg (show ¬ hE h q = ((98 : Nat) : Int) by omega), if_neg (show ¬ hE h q = ((99 : Nat) : Int) by omega), if_neg (show ¬ hE h q = ((103 : Nat) : Int) by omega), if_pos (show hE h q = ((112 : Nat) : Int) from c), a1, r_isPlace _ (by omega) (by omega), bd_some, ite_dec, exE]
    by_cases k1 : 10 * eN h q 1 + eN h q 2 ≤ 30
    · rw [if_pos (show (0 : Int) ≤ ((10 * eN h q 1 + eN h q 2 : Nat) : Int) ∧ ((10 * eN h q 1 + eN h q 2 : Nat) : Int) ≤ 30 by omega), gd_true (by decide), eN', n7]
      by_cases k2 : tN u < 7
      · obtain ⟨m7, q7, g7, f7⟩ := r_addsPerson hu wt (x := 10 * eN h q 1 + eN h q 2) k2
        rw [eqF (by omega), q7, bd_some, if_pos ⟨k1, k2⟩]
        exact ⟨true, m7, rfl, fun c hc _ => f7 c hc, fun u' hu' => (by cases hu'; exact ⟨rfl, g7⟩), fun z => (by cases z)⟩
      · rw [eqT (by omega), if_neg (fun z => k2 z.2)]
        exact ⟨false, m, rfl, fun _ _ _ => rfl, fun u' hu' => (by cases hu'), fun _ => rfl⟩
    · rw [if_neg (show ¬ ((0 : Int) ≤ ((10 * eN h q 1 + eN h q 2 : Nat) : Int) ∧ ((10 * eN h q 1 + eN h q 2 : Nat) : Int) ≤ 30) by omega), if_neg (fun z => k1 z.1)]
      exact ⟨false, m, rfl, fun _ _ _ => rfl, fun u' hu' => (by cases hu'), fun _ => rfl⟩
  · have d1 : dgN (hE h q) = 1 := by rw [c]; rfl
    have a1 := hN.2.2.2 (Or.inr c)
    rw [gi 1 (by omega) (by omega)] at a1
    have g1 := gd1 1 (by omega) (by omega)
    have exE : ex h u q = if eN h q 1 < tK u ∧ tX u (eN h q 1) = false then some (sX u (upB (tX u) (eN h q 1) true)) else none := by
      unfold ex
      rw [if_neg (by omega), if_neg (by omega), if_neg (by omega), if_neg (by omega), if_neg (by omega)]
    rw [if_neg (show ¬ hE h q = ((98 : Nat) : Int) by omega), if_neg (show ¬ hE h q = ((99 : Nat) : Int) by omega), if_neg (show ¬ hE h q = ((103 : Nat) : Int) by omega), if_neg (show ¬ hE h q = ((112 : Nat) : Int) by omega), if_neg (show ¬ hE h q = ((121 : Nat) : Int) by omega), a1, r_isBand hu wt (by omega) (by omega), bd_some, ite_dec, exE]
    by_cases k1 : eN h q 1 < tK u
    · have of5 : fX11_of (iI (eN h q 1 : Int)) 5 m = some (iI ((18 + 6 * eN h q 1 + 5 : Nat) : Int)) := r_of _ 5 m
      rw [if_pos (show 0 ≤ (eN h q 1 : Int) ∧ (eN h q 1 : Int) < tK u by omega), r_isWhole hu wt k1, bd_some]
      cases hx : tX u (eN h q 1)
      · have sn := RT_snap (v := true) hu k1 hk h7
        rw [if_pos (by rfl), of5, bd_some, gdN (by omega), lt_def, clN (by omega), if_pos ⟨k1, rfl⟩]
        exact ⟨true, _, rfl, fun c hc _ => up_oc hc, fun u' hu' => (by cases hu'; exact ⟨rfl, sn⟩), fun z => (by cases z)⟩
      · rw [if_neg (by decide), if_neg (fun z => absurd z.2 (by decide))]
        exact ⟨false, m, rfl, fun _ _ _ => rfl, fun u' hu' => (by cases hu'), fun _ => rfl⟩
    · rw [if_neg (show ¬ (0 ≤ (eN h q 1 : Int) ∧ (eN h q 1 : Int) < tK u) by omega), if_neg (fun z => k1 z.1)]
      exact ⟨false, m, rfl, fun _ _ _ => rfl, fun u' hu' => (by cases hu'), fun _ => rfl⟩
  · have d2 : dgN (hE h q) = 2 := by rw [c]; rfl
    have a1 := hN.2.2.1 (Or.inr c)
    rw [gi 1 (by omega) (by omega), gi 2 (by omega) (by omega), show 10 * (eN h q 1 : Int) + (eN h q 2 : Int) = ((10 * eN h q 1 + eN h q 2 : Nat) : Int) by omega] at a1
    have g1 := gd1 1 (by omega) (by omega)
    have g2 := gd1 2 (by omega) (by omega)
    have exE : ex h u q = if 1 ≤ 10 * eN h q 1 + eN h q 2 ∧ 10 * eN h q 1 + eN h q 2 ≤ 60 ∧ tY u + (10 * eN h q 1 + eN h q 2) ≤ 999 then some (yrI u (10 * eN h q 1 + eN h q 2)) else none := by
      unfold ex
      rw [if_neg (by omega), if_neg (by omega), if_neg (by omega), if_neg (by omega), if_pos c]
    obtain ⟨N, hN'⟩ : ∃ N, N = 10 * eN h q 1 + eN h q 2 := ⟨_, rfl⟩
    rw [← hN'] at a1 exE
    have hY := wu.2.1
    have n999 : (999 : Int32) = iI ((999 : Nat) : Int) := rfl
    have i60 : fX11_isIn (iI (N : Int)) 1 60 m = some (decide (1 ≤ (N : Int) ∧ (N : Int) ≤ 60)) := by
      rw [show (1 : Int32) = iI 1 from rfl, show (60 : Int32) = iI 60 from rfl]
      exact r_isIn N 1 60 m (by omega) (by omega) (by omega)
    rw [if_neg (show ¬ hE h q = ((98 : Nat) : Int) by omega), if_neg (show ¬ hE h q = ((99 : Nat) : Int) by omega), if_neg (show ¬ hE h q = ((103 : Nat) : Int) by omega), if_neg (show ¬ hE h q = ((112 : Nat) : Int) by omega), if_pos (show hE h q = ((121 : Nat) : Int) from c), a1, i60, bd_some, ite_dec, exE]
    by_cases k12 : 1 ≤ N ∧ N ≤ 60
    · rw [if_pos (show 1 ≤ (N : Int) ∧ (N : Int) ≤ 60 by omega), gd_true (by decide), eY', iN_add, n999]
      by_cases k3 : tY u + N ≤ 999
      · rw [leT (by omega), if_pos ⟨k12.1, k12.2, k3⟩]
        have key : ∃ m7, lp (κ := Int32 → Int32 → pw_Mem → Option (Bool × pw_Mem)) (fun _ _ _ => none) (fun nx35 v32 v33 m34 => if iI (N : Int) ≤ v33 then some (true, m34) else bd2 (fX11_year 72 m34) fun y37 m38 => lt (v32 ||| y37) fun x39 => lt (v33 + (1 : Int32)) fun x40 => nx35 x39 x40 m38) FU (0 : Int32) (0 : Int32) m = some (true, m7) ∧ RT m7 72 (yrI u N) ∧ ∀ c, c ≠ 72 → c ≠ 76 → m7 c = m c := by
          refine lpI3 (fun i _ v (m6 : pw_Mem) => v = iI (i : Nat) ∧ RT m6 72 (yrI u i) ∧ ∀ c, c ≠ 72 → c ≠ 76 → m6 c = m c) (fun r => ∃ m7, r = some (true, m7) ∧ RT m7 72 (yrI u N) ∧ ∀ c, c ≠ 72 → c ≠ 76 → m7 c = m c) N (by omega) ?_ ?_ ⟨rfl, hu, fun _ _ _ => rfl⟩
          · rintro nx i v0 _ m6 hi ⟨rfl, h6, f6⟩ hnx
            obtain ⟨m7, q7, g7, f7⟩ := r_year h6 (WT_yrI wt i (by omega)) (by have := (yrI_n u i).2.2.1; omega) (by decide)
            rw [leF (by omega), q7, bd2_some, lt_def, lt_def, inc1]
            exact hnx _ _ _ ⟨rfl, g7, fun c h1 h2 => by rw [f7 c h1 h2, f6 c h1 h2]⟩
          · rintro nx v0 _ m6 ⟨rfl, h6, f6⟩
            rw [leT (by omega)]
            exact ⟨m6, rfl, h6, f6⟩
        obtain ⟨m7, q7, g7, f7⟩ := key
        rw [q7]
        exact ⟨true, m7, rfl, f7, fun u' hu' => (by cases hu'; exact ⟨rfl, g7⟩), fun z => (by cases z)⟩
      · rw [leF (by omega), if_neg (fun z => k3 z.2.2)]
        exact ⟨false, m, rfl, fun _ _ _ => rfl, fun u' hu' => (by cases hu'), fun _ => rfl⟩
    · rw [if_neg (show ¬ (1 ≤ (N : Int) ∧ (N : Int) ≤ 60) by omega), if_neg (fun z => k12 ⟨z.1, z.2.1⟩)]
      exact ⟨false, m, rfl, fun _ _ _ => rfl, fun u' hu' => (by cases hu'), fun _ => rfl⟩
