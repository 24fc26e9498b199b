/-! ROWS: what an element is, which are skipped -/
set_option maxRecDepth 100000
def lst (S : Nat) : Int := if S = 0 then -128 else if S = 1 then -32768 else -2147483648
theorem lst_b (S : Nat) : -2147483648 ≤ lst S ∧ lst S ≤ 0 := by
  unfold lst
  split
  · omega
  · split <;> omega
theorem c_at {m : pw_Mem} {s : SS} (h : CS m s) (w : WS s) {n : Nat} (hn : n < 8) (hh : hH (s.2.2 n) = 2) {i : Nat} (hi : i < hL (s.2.2 n)) : fX5_at (55 + 2 * n) (iI i) m = some (iI (hE (s.2.2 n) i)) := by
  obtain ⟨e4, e5, e6⟩ := (h.2.2.2 n hn).2.2 hh
  obtain ⟨w3, wL, wE⟩ := (w.2.2 n hn).2.2 hh
  have ei : (iI (i : Int)).toNatClampNeg = i := iI_clN (by omega)
  unfold fX5_at fX5_hasPlace
  rw [if_neg (NL (by omega) (by omega) (by omega)), e5, if_neg (by rw [iI_le (by omega) (by omega) (by omega) (by omega)]; omega), bd_some, if_pos rfl, gd_ix (by omega) (by omega) (by omega), ei, e6 i hi]
theorem c_skip {m : pw_Mem} {s : SS} (h : CS m s) (w : WS s) {n : Nat} (hn : n < 8) (hh : hH (s.2.2 n) = 2) {i : Nat} (hi : i < hL (s.2.2 n)) : fX5_isSkipped (55 + 2 * n) (iI i) m = some (decide (hE (s.2.2 n) i = lst (hS (s.2.2 n)))) := by
  obtain ⟨e4, e5, e6⟩ := (h.2.2.2 n hn).2.2 hh
  obtain ⟨w3, wL, wE⟩ := (w.2.2 n hn).2.2 hh
  have we := (wE i hi).1
  have key : ∀ v : Int, -2147483648 ≤ v → v ≤ 0 → (if iI (hE (s.2.2 n) i) = iI v then some true else some false) = some (decide (hE (s.2.2 n) i = v)) := by
    intro v v1 v2
    rw [if_eq (by omega) (by omega) (by omega) (by omega)]
    by_cases c : hE (s.2.2 n) i = v
    · rw [if_pos c, decide_eq_true c]
    · rw [if_neg c, decide_eq_false c]
  unfold fX5_isSkipped
  rw [jn_def, e4]
  rcases (show hS (s.2.2 n) = 0 ∨ hS (s.2.2 n) = 1 ∨ hS (s.2.2 n) = 2 by omega) with q | q | q
  · rw [q, if_pos (by rfl), c_at h w hn hh hi]
    exact key (-128) (by omega) (by omega)
  · rw [q, if_neg (by decide), if_pos (by rfl), c_at h w hn hh hi]
    exact key (-32768) (by omega) (by omega)
  · rw [q, if_neg (by decide), if_neg (by decide), c_at h w hn hh hi]
    exact key (-2147483648) (by omega) (by omega)
theorem r_leastOf (S : Nat) (m : pw_Mem) (h : S ≤ 2) : fX11_leastOf (iI S) m = some (iI (lst S)) := by
  unfold fX11_leastOf
  rcases (show S = 0 ∨ S = 1 ∨ S = 2 by omega) with q | q | q
  · rw [q, if_pos (by rfl)]
    rfl
  · rw [q, if_neg (by decide), if_pos (by rfl)]
    rfl
  · rw [q, if_neg (by decide), if_neg (by decide)]
    rfl
