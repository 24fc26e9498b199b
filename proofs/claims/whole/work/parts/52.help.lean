/-! HELPERS: conditions by one omega, masks, elements of rows -/
set_option maxRecDepth 100000
theorem leT {τ : Type} {a b : Int} {hd : Decidable (iI a ≤ iI b)} {x y : τ} (h : (-2147483648 ≤ a ∧ a < 2147483648) ∧ (-2147483648 ≤ b ∧ b < 2147483648) ∧ a ≤ b) : @ite τ (iI a ≤ iI b) hd x y = x := if_pos ((iI_le h.1.1 h.1.2 h.2.1.1 h.2.1.2).mpr h.2.2)
theorem leF {τ : Type} {a b : Int} {hd : Decidable (iI a ≤ iI b)} {x y : τ} (h : (-2147483648 ≤ a ∧ a < 2147483648) ∧ (-2147483648 ≤ b ∧ b < 2147483648) ∧ b < a) : @ite τ (iI a ≤ iI b) hd x y = y := if_neg (fun q => by
  have := (iI_le h.1.1 h.1.2 h.2.1.1 h.2.1.2).mp q
  omega)
theorem ltT {τ : Type} {a b : Int} {hd : Decidable (iI a < iI b)} {x y : τ} (h : (-2147483648 ≤ a ∧ a < 2147483648) ∧ (-2147483648 ≤ b ∧ b < 2147483648) ∧ a < b) : @ite τ (iI a < iI b) hd x y = x := if_pos ((iI_lt h.1.1 h.1.2 h.2.1.1 h.2.1.2).mpr h.2.2)
theorem ltF {τ : Type} {a b : Int} {hd : Decidable (iI a < iI b)} {x y : τ} (h : (-2147483648 ≤ a ∧ a < 2147483648) ∧ (-2147483648 ≤ b ∧ b < 2147483648) ∧ b ≤ a) : @ite τ (iI a < iI b) hd x y = y := if_neg (fun q => by
  have := (iI_lt h.1.1 h.1.2 h.2.1.1 h.2.1.2).mp q
  omega)
theorem eqT {τ : Type} {a b : Int} {hd : Decidable (iI a = iI b)} {x y : τ} (h : a = b) : @ite τ (iI a = iI b) hd x y = x := if_pos (congrArg iI h)
theorem eqF {τ : Type} {a b : Int} {hd : Decidable (iI a = iI b)} {x y : τ} (h : (-2147483648 ≤ a ∧ a < 2147483648) ∧ (-2147483648 ≤ b ∧ b < 2147483648) ∧ a ≠ b) : @ite τ (iI a = iI b) hd x y = y := if_neg (fun q => h.2.2 ((iI_eq h.1.1 h.1.2 h.2.1.1 h.2.1.2).mp q))
theorem itT {τ : Type} {hd : Decidable (true = true)} {x y : τ} : @ite τ (true = true) hd x y = x := if_pos rfl
theorem itF {τ : Type} {hd : Decidable (false = true)} {x y : τ} : @ite τ (false = true) hd x y = y := if_neg Bool.false_ne_true
theorem gdN {τ : Type} {n k : Nat} {x : Option τ} (h : n < k ∧ k < 100000) : gd (ix (iI (n : Int)) k) x = x := gd_ix (by omega) (by omega) (by omega)
theorem clN {n : Nat} (h : n < 2147483648) : (iI (n : Int)).toNatClampNeg = n := iI_clN h
theorem n0 : (0 : Int32) = iI ((0 : Nat) : Int) := rfl
theorem n1 : (1 : Int32) = iI ((1 : Nat) : Int) := rfl
theorem n2 : (2 : Int32) = iI ((2 : Nat) : Int) := rfl
theorem n3 : (3 : Int32) = iI ((3 : Nat) : Int) := rfl
theorem n4 : (4 : Int32) = iI ((4 : Nat) : Int) := rfl
theorem n5 : (5 : Int32) = iI ((5 : Nat) : Int) := rfl
theorem n7 : (7 : Int32) = iI ((7 : Nat) : Int) := rfl
theorem n8 : (8 : Int32) = iI ((8 : Nat) : Int) := rfl
theorem n10 : (10 : Int32) = iI ((10 : Nat) : Int) := rfl
theorem n100 : (100 : Int32) = iI ((100 : Nat) : Int) := rfl
theorem inc1 (i : Nat) : iI (i : Int) + 1 = iI ((i + 1 : Nat) : Int) := iN_add i 1
theorem mskT {P : Nat → Bool} {i : Nat} (h : P i = true) (hi : i < 30) : iI ((msk P i : Nat) : Int) ||| ((1 : Int32) <<< (iI (i : Int) &&& 31)) = iI ((msk P (i + 1) : Nat) : Int) := by
  rw [msk_s, if_pos h]
  exact mskor P hi
theorem mskK {P : Nat → Bool} {i : Nat} (h : P i = false) : msk P (i + 1) = msk P i := by
  rw [msk_s, if_neg (by rw [h]; decide)]
theorem mskF {P : Nat → Bool} {i : Nat} (h : P i = false) (hi : i < 30) : iI ((msk P i : Nat) : Int) ||| 0 = iI ((msk P (i + 1) : Nat) : Int) := by
  have h1 := msk_lt P i
  have h2 : (2 : Nat) ^ i ≤ 2 ^ 29 := Nat.pow_le_pow_right (by omega) (by omega)
  have : iI ((msk P i : Nat) : Int) ||| 0 = iI ((msk P i ||| 0 : Nat) : Int) := iI_or (b := 0) (by omega) (by decide)
  rw [this, Nat.or_zero, mskK h]
-- a row of the reference
theorem r_el {m : pw_Mem} {s : SS} (h : MS m s) (w : WS s) {n : Nat} (hn : n < 8) (hh : hH (s.2.2 n) = 2) {j : Nat} (hj : j < hL (s.2.2 n)) : (100 : Int32) * iI (n : Int) + iI (j : Int) = iI ((100 * n + j : Nat) : Int) ∧ m 85 (iI ((100 * n + j : Nat) : Int)).toNatClampNeg = iI (hE (s.2.2 n) j) ∧ (-2147483648 ≤ hE (s.2.2 n) j ∧ hE (s.2.2 n) j < 2147483648) ∧ 100 * n + j < 800 := by
  obtain ⟨e4, e5, e6⟩ := (h.2.2.2 n hn).2.2 hh
  obtain ⟨w3, wL, wE⟩ := (w.2.2 n hn).2.2 hh
  refine ⟨?_, ?_, (wE j hj).1, by omega⟩
  · have : (100 : Int32) * iI (n : Int) = iI ((100 * n : Nat) : Int) := iN_mul 100 n
    rw [this, iN_add]
  · rw [iI_clN (by omega)]
    exact e6 j hj
theorem r_rw {m : pw_Mem} {s : SS} (h : MS m s) (w : WS s) {n : Nat} (hn : n < 8) (hh : hH (s.2.2 n) = 2) : m 84 (iI (n : Int)).toNatClampNeg = iI (hL (s.2.2 n) : Nat) ∧ m 83 (iI (n : Int)).toNatClampNeg = iI (hS (s.2.2 n) : Nat) ∧ hL (s.2.2 n) ≤ 100 ∧ hS (s.2.2 n) ≤ 2 := by
  obtain ⟨e4, e5, e6⟩ := (h.2.2.2 n hn).2.2 hh
  obtain ⟨w3, wL, wE⟩ := (w.2.2 n hn).2.2 hh
  rw [iI_clN (by omega)]
  exact ⟨e5, e4, wL, w3⟩
theorem c_rw {m : pw_Mem} {s : SS} (h : CS m s) {n : Nat} (hn : n < 8) (hh : hH (s.2.2 n) = 2) : m (55 + 2 * n) 5 = iI (hL (s.2.2 n) : Nat) ∧ m (55 + 2 * n) 4 = iI (hS (s.2.2 n) : Nat) := by
  obtain ⟨e4, e5, e6⟩ := (h.2.2.2 n hn).2.2 hh
  exact ⟨e5, e4⟩
theorem r_wr1 {m : pw_Mem} {s : SS} (h : MS m s) (w : WS s) {z : Int} (h1 : -2147483648 ≤ z) (h2 : z < 2147483648) : fX11_wrongRow (iI z) (-1) m = some (iI (noRow s z (-1))) := by
  rw [em1]
  exact r_wrongRow h w h1 h2 (by omega) (by omega)
theorem r_wr0 {m : pw_Mem} {s : SS} (h : MS m s) (w : WS s) {z : Int} (h1 : -2147483648 ≤ z) (h2 : z < 2147483648) : fX11_wrongRow (iI z) 0 m = some (iI (noRow s z 0)) := by
  rw [n0]
  exact r_wrongRow h w h1 h2 (by omega) (by omega)
theorem sgT : (1 : Int32) = iI (sgn true) := rfl
theorem sgF : (-1 : Int32) = iI (sgn false) := rfl
theorem cl55 {n : Nat} (h : n < 8) : 55 + 2 * (iI (n : Int)).toNatClampNeg = 55 + 2 * n := by rw [iI_clN (by omega)]
