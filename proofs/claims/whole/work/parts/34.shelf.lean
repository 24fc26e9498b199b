/-! CALLS: keep, row, put, copy -/
set_option maxRecDepth 100000
def upS (f : Nat → ShT) (k : Nat) (v : ShT) : Nat → ShT := fun j => if j = k then v else f j
theorem upS_eq (f : Nat → ShT) (k : Nat) (v : ShT) : upS f k v k = v := if_pos rfl
theorem upS_ne {f : Nat → ShT} {k j : Nat} {v : ShT} (h : j ≠ k) : upS f k v j = f j := if_neg h
/-- a call that changes one shelf alone, seen from both sides -/
theorem op_shelf {α : Type} {m : pw_Mem} {f g : pw_Mem → Option (α × pw_Mem)} {s : SS} (hC : CS m s) (hM : MS m s) (w : WS s) {r : α} {d : Nat} (hd : d < 8) {h : ShT} (wh : WSh h)
    (hc : ∃ m1, f m = some (r, m1) ∧ CSh m1 d h ∧ ∀ c, c ≠ 55 + 2 * d → c ≠ 55 + 2 * d + 1 → m1 c = m c)
    (hm : ∀ m1, MS m1 s → ∃ m2, g m1 = some (r, m2) ∧ MSh m2 d h ∧ (∀ q, q < 8 → q ≠ d → MSh m2 q (s.2.2 q)) ∧ ∀ c, c < 80 ∨ 85 < c → m2 c = m1 c) : OpWW f g m := by
  obtain ⟨m1, q1, g1, f1⟩ := hc
  have hM1 : MS m1 s := MS_c hM (fun c hc => f1 c (by omega) (by omega))
  obtain ⟨m2, q2, g2, g3, f2⟩ := hm m1 hM1
  refine ⟨r, m1, m2, q1, q2, (s.1, s.2.1, upS s.2.2 d h), ⟨?_, ?_, ?_, ?_⟩, ⟨?_, ?_, ?_, ?_⟩, w.1, w.2.1, ?_⟩
  · exact CT_frame hC.1 (fun c h1 h2 => by rw [f2 c (by omega), f1 c (by omega) (by omega)])
  · rw [f2 0 (by omega), f1 0 (by omega) (by omega)]
    exact hC.2.1
  · intro ti hti
    exact CT_frame (hC.2.2.1 ti hti) (fun c h1 h2 => by rw [f2 c (by omega), f1 c (by omega) (by omega)])
  · intro q hq
    show CSh m2 q (upS s.2.2 d h q)
    by_cases e : q = d
    · subst e
      rw [upS_eq]
      exact CSh_f g1 (f2 _ (by omega)) (f2 _ (by omega))
    · rw [upS_ne e]
      exact CSh_f (hC.2.2.2 q hq) (by rw [f2 _ (by omega), f1 _ (by omega) (by omega)]) (by rw [f2 _ (by omega), f1 _ (by omega) (by omega)])
  · exact RT_frame hM1.1 (f2 72 (by omega))
  · rw [f2 71 (by omega)]
    exact hM1.2.1
  · intro ti hti
    exact RT_frame (hM1.2.2.1 ti hti) (f2 74 (by omega))
  · intro q hq
    show MSh m2 q (upS s.2.2 d h q)
    by_cases e : q = d
    · subst e
      rw [upS_eq]
      exact g2
    · rw [upS_ne e]
      exact g3 q hq e
  · intro q hq
    show WSh (upS s.2.2 d h q)
    by_cases e : q = d
    · subst e
      rw [upS_eq]
      exact wh
    · rw [upS_ne e]
      exact w.2.2 q hq
theorem op_keep {m : pw_Mem} (hs : Sim m) (a1 a2 a3 a4 : Int32) : OpWW (fX10_keep a1 a2 a3 a4) (fX11_keep a1 a2 a3 a4) m := by
  have hs0 := hs
  obtain ⟨s, hC, hM, w⟩ := hs
  obtain ⟨d, rfl, h1, h2⟩ := rg a1
  obtain ⟨x, rfl, h3, h4⟩ := rg a2
  obtain ⟨y, rfl, h5, h6⟩ := rg a3
  obtain ⟨z, rfl, h7, h8⟩ := rg a4
  by_cases c1 : (0 ≤ d ∧ d < 8) ∧ (x = 0 ∨ (x = 1 ∧ (0 ≤ y ∧ y ≤ 7) ∧ (0 ≤ z ∧ z ≤ 9)))
  · obtain ⟨⟨d0, d8⟩, cx⟩ := c1
    obtain ⟨n, rfl⟩ := Int.eq_ofNat_of_zero_le d0
    have hd : n < 8 := by omega
    rcases cx with rfl | ⟨rfl, cy, cz⟩
    · refine op_shelf hC hM w (r := 0) hd (h := (0, 0, 0, 0, 0, fun _ => 0)) ⟨by decide, fun e => absurd e (by decide), fun e => absurd e (by decide)⟩ ?_ ?_
      · refine ⟨pw_up m (55 + 2 * n) 1 (iI ((0 : Nat) : Int)), ?_, ⟨?_, fun e => absurd e (by decide), fun e => absurd e (by decide)⟩, fun c h _ => up_oc h⟩
        · unfold fX10_keep
          simp (disch := omega) only [iN_lit, c_isShelf, c_isUpTo, bd_some, ite_dec, gd_ix, iI_clN, iI_eq, lt_def]
          rw [if_pos (by omega), if_pos (by omega), if_pos (by omega)]
        · rw [up_eq]
          rfl
      · intro m1 hM1
        refine ⟨pw_up (pw_up (pw_up m1 80 n (iI ((0 : Nat) : Int))) 81 n (iI y)) 82 n (iI z), ?_, ⟨?_, fun e => absurd e (by decide), fun e => absurd e (by decide)⟩, fun q hq e => ?_, fun c hc => by rw [up_oc (by omega), up_oc (by omega), up_oc (by omega)]⟩
        · unfold fX11_keep
          simp (disch := omega) only [iN_lit, r_isShelf, r_isIn, bd_some, ite_dec, gd_ix, iI_clN, iI_eq, lt_def, jn_def]
          rw [if_pos (by omega), if_pos (by omega), if_neg (by omega)]
          rfl
        · rw [up_o (by omega), up_o (by omega), up_eq]
          rfl
        · have := hM1.2.2.2 q hq
          unfold MSh at this ⊢
          simp (disch := omega) only [up_ne, up_o]
          exact this
    · obtain ⟨ky, rfl⟩ := Int.eq_ofNat_of_zero_le cy.1
      obtain ⟨kz, rfl⟩ := Int.eq_ofNat_of_zero_le cz.1
      refine op_shelf hC hM w (r := 0) hd (h := (1, ky, kz, 0, 0, fun _ => 0)) ⟨by show 1 ≤ 2; omega, fun _ => ⟨by show ky ≤ 7; omega, by show kz ≤ 9; omega⟩, fun e => absurd (show (1 : Nat) = 2 from e) (by decide)⟩ ?_ ?_
      · refine ⟨pw_up (pw_up (pw_up m (55 + 2 * n) 1 (iI ((1 : Nat) : Int))) (55 + 2 * n) 2 (iI ky)) (55 + 2 * n) 3 (iI kz), ?_, ⟨?_, fun _ => ⟨?_, ?_⟩, fun e => absurd (show (1 : Nat) = 2 from e) (by decide)⟩, fun c h _ => by rw [up_oc h, up_oc h, up_oc h]⟩
        · unfold fX10_keep fX5_keepKind
          simp (disch := omega) only [iN_lit, c_isShelf, c_isUpTo, bd_some, ite_dec, gd_ix, iI_clN, iI_eq, lt_def]
          rw [if_pos (by omega), if_pos (by omega), if_neg (by omega), if_pos (by omega), if_pos (by omega)]
        · rw [up_ne (by omega), up_ne (by omega), up_eq]
          rfl
        · rw [up_ne (by omega), up_eq]
          rfl
        · rw [up_eq]
          rfl
      · intro m1 hM1
        refine ⟨pw_up (pw_up (pw_up m1 80 n (iI ((1 : Nat) : Int))) 81 n (iI ky)) 82 n (iI kz), ?_, ⟨?_, fun _ => ⟨?_, ?_⟩, fun e => absurd (show (1 : Nat) = 2 from e) (by decide)⟩, fun q hq e => ?_, fun c hc => by rw [up_oc (by omega), up_oc (by omega), up_oc (by omega)]⟩
        · unfold fX11_keep
          simp (disch := omega) only [iN_lit, r_isShelf, r_isIn, bd_some, ite_dec, gd_ix, iI_clN, iI_eq, lt_def, jn_def]
          rw [if_pos (by omega), if_pos (by omega), if_pos (by omega), if_pos (by omega), if_pos (by omega)]
          rfl
        · rw [up_o (by omega), up_o (by omega), up_eq]
          rfl
        · rw [up_o (by omega), up_eq]
          rfl
        · rw [up_eq]
          rfl
        · have := hM1.2.2.2 q hq
          unfold MSh at this ⊢
          simp (disch := omega) only [up_ne, up_o]
          exact this
  · refine op_same hs0 (r := -1) ?_ ?_
    · unfold fX10_keep
      simp (disch := omega) only [iN_lit, c_isShelf, c_isUpTo, bd_some, ite_dec, iI_eq]
      by_cases cd : 0 ≤ d ∧ d < 8
      · rw [if_pos cd]
        by_cases cx : 0 ≤ x ∧ x ≤ ((1 : Nat) : Int)
        · rw [if_pos cx, if_neg (by omega)]
          by_cases cy : 0 ≤ y ∧ y ≤ ((7 : Nat) : Int)
          · rw [if_pos cy, if_neg (by omega)]
          · rw [if_neg cy]
        · rw [if_neg cx]
      · rw [if_neg cd]
    · unfold fX11_keep
      simp (disch := omega) only [iN_lit, r_isShelf, r_isIn, bd_some, ite_dec, iI_eq, jn_def]
      by_cases cd : 0 ≤ d ∧ d < 8
      · rw [if_pos cd]
        by_cases cx : ((0 : Nat) : Int) ≤ x ∧ x ≤ ((1 : Nat) : Int)
        · rw [if_pos cx, if_pos (by omega)]
          by_cases cy : ((0 : Nat) : Int) ≤ y ∧ y ≤ ((7 : Nat) : Int)
          · rw [if_pos cy, if_neg (by omega)]
          · rw [if_neg cy]
        · rw [if_neg cx]
      · rw [if_neg cd]
theorem op_row {m : pw_Mem} (hs : Sim m) (a1 a2 a3 : Int32) : OpWW (fX10_row a1 a2 a3) (fX11_row a1 a2 a3) m := by
  have hs0 := hs
  obtain ⟨s, hC, hM, w⟩ := hs
  obtain ⟨d, rfl, h1, h2⟩ := rg a1
  obtain ⟨x, rfl, h3, h4⟩ := rg a2
  obtain ⟨y, rfl, h5, h6⟩ := rg a3
  by_cases c1 : (0 ≤ d ∧ d < 8) ∧ (0 ≤ x ∧ x ≤ 2)
  · obtain ⟨cd, cx⟩ := c1
    obtain ⟨n, rfl⟩ := Int.eq_ofNat_of_zero_le cd.1
    obtain ⟨k, rfl⟩ := Int.eq_ofNat_of_zero_le cx.1
    have hd : n < 8 := by omega
    by_cases c2 : 0 ≤ y ∧ y ≤ 100
    · obtain ⟨L, rfl⟩ := Int.eq_ofNat_of_zero_le c2.1
      refine op_shelf hC hM w (r := 0) hd (h := (2, 0, 0, k, L, fun _ => 0)) ⟨Nat.le_refl _, fun e => absurd (show (2 : Nat) = 1 from e) (by decide), fun _ => ⟨by show k ≤ 2; omega, by show L ≤ 100; omega, fun i _ => ⟨⟨by show (-2147483648 : Int) ≤ 0; omega, by show (0 : Int) < 2147483648; omega⟩, fun _ => ⟨by show (-128 : Int) ≤ 0; omega, by show (0 : Int) ≤ 127; omega⟩⟩⟩⟩ ?_ ?_
      · have key : ∃ m1 : pw_Mem, fX5_keepRow (55 + 2 * n) (iI k) (iI L) m = some m1 ∧ CSh m1 n (2, 0, 0, k, L, fun _ => 0) ∧ ∀ c, c ≠ 55 + 2 * n → c ≠ 55 + 2 * n + 1 → m1 c = m c := by
          unfold fX5_keepRow
          simp only [lt_def]
          refine lpI2 (fun i v (m6 : pw_Mem) => v = iI (i : Nat) ∧ (m6 (55 + 2 * n) 1 = iI ((2 : Nat) : Int) ∧ m6 (55 + 2 * n) 4 = iI k ∧ m6 (55 + 2 * n) 5 = iI L ∧ ∀ j, j < i → m6 (55 + 2 * n + 1) j = iI 0) ∧ ∀ c, c ≠ 55 + 2 * n → c ≠ 55 + 2 * n + 1 → m6 c = m c) (fun x => ∃ m1 : pw_Mem, x = some m1 ∧ CSh m1 n (2, 0, 0, k, L, fun _ => 0) ∧ ∀ c, c ≠ 55 + 2 * n → c ≠ 55 + 2 * n + 1 → m1 c = m c) 100 (by omega) ?_ ?_ ⟨rfl, ⟨?_, ?_, ?_, fun j hj => absurd hj (Nat.not_lt_zero j)⟩, fun c h _ => by rw [up_oc h, up_oc h, up_oc h]⟩
          · rintro nx i _ m6 hi ⟨rfl, ⟨e1, e4, e5, e6⟩, f6⟩ hnx
            simp (disch := omega) only [iN_lit, iI_le, gd_ix, iI_clN, iN_add]
            rw [if_neg (by omega)]
            refine hnx _ _ ⟨rfl, ⟨by rw [up_o (by omega)]; exact e1, by rw [up_o (by omega)]; exact e4, by rw [up_o (by omega)]; exact e5, fun j hj => ?_⟩, fun c g1 g2 => by rw [up_oc g2, f6 c g1 g2]⟩
            by_cases e : j = i
            · subst e
              rw [up_eq]
              rfl
            · rw [up_ne e]
              exact e6 j (by omega)
          · rintro nx _ m6 ⟨rfl, ⟨e1, e4, e5, e6⟩, f6⟩
            simp (disch := omega) only [iN_lit, iI_le]
            rw [if_pos (by omega)]
            exact ⟨m6, rfl, ⟨e1, fun e => absurd (show (2 : Nat) = 1 from e) (by decide), fun _ => ⟨e4, e5, fun i hi => e6 i (by have hi : i < L := hi; omega)⟩⟩, f6⟩
          · rw [up_ne (by omega), up_ne (by omega), up_eq]
            rfl
          · rw [up_ne (by omega), up_eq]
          · rw [up_eq]
        obtain ⟨m1, q1, g1, f1⟩ := key
        refine ⟨m1, ?_, g1, f1⟩
        unfold fX10_row
        simp (disch := omega) only [iN_lit, c_isShelf, c_isUpTo, bd_some, ite_dec, gd_ix, iI_clN, iI_le, q1]
        rw [if_pos (by omega), if_pos (by omega), if_pos (by omega), if_pos (by omega)]
      · intro m1 hM1
        unfold fX11_row
        simp (disch := omega) only [iN_lit, r_isShelf, r_isIn, bd_some, ite_dec, gd_ix, iI_clN, iI_le, lt_def]
        rw [if_pos (by omega), if_pos (by omega), if_pos (by omega), if_pos (by omega)]
        refine lpI2 (fun i v (m6 : pw_Mem) => v = iI (i : Nat) ∧ (m6 80 n = iI ((2 : Nat) : Int) ∧ m6 83 n = iI k ∧ m6 84 n = iI L ∧ ∀ j, j < i → m6 85 (100 * n + j) = iI 0) ∧ (∀ q, q < 8 → q ≠ n → MSh m6 q (s.2.2 q)) ∧ ∀ c, c < 80 ∨ 85 < c → m6 c = m1 c) (fun x => ∃ m2 : pw_Mem, x = some (iI ((0 : Nat) : Int), m2) ∧ MSh m2 n (2, 0, 0, k, L, fun _ => 0) ∧ (∀ q, q < 8 → q ≠ n → MSh m2 q (s.2.2 q)) ∧ ∀ c, c < 80 ∨ 85 < c → m2 c = m1 c) 100 (by omega) ?_ ?_ ⟨rfl, ⟨?_, ?_, ?_, fun j hj => absurd hj (Nat.not_lt_zero j)⟩, fun q hq e => ?_, fun c h => by rw [up_oc (by omega), up_oc (by omega), up_oc (by omega)]⟩
        · rintro nx i _ m6 hi ⟨rfl, ⟨e1, e4, e5, e6⟩, g6, f6⟩ hnx
          simp (disch := omega) only [iI_le, iN_mul, iN_add, gd_ix, iI_clN]
          rw [if_neg (by omega)]
          refine hnx _ _ ⟨rfl, ⟨by rw [up_o (by omega)]; exact e1, by rw [up_o (by omega)]; exact e4, by rw [up_o (by omega)]; exact e5, fun j hj => ?_⟩, fun q hq e => ?_, fun c h => by rw [up_oc (by omega), f6 c h]⟩
          · by_cases e : j = i
            · subst e
              rw [up_eq]
              rfl
            · rw [up_ne (by omega)]
              exact e6 j (by omega)
          · obtain ⟨k1, k2, k3⟩ := g6 q hq e
            unfold MSh
            simp (disch := omega) only [up_o]
            refine ⟨k1, k2, fun h => ?_⟩
            obtain ⟨k4, k5, k6⟩ := k3 h
            refine ⟨k4, k5, fun j hj => ?_⟩
            have := ((w.2.2 q hq).2.2 h).2.1
            rw [up_ne (by omega)]
            exact k6 j hj
        · rintro nx _ m6 ⟨rfl, ⟨e1, e4, e5, e6⟩, g6, f6⟩
          simp (disch := omega) only [iI_le]
          rw [if_pos (by omega)]
          exact ⟨m6, rfl, ⟨e1, fun e => absurd (show (2 : Nat) = 1 from e) (by decide), fun _ => ⟨e4, e5, fun i hi => e6 i (by have hi : i < L := hi; omega)⟩⟩, g6, f6⟩
        · rw [up_o (by omega), up_o (by omega), up_eq]
        · rw [up_o (by omega), up_eq]
        · rw [up_eq]
        · have := hM1.2.2.2 q hq
          unfold MSh at this ⊢
          simp (disch := omega) only [up_ne, up_o]
          exact this
    · by_cases c3 : y ≤ ((100 : Nat) : Int)
      · refine op_same hs0 (r := -14) ?_ ?_
        · unfold fX10_row
          simp (disch := omega) only [iN_lit, c_isShelf, c_isUpTo, bd_some, ite_dec, iI_le]
          rw [if_pos (by omega), if_pos (by omega), if_pos c3, if_neg (by omega)]
        · unfold fX11_row
          simp (disch := omega) only [iN_lit, r_isShelf, r_isIn, bd_some, ite_dec, iI_le]
          rw [if_pos (by omega), if_pos (by omega), if_pos c3, if_neg (by omega)]
      · refine op_same hs0 (r := -1) ?_ ?_
        · unfold fX10_row
          simp (disch := omega) only [iN_lit, c_isShelf, c_isUpTo, bd_some, ite_dec, iI_le]
          rw [if_pos (by omega), if_pos (by omega), if_neg c3]
        · unfold fX11_row
          simp (disch := omega) only [iN_lit, r_isShelf, r_isIn, bd_some, ite_dec, iI_le]
          rw [if_pos (by omega), if_pos (by omega), if_neg c3]
  · refine op_same hs0 (r := -1) ?_ ?_
    · unfold fX10_row
      simp (disch := omega) only [iN_lit, c_isShelf, c_isUpTo, bd_some, ite_dec]
      by_cases cd : 0 ≤ d ∧ d < 8
      · rw [if_pos cd, if_neg (by omega)]
      · rw [if_neg cd]
    · unfold fX11_row
      simp (disch := omega) only [iN_lit, r_isShelf, r_isIn, bd_some, ite_dec]
      by_cases cd : 0 ≤ d ∧ d < 8
      · rw [if_pos cd, if_neg (by omega)]
      · rw [if_neg cd]

theorem op_put {m : pw_Mem} (hs : Sim m) (a1 a2 a3 : Int32) : OpWW (fX10_put a1 a2 a3) (fX11_put a1 a2 a3) m := by
  have hs0 := hs
  obtain ⟨s, hC, hM, w⟩ := hs
  obtain ⟨d, rfl, h1, h2⟩ := rg a1
  obtain ⟨x, rfl, h3, h4⟩ := rg a2
  have kb := noRow_b s d (-1)
  by_cases c : noRow s d (-1) = 0
  · obtain ⟨n, hd, rfl, hh, -⟩ := noRow_0 c
    obtain ⟨e4, e5, e6⟩ := (hC.2.2.2 n hd).2.2 hh
    obtain ⟨w3, wL, wE⟩ := (w.2.2 n hd).2.2 hh
    have r0 : iI (noRow s (n : Int) (-1)) = iI ((0 : Nat) : Int) := congrArg iI c
    by_cases cx : 0 ≤ x ∧ x < hL (s.2.2 n)
    · obtain ⟨k, rfl⟩ := Int.eq_ofNat_of_zero_le cx.1
      have hk : k < hL (s.2.2 n) := by omega
      have main : ∀ v : Int32, (hS (s.2.2 n) = 0 → -128 ≤ v.toInt ∧ v.toInt ≤ 127) →
          (fX10_put (iI n) (iI k) a3 m = some (0, pw_up m (55 + 2 * n + 1) k v)) →
          (∀ m1, MS m1 s → fX11_put (iI n) (iI k) a3 m1 = some (0, pw_up m1 85 (100 * n + k) v)) → OpWW (fX10_put (iI n) (iI k) a3) (fX11_put (iI n) (iI k) a3) m := by
        intro v hv k1 k2
        refine op_shelf hC hM w (r := 0) hd (h := (2, 0, 0, hS (s.2.2 n), hL (s.2.2 n), fun j => if j = k then v.toInt else hE (s.2.2 n) j)) ⟨Nat.le_refl _, fun e => absurd (show (2 : Nat) = 1 from e) (by decide), fun _ => ⟨w3, wL, fun i hi => ?_⟩⟩ ?_ ?_
        · show (-2147483648 ≤ (if i = k then v.toInt else hE (s.2.2 n) i) ∧ (if i = k then v.toInt else hE (s.2.2 n) i) < 2147483648) ∧ (hS (s.2.2 n) = 0 → -128 ≤ (if i = k then v.toInt else hE (s.2.2 n) i) ∧ (if i = k then v.toInt else hE (s.2.2 n) i) ≤ 127)
          by_cases e : i = k
          · rw [if_pos e]
            exact ⟨⟨Int32.le_toInt v, Int32.toInt_lt v⟩, hv⟩
          · rw [if_neg e]
            exact wE i hi
        · refine ⟨_, k1, ⟨?_, fun e => absurd (show (2 : Nat) = 1 from e) (by decide), fun _ => ⟨?_, ?_, fun i hi => ?_⟩⟩, fun c _ h => up_oc h⟩
          · rw [up_o (by omega), (hC.2.2.2 n hd).1, hh]
            rfl
          · rw [up_o (by omega)]
            exact e4
          · rw [up_o (by omega)]
            exact e5
          · show pw_up m (55 + 2 * n + 1) k v (55 + 2 * n + 1) i = iI (if i = k then v.toInt else hE (s.2.2 n) i)
            by_cases e : i = k
            · subst e
              rw [up_eq, if_pos rfl]
              exact iI_of v
            · rw [up_ne e, if_neg e]
              exact e6 i hi
        · intro m1 hM1
          obtain ⟨r4, r5, r6⟩ := (hM1.2.2.2 n hd).2.2 hh
          refine ⟨_, k2 m1 hM1, ⟨?_, fun e => absurd (show (2 : Nat) = 1 from e) (by decide), fun _ => ⟨?_, ?_, fun i hi => ?_⟩⟩, fun q hq e => ?_, fun c h => up_oc (by omega)⟩
          · rw [up_o (by omega), (hM1.2.2.2 n hd).1, hh]
            rfl
          · rw [up_o (by omega)]
            exact r4
          · rw [up_o (by omega)]
            exact r5
          · show pw_up m1 85 (100 * n + k) v 85 (100 * n + i) = iI (if i = k then v.toInt else hE (s.2.2 n) i)
            by_cases e : i = k
            · subst e
              rw [up_eq, if_pos rfl]
              exact iI_of v
            · rw [up_ne (by omega), if_neg e]
              exact r6 i hi
          · obtain ⟨k1, k2, k3⟩ := hM1.2.2.2 q hq
            unfold MSh
            simp (disch := omega) only [up_o]
            refine ⟨k1, k2, fun h => ?_⟩
            obtain ⟨k4, k5, k6⟩ := k3 h
            refine ⟨k4, k5, fun j hj => ?_⟩
            have := ((w.2.2 q hq).2.2 h).2.1
            rw [up_ne (by omega)]
            exact k6 j hj
      have cB : (fX5_hasPlace (55 + 2 * n) (iI k) m) = some true := by
        unfold fX5_hasPlace
        simp (disch := omega) only [i0, iI_lt, iI_le, e5]
        rw [if_neg (by omega), if_neg (by omega)]
      have wz : ∀ m1 : pw_Mem, MS m1 s → fX11_wrongRow (iI n) (-1) m1 = some (iI ((0 : Nat) : Int)) := fun m1 hM1 => by
        rw [em1, r_wrongRow hM1 w (by omega) (by omega) (by omega) (by omega), r0]
      rcases (show hS (s.2.2 n) = 0 ∨ hS (s.2.2 n) = 1 ∨ hS (s.2.2 n) = 2 by omega) with q | q | q
      · refine main a3.toInt8.toInt32 (fun _ => ?_) ?_ ?_
        · rw [Int8.toInt_toInt32]
          have p1 := Int8.le_toInt a3.toInt8
          have p2 := Int8.toInt_lt a3.toInt8
          omega
        · unfold fX10_put fX5_take
          simp (disch := omega) only [c_rowRef hC w, r0, bd_some, i0, gd_ix, iI_clN, cB, e4, q, lt_def]
          rfl
        · intro m1 hM1
          obtain ⟨r4, r5, r6⟩ := (hM1.2.2.2 n hd).2.2 hh
          unfold fX11_put
          rw [wz m1 hM1]
          simp (disch := omega) only [iN_lit, bd_some, gd_ix, iI_clN, r4, r5, iI_sub, r_isIn, ite_dec, q, iN_mul, iN_add, lt_def]
          rw [if_pos (by first | trivial | rfl | omega), if_pos (by omega), if_pos (by first | trivial | rfl | omega)]
      · refine main a3.toInt16.toInt32 (fun e => absurd (q.symm.trans e) (by decide)) ?_ ?_
        · unfold fX10_put fX5_take
          simp (disch := omega) only [c_rowRef hC w, r0, bd_some, iN_lit, gd_ix, iI_clN, cB, e4, q, lt_def]
          rfl
        · intro m1 hM1
          obtain ⟨r4, r5, r6⟩ := (hM1.2.2.2 n hd).2.2 hh
          unfold fX11_put
          rw [wz m1 hM1]
          simp (disch := omega) only [iN_lit, bd_some, gd_ix, iI_clN, r4, r5, iI_sub, r_isIn, ite_dec, q, iN_mul, iN_add, lt_def]
          rw [if_pos (by first | trivial | rfl | omega), if_pos (by omega), if_neg (by decide), if_pos (by first | trivial | rfl | omega)]
      · refine main a3 (fun e => absurd (q.symm.trans e) (by decide)) ?_ ?_
        · unfold fX10_put fX5_take
          simp (disch := omega) only [c_rowRef hC w, r0, bd_some, iN_lit, gd_ix, iI_clN, cB, e4, q, lt_def]
          rfl
        · intro m1 hM1
          obtain ⟨r4, r5, r6⟩ := (hM1.2.2.2 n hd).2.2 hh
          unfold fX11_put
          rw [wz m1 hM1]
          simp (disch := omega) only [iN_lit, bd_some, gd_ix, iI_clN, r4, r5, iI_sub, r_isIn, ite_dec, q, iN_mul, iN_add, lt_def]
          rw [if_pos (by first | trivial | rfl | omega), if_pos (by omega), if_neg (by decide), if_neg (by decide)]
    · refine op_same hs0 (r := -13) ?_ ?_
      · unfold fX10_put fX5_hasPlace
        simp (disch := omega) only [c_rowRef hC w, r0, bd_some, i0, gd_ix, iI_clN, e5, iI_lt, iI_le]
        rw [if_pos (by first | trivial | rfl | omega)]
        by_cases q : x < ((0 : Nat) : Int)
        · rw [if_pos q]
          rfl
        · rw [if_neg q, if_pos (by omega)]
          rfl
      · obtain ⟨r4, r5, r6⟩ := (hM.2.2.2 n hd).2.2 hh
        unfold fX11_put
        rw [em1, r_wrongRow hM w (by omega) (by omega) (by omega) (by omega), r0]
        simp (disch := omega) only [iN_lit, bd_some, gd_ix, iI_clN, r5, iI_sub, r_isIn, ite_dec]
        rw [if_pos (by first | trivial | rfl | omega), if_neg (by omega)]
  · have r0 : ¬ iI (noRow s d (-1)) = iI ((0 : Nat) : Int) := by
      rw [iI_eq (by omega) (by omega) (by omega) (by omega)]
      exact c
    refine op_same hs0 (r := iI (noRow s d (-1))) ?_ ?_
    · unfold fX10_put
      rw [c_rowRef hC w h1 h2, bd_some]
      exact if_neg r0
    · unfold fX11_put
      rw [em1, r_wrongRow hM w (by omega) (by omega) (by omega) (by omega), bd_some]
      exact if_neg r0
