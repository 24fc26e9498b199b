/-! THE TEXT: its form, on both sides -/
set_option maxRecDepth 100000
def dgN (c : Int) : Nat := if c = 98 then 4 else if c = 99 then 1 else if c = 103 then 3 else if c = 112 then 2 else if c = 120 then 1 else if c = 121 then 2 else 0
theorem dg_le (c : Int) : dgN c ≤ 4 := by
  unfold dgN
  repeat' split
  all_goals omega
theorem dg_no {c : Int} (h : c = 59 ∨ (48 ≤ c ∧ c ≤ 57)) : dgN c = 0 := by
  unfold dgN
  rw [if_neg (by omega), if_neg (by omega), if_neg (by omega), if_neg (by omega), if_neg (by omega), if_neg (by omega)]
theorem eqL {τ : Type} {a : Int} {k : Nat} (ha : -2147483648 ≤ a ∧ a < 2147483648) (hk : k < 2147483648) {x y : τ} : (if iI a = (OfNat.ofNat k : Int32) then x else y) = if a = (k : Int) then x else y := by
  have e : (OfNat.ofNat k : Int32) = iI (k : Int) := (Int32.ofInt_eq_ofNat (n := k)).symm
  rw [e, if_eq ha.1 ha.2 (by omega) (by omega)]
theorem c_dg {c : Int} (m : pw_Mem) (h1 : -2147483648 ≤ c) (h2 : c < 2147483648) : fX8_digitsBehind (iI c) m = some (iI (dgN c : Nat)) := by
  unfold fX8_digitsBehind dgN
  rw [eqL (k := 98) ⟨h1, h2⟩ (by omega), eqL (k := 99) ⟨h1, h2⟩ (by omega), eqL (k := 103) ⟨h1, h2⟩ (by omega), eqL (k := 112) ⟨h1, h2⟩ (by omega), eqL (k := 120) ⟨h1, h2⟩ (by omega), eqL (k := 121) ⟨h1, h2⟩ (by omega)]
  by_cases k1 : c = 98
  · subst k1
    rfl
  · by_cases k2 : c = 99
    · subst k2
      rfl
    · by_cases k3 : c = 103
      · subst k3
        rfl
      · by_cases k4 : c = 112
        · subst k4
          rfl
        · by_cases k5 : c = 120
          · subst k5
            rfl
          · by_cases k6 : c = 121
            · subst k6
              rfl
            · rw [if_neg k1, if_neg k2, if_neg k3, if_neg k4, if_neg k5, if_neg k6]
              rw [if_neg (show ¬ c = ((98 : Nat) : Int) from k1), if_neg (show ¬ c = ((99 : Nat) : Int) from k2), if_neg (show ¬ c = ((103 : Nat) : Int) from k3), if_neg (show ¬ c = ((112 : Nat) : Int) from k4), if_neg (show ¬ c = ((120 : Nat) : Int) from k5), if_neg (show ¬ c = ((121 : Nat) : Int) from k6)]
              rfl
/-- the j-th byte behind q is not as it must be -/
def bdj (h : ShT) (q j : Nat) : Bool := decide (hL h ≤ q + j) || (if j = 0 then decide (dgN (hE h q) = 0) else if j ≤ dgN (hE h q) then !decide (48 ≤ hE h (q + j) ∧ hE h (q + j) ≤ 57) else !decide (hE h (q + j) = 59))
def nxt (h : ShT) (q : Nat) : Nat := q + dgN (hE h q) + 2
/-- the first fault, or -1 -/
def flt (h : ShT) : Nat → Nat → Int
  | 0, _ => -1
  | f + 1, q => if lowN (bdj h q) (dgN (hE h q) + 2) 0 < dgN (hE h q) + 2 then ((q + lowN (bdj h q) (dgN (hE h q) + 2) 0 : Nat) : Int) else if nxt h q < hL h then flt h f (nxt h q) else -1
theorem flt_s (h : ShT) (f q : Nat) : flt h (f + 1) q = if lowN (bdj h q) (dgN (hE h q) + 2) 0 < dgN (hE h q) + 2 then ((q + lowN (bdj h q) (dgN (hE h q) + 2) 0 : Nat) : Int) else if nxt h q < hL h then flt h f (nxt h q) else -1 := rfl
theorem lowN_no {P : Nat → Bool} : ∀ {f v : Nat}, (∀ c, v ≤ c → c < v + f → P c = false) → lowN P f v = v + f
  | 0, v, _ => rfl
  | f + 1, v, h => by
    simp only [lowN]
    rw [h v (Nat.le_refl _) (by omega), itF, lowN_no (f := f) (v := v + 1) (fun c h1 h2 => h c (by omega) (by omega))]
    omega
theorem flt_bad {h : ShT} {f q k : Nat} (hk : k < dgN (hE h q) + 2) (h1 : bdj h q k = true) (h2 : ∀ j, j < k → bdj h q j = false) : flt h (f + 1) q = ((q + k : Nat) : Int) := by
  rw [flt_s, lowN_at h1 (Nat.zero_le _) (by omega) h2, if_pos hk]
theorem flt_good {h : ShT} {f q : Nat} (h2 : ∀ j, j < dgN (hE h q) + 2 → bdj h q j = false) : flt h (f + 1) q = if nxt h q < hL h then flt h f (nxt h q) else -1 := by
  rw [flt_s, lowN_no (fun c _ h3 => h2 c (by omega)), if_neg (by omega)]
theorem c_form {m : pw_Mem} {s : SS} (hC : CS m s) (w : WS s) {n : Nat} (hn : n < 8) (hh : hH (s.2.2 n) = 2) {R : Int} {F : Nat} (hF : hL (s.2.2 n) < F) (hR : ∀ _ : Unit, flt (s.2.2 n) F 0 = R) : fX8_formFault (55 + 2 * n) m = some (iI R) := by
  obtain ⟨w3, wL, wE⟩ := (w.2.2 n hn).2.2 hh
  have e5 := (c_rw hC hn hh).1
  obtain ⟨h, hh'⟩ : ∃ h, h = s.2.2 n := ⟨_, rfl⟩
  rw [← hh'] at w3 wL wE e5 hF hR
  have lenle : ∀ d : Nat, d = 0 → (if iI (hL h : Int) ≤ iI (d : Int) then some (iI (hL h : Int)) else some (-1 : Int32)) = some (iI (if hL h = 0 then (0 : Int) else -1)) := fun d hd => by
    by_cases z : hL h = 0
    · rw [leT (by omega), if_pos z, z]
      rfl
    · rw [leF (by omega), if_neg z]
      rfl
  unfold fX8_formFault
  refine lpI3 (fun i v1 v2 v3 => v3 = iI (i : Nat) ∧ ∃ q f, hL h < q + f ∧ q ≤ hL h ∧ ((v1 = 1 ∧ i = q ∧ ((q < hL h ∨ hL h = 0) ∧ (∀ _ : Unit, flt h f q = R) ∨ (q = hL h ∧ 0 < hL h ∧ R = -1))) ∨ (∃ j, v1 = 0 ∧ i = q + j ∧ 1 ≤ j ∧ j ≤ dgN (hE h q) + 1 ∧ v2 = iI ((dgN (hE h q) + 1 - j : Nat) : Int) ∧ (∀ j', j' < j → bdj h q j' = false) ∧ ∀ _ : Unit, flt h f q = R))) (fun r => r = some (iI R)) (hL h) (by omega) ?_ ?_ ⟨rfl, 0, F, by omega, Nat.zero_le _, Or.inl ⟨rfl, rfl, Or.inl ⟨by omega, hR⟩⟩⟩
  · rintro nx i v1 v2 _ hi ⟨rfl, q, f, hf, hq, hcase⟩ hnx
    have we := (wE i hi).1
    have ce := c_at hC w hn hh (i := i) (by rw [← hh']; exact hi)
    rw [← hh'] at ce
    obtain ⟨f', rfl⟩ : ∃ f', f = f' + 1 := ⟨f - 1, by omega⟩
    rw [e5, leF (by omega), ce, bd_some, jn_def]
    rcases hcase with ⟨rfl, rfl, hc⟩ | ⟨j, rfl, rfl, hj1, hj2, rfl, hg, hfl⟩
    · rcases hc with ⟨-, hfl⟩ | ⟨z, -, -⟩
      · rw [if_neg (by decide), c_dg m we.1 we.2, bd_some]
        have dl := dg_le (hE h i)
        by_cases k : dgN (hE h i) = 0
        · have b0 : bdj h i 0 = true := by
            unfold bdj
            rw [if_pos rfl, decide_eq_true k, Bool.or_true]
          have := flt_bad (f := f') (by omega) b0 (fun j hj => absurd hj (Nat.not_lt_zero j))
          rw [hfl ()] at this
          rw [eq0T (by omega), this]
          rfl
        · have b0 : bdj h i 0 = false := by
            unfold bdj
            rw [if_pos rfl, decide_eq_false k, decide_eq_false (by omega)]
            rfl
          rw [eq0F (by omega)]
          simp only [lt_def, inc1]
          refine hnx _ _ _ ⟨rfl, i, f' + 1, hf, hq, Or.inr ⟨1, rfl, rfl, by omega, by omega, by rw [show dgN (hE h i) + 1 - 1 = dgN (hE h i) by omega], fun j' hj' => ?_, hfl⟩⟩
          rw [show j' = 0 by omega]
          exact b0
      · omega
    · have dl := dg_le (hE h q)
      have bad : bdj h q j = true → some (iI ((q + j : Nat) : Int)) = some (iI R) := fun hb => by
        have := flt_bad (f := f') (show j < dgN (hE h q) + 2 by omega) hb hg
        rw [hfl ()] at this
        rw [this]
      rw [if_pos rfl]
      by_cases k : j = dgN (hE h q) + 1
      · rw [show dgN (hE h q) + 1 - j = 0 by omega, n0, leT (by omega), eqL (k := 59) we (by omega)]
        by_cases k2 : hE h (q + j) = 59
        · have bj : bdj h q j = false := by
            unfold bdj
            rw [if_neg (by omega), if_neg (by omega), decide_eq_true k2, decide_eq_false (by omega)]
            rfl
          have all : ∀ j', j' < dgN (hE h q) + 2 → bdj h q j' = false := fun j' hj' => by
            by_cases e : j' = j
            · rw [e]
              exact bj
            · exact hg j' (by omega)
          have fg := flt_good (f := f') all
          rw [hfl ()] at fg
          have enx : nxt h q = q + j + 1 := by
            unfold nxt
            omega
          rw [enx] at fg
          rw [if_pos (show hE h (q + j) = ((59 : Nat) : Int) from k2)]
          simp only [lt_def, inc1]
          refine hnx _ _ _ ⟨rfl, q + j + 1, f', by omega, by omega, Or.inl ⟨rfl, rfl, ?_⟩⟩
          by_cases k3 : q + j + 1 < hL h
          · rw [if_pos k3] at fg
            exact Or.inl ⟨Or.inl k3, fun _ => fg.symm⟩
          · rw [if_neg k3] at fg
            exact Or.inr ⟨by omega, by omega, fg⟩
        · rw [if_neg (show ¬ hE h (q + j) = ((59 : Nat) : Int) from k2)]
          exact bad (by
            unfold bdj
            rw [if_neg (by omega), if_neg (by omega), decide_eq_false k2, Bool.or_comm]
            rfl)
      · have n48 : (48 : Int32) = iI ((48 : Nat) : Int) := rfl
        have n57 : (57 : Int32) = iI ((57 : Nat) : Int) := rfl
        have dD : ∀ b : Bool, decide (48 ≤ hE h (q + j) ∧ hE h (q + j) ≤ 57) = b → bdj h q j = !b := fun b hb => by
          unfold bdj
          rw [if_neg (by omega), if_pos (by omega), hb, decide_eq_false (by omega)]
          cases b <;> rfl
        rw [n0, leF (by omega), n48, n57]
        by_cases k2 : hE h (q + j) < 48
        · rw [ltT (by omega)]
          exact bad (dD false (decide_eq_false (by omega)))
        · rw [ltF (by omega)]
          by_cases k3 : hE h (q + j) ≤ 57
          · have bj := dD true (decide_eq_true (by omega))
            have em : iI ((dgN (hE h q) + 1 - j : Nat) : Int) + (-1 : Int32) = iI ((dgN (hE h q) + 1 - (j + 1) : Nat) : Int) := by
              rw [em1, iI_add]
              exact congrArg iI (by omega)
            rw [leT (by omega), em]
            simp only [lt_def, inc1]
            refine hnx _ _ _ ⟨rfl, q, f' + 1, hf, hq, Or.inr ⟨j + 1, rfl, rfl, by omega, by omega, rfl, fun j' hj' => ?_, hfl⟩⟩
            by_cases e : j' = j
            · rw [e]
              exact bj
            · exact hg j' (by omega)
          · rw [leF (by omega)]
            exact bad (dD false (decide_eq_false (by omega)))
  · rintro nx v1 v2 _ ⟨rfl, q, f, hf, hq, hcase⟩
    rw [e5, leT (by omega)]
    rcases hcase with ⟨rfl, hiq, hc⟩ | ⟨j, rfl, hiq, hj1, hj2, rfl, hg, hfl⟩
    · rw [if_neg (by decide), n0, lenle 0 rfl]
      rcases hc with ⟨hc1, hfl⟩ | ⟨-, z2, z3⟩
      · have hL0 : hL h = 0 := by omega
        obtain ⟨f', rfl⟩ : ∃ f', f = f' + 1 := ⟨f - 1, by omega⟩
        have b0 : bdj h q 0 = true := by
          unfold bdj
          rw [decide_eq_true (show hL h ≤ q + 0 by omega)]
          rfl
        have := flt_bad (f := f') (by omega) b0 (fun j hj => absurd hj (Nat.not_lt_zero j))
        rw [hfl ()] at this
        rw [if_pos hL0, this, show q = 0 by omega]
        rfl
      · rw [if_neg (by omega), z3]
    · obtain ⟨f', rfl⟩ : ∃ f', f = f' + 1 := ⟨f - 1, by omega⟩
      have b0 : bdj h q j = true := by
        unfold bdj
        rw [decide_eq_true (show hL h ≤ q + j by omega)]
        rfl
      have := flt_bad (f := f') (show j < dgN (hE h q) + 2 by omega) b0 hg
      rw [hfl ()] at this
      rw [if_pos rfl, this, hiq]
-- the reference's reading
def TX (h : ShT) (n : Nat) (m : pw_Mem) (p : Nat) : Prop := (m 71 7 = iI ((100 * n : Nat) : Int) ∧ m 71 8 = iI (hL h : Int) ∧ m 71 6 = iI (p : Int)) ∧ ∀ i, i < hL h → m 85 (100 * n + i) = iI (hE h i)
def WR (h : ShT) (n : Nat) : Prop := n < 8 ∧ hL h ≤ 100 ∧ ∀ i, i < hL h → -128 ≤ hE h i ∧ hE h i ≤ 127
def chN (h : ShT) (p : Nat) : Int := if hL h ≤ p then -1 else if hE h p < 0 then hE h p + 256 else hE h p
theorem and255 : ∀ k : Nat, k < 256 → iI ((k : Int) - 128) &&& 255 = iI (if k < 128 then (k : Int) + 128 else (k : Int) - 128) := fun k hk => co_dec (P := fun k => iI ((k : Int) - 128) &&& 255 = iI (if k < 128 then (k : Int) + 128 else (k : Int) - 128)) (N := 256) (by decide +kernel) hk
theorem r_here {h : ShT} {n : Nat} {m : pw_Mem} {p : Nat} (hw : WR h n) (hT : TX h n m p) (hp : p ≤ 1000) : fX11_here m = some (iI (chN h p)) ∧ -1 ≤ chN h p ∧ chN h p ≤ 255 := by
  obtain ⟨⟨a7, a8, a6⟩, aE⟩ := hT
  obtain ⟨hn, hL100, hb⟩ := hw
  unfold fX11_here chN
  rw [a8, a6, a7]
  by_cases k : hL h ≤ p
  · rw [leT (by omega), if_pos k]
    exact ⟨rfl, by omega, by omega⟩
  · have b := hb p (by omega)
    have eE : m 85 (iI ((100 * n + p : Nat) : Int)).toNatClampNeg = iI (hE h p) := by
      rw [clN (by omega)]
      exact aE p (by omega)
    obtain ⟨z, hz⟩ : ∃ z : Nat, hE h p = (z : Int) - 128 := ⟨(hE h p + 128).toNat, by omega⟩
    have a := and255 z (by omega)
    rw [leF (by omega), iN_add, gdN (by omega), eE, if_neg k, hz, a]
    by_cases k2 : z < 128
    · rw [if_pos k2, if_pos (by omega)]
      exact ⟨congrArg (fun v => some (iI v)) (by omega), by omega, by omega⟩
    · rw [if_neg k2, if_neg (by omega)]
      exact ⟨rfl, by omega, by omega⟩
theorem ch_eq {h : ShT} {n p : Nat} (hw : WR h n) {c : Int} (hc : 0 ≤ c) (hc2 : c < 128) : chN h p = c ↔ p < hL h ∧ hE h p = c := by
  unfold chN
  by_cases k : hL h ≤ p
  · rw [if_pos k]
    omega
  · have := hw.2.2 p (by omega)
    rw [if_neg k]
    by_cases k2 : hE h p < 0
    · rw [if_pos k2]
      omega
    · rw [if_neg k2]
      omega
def gDg (h : ShT) (p : Nat) : Bool := decide (p < hL h ∧ 48 ≤ hE h p ∧ hE h p ≤ 57)
theorem ch_dg {h : ShT} {n p : Nat} (hw : WR h n) : decide (48 ≤ chN h p ∧ chN h p ≤ 57) = gDg h p := by
  unfold gDg
  refine decide_eq_decide.mpr ?_
  unfold chN
  by_cases k : hL h ≤ p
  · rw [if_pos k]
    omega
  · have := hw.2.2 p (by omega)
    rw [if_neg k]
    by_cases k2 : hE h p < 0
    · rw [if_pos k2]
      omega
    · rw [if_neg k2]
      omega
def nv (h : ShT) (p : Nat) : Nat → Int
  | 0 => 0
  | j + 1 => 10 * nv h p j + (hE h (p + j) - 48)
def RF (m m' : pw_Mem) : Prop := (∀ c, c ≠ 71 → c ≠ 77 → m' c = m c) ∧ ∀ j, j ≠ 6 → m' 71 j = m 71 j
theorem TX_f {h : ShT} {n : Nat} {m m' : pw_Mem} {p p' : Nat} (hT : TX h n m p) (hf : RF m m') (h6 : m' 71 6 = iI (p' : Int)) : TX h n m' p' := by
  refine ⟨⟨?_, ?_, h6⟩, fun i hi => ?_⟩
  · rw [hf.2 7 (by omega)]
    exact hT.1.1
  · rw [hf.2 8 (by omega)]
    exact hT.1.2.1
  · rw [hf.1 85 (by omega) (by omega)]
    exact hT.2 i hi
theorem RF_t {m m' m'' : pw_Mem} (h1 : RF m m') (h2 : RF m' m'') : RF m m'' := ⟨fun c a b => by rw [h2.1 c a b, h1.1 c a b], fun j a => by rw [h2.2 j a, h1.2 j a]⟩
theorem r_num {h : ShT} {n : Nat} {m : pw_Mem} {p k D : Nat} (hw : WR h n) (hT : TX h n m p) (hp : p ≤ 500) (hk : k < 4) (hD : D ≤ 2) : ∃ b m', fX11_readsNumber (iI (k : Int)) (iI (D : Int)) m = some (b, m') ∧ RF m m' ∧ (∀ k', k' ≠ k → m' 77 k' = m 77 k') ∧ (b = true → (∀ j, j < D → gDg h (p + j) = true) ∧ m' 71 6 = iI ((p + D : Nat) : Int) ∧ m' 77 k = iI (nv h p D)) ∧ (b = false → ∃ j, j < D ∧ (∀ j', j' < j → gDg h (p + j') = true) ∧ gDg h (p + j) = false ∧ m' 71 6 = iI ((p + j : Nat) : Int)) := by
  unfold fX11_readsNumber
  rw [gdN (by omega), lt_def]
  have ck : (iI (k : Int)).toNatClampNeg = k := clN (by omega)
  refine lpI2 (fun j v2 (m3 : pw_Mem) => v2 = iI (j : Nat) ∧ RF m m3 ∧ (∀ k', k' ≠ k → m3 77 k' = m 77 k') ∧ (∀ j', j' < j → gDg h (p + j') = true) ∧ m3 71 6 = iI ((p + j : Nat) : Int) ∧ m3 77 k = iI (nv h p j)) (fun r => ∃ b m', r = some (b, m') ∧ RF m m' ∧ (∀ k', k' ≠ k → m' 77 k' = m 77 k') ∧ (b = true → (∀ j, j < D → gDg h (p + j) = true) ∧ m' 71 6 = iI ((p + D : Nat) : Int) ∧ m' 77 k = iI (nv h p D)) ∧ (b = false → ∃ j, j < D ∧ (∀ j', j' < j → gDg h (p + j') = true) ∧ gDg h (p + j) = false ∧ m' 71 6 = iI ((p + j : Nat) : Int))) D (by omega) ?_ ?_ ⟨rfl, ⟨fun c _ h2 => up_oc h2, fun j _ => up_o (by omega)⟩, fun k' hk' => by rw [ck, up_ne hk'], fun j' hj' => absurd hj' (Nat.not_lt_zero j'), by rw [up_o (by omega)]; exact hT.1.2.2, by rw [ck, up_eq]; rfl⟩
  · rintro nx j _ m3 hj ⟨rfl, f3, g3, hlow, e6, e77⟩ hnx
    have hT3 := TX_f hT f3 e6
    obtain ⟨q1, b1, b2⟩ := r_here hw hT3 (by omega)
    have i2 : fX11_isIn (iI (chN h (p + j))) 48 57 m3 = some (gDg h (p + j)) := by
      rw [show (48 : Int32) = iI 48 from rfl, show (57 : Int32) = iI 57 from rfl, r_isIn _ 48 57 m3 (by omega) (by omega) (by omega), ch_dg hw]
    have e77' : m3 77 (iI (k : Int)).toNatClampNeg = iI (nv h p j) := by
      rw [ck]
      exact e77
    rw [leF (by omega), q1, bd_some, i2, bd_some]
    cases hg : gDg h (p + j)
    · rw [itF]
      exact ⟨false, m3, rfl, f3, g3, fun z => absurd z (by decide), fun _ => ⟨j, hj, hlow, hg, e6⟩⟩
    · have hg' := of_decide_eq_true hg
      have ech : chN h (p + j) = hE h (p + j) := (ch_eq hw (by omega) (by omega)).mpr ⟨hg'.1, rfl⟩
      have em : (10 : Int32) * iI (nv h p j) = iI (10 * nv h p j) := iI_mul 10 _
      have e48 : iI (10 * nv h p j + chN h (p + j)) - (48 : Int32) = iI (nv h p (j + 1)) := by
        have : iI (10 * nv h p j + chN h (p + j)) - (48 : Int32) = iI (10 * nv h p j + chN h (p + j) - 48) := iI_sub _ 48
        rw [this, ech]
        show iI _ = iI (10 * nv h p j + (hE h (p + j) - 48))
        exact congrArg iI (by omega)
      have e6' : ∀ v, pw_up m3 77 k v 71 6 = iI ((p + j : Nat) : Int) := fun v => by
        rw [up_o (by omega)]
        exact e6
      rw [itT, gdN (by omega), bd_some, gdN (by omega), e77', em, iI_add, e48, lt_def, ck, e6', inc1, lt_def, lt_def, inc1]
      refine hnx _ _ ⟨rfl, RF_t f3 ⟨fun c h1 h2 => by rw [up_oc h1, up_oc h2], fun j' hj' => by rw [up_ne hj', up_o (by omega)]⟩, fun k' hk' => by rw [up_o (by omega), up_ne hk']; exact g3 k' hk', all_s (P := fun j' => gDg h (p + j')) hlow hg, by rw [up_eq]; rfl, by rw [up_o (by omega), up_eq]⟩
  · rintro nx _ m3 ⟨rfl, f3, g3, hlow, e6, e77⟩
    rw [leT (by omega)]
    exact ⟨true, m3, rfl, f3, g3, fun _ => ⟨hlow, e6, e77⟩, fun z => absurd z (by decide)⟩
