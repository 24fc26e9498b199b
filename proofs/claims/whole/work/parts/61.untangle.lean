/-! CALLS: untangle -/
set_option maxRecDepth 100000
def untB (t : TT) (v : Nat) : Bool := allB (fun b => v.testBit b || allB (fun c => v.testBit c || !crB t b c) (tK t)) (tK t)
theorem untB_t {t : TT} {v : Nat} : untB t v = true ↔ ∀ b c, b < tK t → c < tK t → v.testBit b = false → v.testBit c = false → crB t b c = false := by
  unfold untB
  rw [allB_t]
  constructor
  · intro h b c hb hc h1 h2
    have h3 := h b hb
    rw [h1, Bool.false_or, allB_t] at h3
    have h4 := h3 c hc
    rw [h2, Bool.false_or] at h4
    cases q : crB t b c
    · rfl
    · rw [q] at h4
      exact absurd h4 (by decide)
  · intro h b hb
    cases h1 : v.testBit b
    · rw [Bool.false_or, allB_t]
      intro c hc
      cases h2 : v.testBit c
      · rw [h b c hb hc h1 h2]
        rfl
      · rfl
    · rfl
theorem andn_0 {P : Nat → Bool} {k v : Nat} : andn (msk P k) v = 0 ↔ ∀ c, c < k → v.testBit c = false → P c = false := by
  constructor
  · intro h c hc hv
    have := congrArg (fun z => z.testBit c) h
    simp only [andn_bit, msk_bit, Nat.zero_testBit, hc, decide_true, Bool.true_and, hv, Bool.not_false, Bool.and_true] at this
    exact this
  · intro h
    apply Nat.eq_of_testBit_eq
    intro i
    rw [andn_bit, msk_bit, Nat.zero_testBit]
    by_cases hi : i < k
    · cases hv : v.testBit i
      · rw [h i hi hv]
        simp
      · simp
    · simp [hi]
theorem c_unt {m : pw_Mem} {t : TT} (h : CT m 1 t) (w : WT t) (hg : ∀ b, b < tK t → m 49 b = iI (msk (crB t b) (tK t) : Nat)) {v : Nat} (hv : v < 1024) : fX6_isUntangled (iI (v : Int)) m = some (untB t v) := by
  have hk := w.1.2.1
  unfold fX6_isUntangled
  refine lpI1 (fun i z => z = iI (i : Nat) ∧ ∀ b, b < i → v.testBit b = false → ∀ c, c < tK t → v.testBit c = false → crB t b c = false) (fun r => r = some (untB t v)) (tK t) (by omega) ?_ ?_ ⟨rfl, fun b hb => absurd hb (Nat.not_lt_zero b)⟩
  · rintro nx i _ hi ⟨rfl, hlow⟩ hnx
    have hb := bit0 (s := v) (b := i) (by omega) (by omega)
    have eg : m 49 (iI (i : Int)).toNatClampNeg = iI (msk (crB t i) (tK t) : Nat) := by
      rw [clN (by omega)]
      exact hg i hi
    have mb := msk_lt' (crB t i) hk
    have an : iI (msk (crB t i) (tK t) : Nat) &&& (iI (v : Nat) ^^^ -1) = iI ((andn (msk (crB t i) (tK t)) v : Nat) : Int) := iI_andn (by omega) (by omega)
    have ab : andn (msk (crB t i) (tK t)) v < 2 ^ 10 := andn_lt mb
    have go : (v.testBit i = false → ∀ c, c < tK t → v.testBit c = false → crB t i c = false) → nx (iI ((i + 1 : Nat) : Int)) = some (untB t v) := fun hz => hnx _ ⟨rfl, fun b hb' => by
      by_cases e : b = i
      · rw [e]
        exact hz
      · exact hlow b (by omega)⟩
    rw [h.1.2.1, leF (by omega), jn_def, lt_def, inc1]
    cases hq : v.testBit i
    · rw [if_pos (hb.mpr hq), gdN (by omega), eg, an]
      by_cases k : andn (msk (crB t i) (tK t)) v = 0
      · rw [eq0T (by omega)]
        exact go (fun _ => andn_0.mp k)
      · rw [eq0F (by omega)]
        cases hu : untB t v
        · rfl
        · exact absurd (andn_0.mpr (fun c hc hvc => untB_t.mp hu i c hi hc hq hvc)) k
    · rw [if_neg (fun z => by rw [hb.mp z] at hq; exact absurd hq (by decide))]
      exact go (fun z => by rw [hq] at z; exact absurd z (by decide))
  · rintro nx _ ⟨rfl, hlow⟩
    rw [h.1.2.1, leT (by omega), untB_t.mpr (fun b c hb hc h1 h2 => hlow b hb h1 c hc h2)]
theorem r_tang {m : pw_Mem} {t : TT} (h : RT m 72 t) (w : WT t) {v : Nat} (hv : v < 1024) : fX11_isTangled (iI (v : Int)) m = some (!untB t v) := by
  have hk := w.1.2.1
  have eK : m 72 (1 : Int32).toNatClampNeg = iI (tK t : Nat) := h.1.2.1
  have bad : ∀ a b, a < tK t → b < tK t → v.testBit a = false → v.testBit b = false → crB t a b = true → some true = some (!untB t v) := fun a b ha hb h1 h2 h3 => by
    cases hu : untB t v
    · rfl
    · rw [untB_t.mp hu a b ha hb h1 h2] at h3
      exact absurd h3 (by decide)
  unfold fX11_isTangled
  refine lpI1 (fun i z => z = iI (i : Nat) ∧ ∀ a, a < i → ∀ b, b < tK t → a < b → v.testBit a = false → v.testBit b = false → crB t a b = false) (fun r => r = some (!untB t v)) (tK t) (by omega) ?_ ?_ ⟨rfl, fun b hb => absurd hb (Nat.not_lt_zero b)⟩
  · rintro nx i _ hi ⟨rfl, hlow⟩ hnx
    rw [gd_true (by decide), eK, leF (by omega), lt_def, inc1]
    refine lpI1 (fun j z => z = iI ((i + 1 + j : Nat) : Int) ∧ ∀ b, b < i + 1 + j → i < b → v.testBit i = false → v.testBit b = false → crB t i b = false) (fun r => r = some (!untB t v)) (tK t - (i + 1)) (by omega) ?_ ?_ ⟨rfl, fun b hb hb2 => by omega⟩
    · rintro nx2 j _ hj ⟨rfl, hl2⟩ hnx2
      obtain ⟨b, hb⟩ : ∃ b, b = i + 1 + j := ⟨_, rfl⟩
      have eb : i + 1 + (j + 1) = b + 1 := by omega
      rw [eb] at hnx2
      rw [← hb] at hl2 ⊢
      have hbK : b < tK t := by omega
      have go : (v.testBit i = false → v.testBit b = false → crB t i b = false) → nx2 (iI ((b + 1 : Nat) : Int)) = some (!untB t v) := fun hz => hnx2 _ ⟨rfl, fun c hc hic h1 h2 => by
        by_cases e : c = b
        · rw [e] at h2 ⊢
          exact hz h1 h2
        · exact hl2 c (by omega) hic h1 h2⟩
      rw [gd_true (by decide), leF (by omega), r_isWhole h w hi, bd_some, jn_def, jn_def]
      cases hx1 : tX t i
      · rw [if_pos (by rfl), r_isWhole h w hbK, bd_some]
        cases hx2 : tX t b
        · rw [if_pos (by rfl), r_has _ _ _ (by omega) (by omega), bd_some]
          cases hv1 : v.testBit i
          · rw [itF, r_has _ _ _ (by omega) (by omega), bd_some]
            cases hv2 : v.testBit b
            · rw [itF]
              dsimp only
              rw [jn_def, if_neg (by decide), r_cross h w hi hbK, bd_some]
              have hc : crB t i b = (rinB t i b || rinB t b i) := by unfold crB; rw [hx1, hx2]; rfl
              rw [← hc]
              cases hr : crB t i b
              · rw [itF, lt_def, inc1]
                exact go (fun _ _ => hr)
              · rw [itT]
                exact bad i b hi hbK hv1 hv2 hr
            · rw [itT]
              dsimp only
              rw [jn_def, if_pos (by rfl), lt_def, inc1]
              exact go (fun _ z => by rw [hv2] at z; exact absurd z (by decide))
          · rw [itT]
            dsimp only
            rw [jn_def, if_pos (by rfl), lt_def, inc1]
            exact go (fun z => by rw [hv1] at z; exact absurd z (by decide))
        · rw [if_neg (by decide)]
          dsimp only
          rw [jn_def, if_pos (by rfl), lt_def, inc1]
          exact go (fun _ _ => by unfold crB; rw [hx1, hx2]; rfl)
      · rw [if_neg (by decide)]
        dsimp only
        rw [jn_def, if_pos (by rfl), lt_def, inc1]
        exact go (fun _ _ => by unfold crB; rw [hx1]; rfl)
    · rintro nx2 _ ⟨rfl, hl2⟩
      rw [gd_true (by decide), leT (by omega), lt_def]
      refine hnx _ ⟨rfl, fun a ha b hb hab h1 h2 => ?_⟩
      by_cases e : a = i
      · rw [e] at hab h1 ⊢
        exact hl2 b (by omega) hab h1 h2
      · exact hlow a (by omega) b hb hab h1 h2
  · rintro nx _ ⟨rfl, hlow⟩
    rw [gd_true (by decide), eK, leT (by omega)]
    have : untB t v = true := untB_t.mpr (fun a b ha hb h1 h2 => by
      rcases Nat.lt_trichotomy a b with q | q | q
      · exact hlow a ha b hb q h1 h2
      · rw [q, crB_i]
      · rw [crB_s]
        exact hlow b hb a ha q h2 h1)
    rw [this]
    rfl
def sU (t : TT) (st : Nat) : Nat → Nat
  | 0 => st
  | v + 1 => if cb10 v < cb10 (sU t st v) ∧ untB t v = true then v else sU t st v
theorem sU_s (t : TT) (st v : Nat) : sU t st (v + 1) = if cb10 v < cb10 (sU t st v) ∧ untB t v = true then v else sU t st v := rfl
theorem sU_same {t : TT} {s1 s2 v : Nat} (h : sU t s1 v = sU t s2 v) : ∀ d, sU t s1 (v + d) = sU t s2 (v + d)
  | 0 => h
  | d + 1 => by
    have ih := sU_same h d
    show sU t s1 ((v + d) + 1) = sU t s2 ((v + d) + 1)
    rw [sU_s, sU_s, ih]
theorem sU_lt {t : TT} {st B : Nat} (h : st < B) : ∀ v, v ≤ B → sU t st v < B
  | 0, _ => h
  | v + 1, hv => by
    rw [sU_s]
    split
    · omega
    · exact sU_lt h v (by omega)
/-- both beginnings come to one end -/
theorem sU_two {t : TT} {s1 s2 : Nat} (h12 : cb10 s2 ≤ cb10 s1) : ∀ v, sU t s1 v = sU t s2 v ∨ (sU t s2 v = s2 ∧ cb10 s2 ≤ cb10 (sU t s1 v) ∧ ∀ u, u < v → untB t u = true → cb10 s2 ≤ cb10 u)
  | 0 => Or.inr ⟨rfl, h12, fun u hu => absurd hu (Nat.not_lt_zero u)⟩
  | v + 1 => by
    rcases sU_two h12 v with h | ⟨h1, h2, h3⟩
    · exact Or.inl (sU_same h 1)
    · rw [sU_s, sU_s, h1]
      by_cases c : cb10 v < cb10 s2 ∧ untB t v = true
      · rw [if_pos ⟨by omega, c.2⟩, if_pos c]
        exact Or.inl rfl
      · rw [if_neg c]
        have h4 : ∀ u, u < v + 1 → untB t u = true → cb10 s2 ≤ cb10 u := fun u hu hut => by
          by_cases e : u = v
          · subst e
            by_cases q : cb10 u < cb10 s2
            · exact absurd ⟨q, hut⟩ c
            · omega
          · exact h3 u (by omega) hut
        refine Or.inr ⟨rfl, ?_, h4⟩
        split
        · rename_i q
          exact h4 v (by omega) q.2
        · exact h2
theorem cb_all {k : Nat} (hk : k ≤ 10) : cb10 (2 ^ k - 1) = k := by
  unfold cb10
  have h : cnt (fun b => (2 ^ k - 1).testBit b) 10 = cnt (fun b => decide (b < k) && true) 10 := cnt_congr fun b _ => by
    rw [Nat.testBit_two_pow_sub_one, Bool.and_true]
  rw [h, cnt_cut (fun _ => true) k 10 hk]
  have : ∀ n, cnt (fun _ => true) n = n := by
    intro n
    induction n with
    | zero => rfl
    | succ n ih => simp only [cnt, ih, if_true]
  exact this k
theorem sU_end {t : TT} (w : WT t) : sU t (2 ^ tK t - 1) (2 ^ tK t) = sU t (whl t) (2 ^ tK t) := by
  have hk := w.1.2.1
  have hp0 : 0 < 2 ^ tK t := Nat.pow_pos (by omega)
  have ca := cb_all hk
  have cw : cb10 (whl t) = nWh t := whl_cnt w
  have hn : nWh t ≤ tK t := cnt_le _ _
  rcases low_ex (fun b => !tX t b) (tK t) with h0 | ⟨b0, hb0, hx0, -⟩
  · -- nothing is whole
    have hX : ∀ b, b < tK t → tX t b = true := fun b hb => by simpa using h0 b hb
    have w0 : whl t = 0 := by
      apply Nat.eq_of_testBit_eq
      intro i
      rw [Nat.zero_testBit]
      by_cases hi : i < tK t
      · rw [whl_bit t hi, hX i hi]
        rfl
      · have wl : whl t < 2 ^ tK t := by
          unfold whl
          exact andn_lt (by omega)
        exact Nat.testBit_lt_two_pow (Nat.lt_of_lt_of_le wl (Nat.pow_le_pow_right (by omega) (by omega)))
    by_cases k0 : tK t = 0
    · rw [w0, k0]
    · have u0 : untB t 0 = true := untB_t.mpr (fun b c hb hc _ _ => by
        unfold crB
        rw [hX b hb]
        rfl)
      have c0 : cb10 0 = 0 := by
        unfold cb10
        exact cnt_z fun b _ => Nat.zero_testBit b
      have e1 : sU t (2 ^ tK t - 1) 1 = 0 := by
        have : sU t (2 ^ tK t - 1) 1 = if cb10 0 < cb10 (2 ^ tK t - 1) ∧ untB t 0 = true then 0 else 2 ^ tK t - 1 := rfl
        rw [this, if_pos ⟨by omega, u0⟩]
      have e2 : sU t (whl t) 1 = 0 := by
        have : sU t (whl t) 1 = if cb10 0 < cb10 (whl t) ∧ untB t 0 = true then 0 else whl t := rfl
        rw [this, w0]
        split <;> rfl
      have := sU_same (e1.trans e2.symm) (2 ^ tK t - 1)
      rw [show 1 + (2 ^ tK t - 1) = 2 ^ tK t by omega] at this
      exact this
  · -- one can be spared
    have hx : tX t b0 = false := by simpa using hx0
    rcases sU_two (t := t) (s1 := 2 ^ tK t - 1) (s2 := whl t) (by omega) (2 ^ tK t) with h | ⟨-, -, h3⟩
    · exact h
    · have wl : whl t < 2 ^ tK t := by
        unfold whl
        exact andn_lt (by omega)
      have ul : andn (whl t) (2 ^ b0) < 2 ^ tK t := andn_lt wl
      have hbit : ∀ i, i < tK t → (andn (whl t) (2 ^ b0)).testBit i = (!tX t i && !decide (b0 = i)) := fun i hi => by
        rw [andn_bit, whl_bit t hi, Nat.testBit_two_pow]
      have ut : untB t (andn (whl t) (2 ^ b0)) = true := untB_t.mpr (fun b c hb hc h1 h2 => by
        rw [hbit b hb] at h1
        rw [hbit c hc] at h2
        by_cases e1 : b0 = b
        · by_cases e2 : b0 = c
          · rw [← e1, ← e2, crB_i]
          · rw [decide_eq_false e2] at h2
            cases q : tX t c
            · rw [q] at h2
              exact absurd h2 (by decide)
            · unfold crB
              rw [q]
              cases tX t b <;> rfl
        · rw [decide_eq_false e1] at h1
          cases q : tX t b
          · rw [q] at h1
            exact absurd h1 (by decide)
          · unfold crB
            rw [q]
            rfl)
      have := h3 _ ul ut
      have lt : cb10 (andn (whl t) (2 ^ b0)) + 1 ≤ cb10 (whl t) := by
        unfold cb10
        refine cnt_lt (b := b0) (fun b _ h => ?_) (by omega) ?_ ?_
        · rw [andn_bit, Bool.and_eq_true] at h
          exact h.1
        · rw [whl_bit t hb0, hx]
          rfl
        · rw [hbit b0 hb0, hx]
          simp
      omega
theorem op_untangle {m : pw_Mem} (hs : Sim m) : OpWR fX10_untangle fX11_untangle m := by
  obtain ⟨s, hC, hM, w⟩ := hs
  have w1 := w.1.1
  have hk := w1.1.2.1
  obtain ⟨m2, q2, g2, f2⟩ := c_crossed hC.1 w1
  have hC2 : CS m2 s := CS_f hC (fun c hc => f2 c (by omega))
  have hM2 : MS m2 s := MS_c hM (fun c hc => f2 c (by omega))
  obtain ⟨hsh, hp, hp0⟩ := sh_K w1
  have se := sU_end w1
  have wl : whl s.1 < 2 ^ tK s.1 := by
    unfold whl
    exact andn_lt (by omega)
  obtain ⟨S, hS⟩ : ∃ S, S = 2 ^ (tK s.1) := ⟨_, rfl⟩
  rw [← hS] at hsh hp hp0 se wl
  clear hS
  have stp : ∀ (st v : Nat), st < S → v < S → sU s.1 st v < S := fun st v h1 h2 => sU_lt h1 v (by omega)
  refine ⟨iI (sU s.1 (S - 1) S : Nat), m2, ?_, ?_, s, hC2, hM2, w⟩
  · have es : iI (S : Int) - 1 = iI ((S - 1 : Nat) : Int) := by
      have : iI (S : Int) - 1 = iI ((S : Int) - 1) := iI_sub _ 1
      rw [this]
      exact congrArg iI (by omega)
    unfold fX10_untangle fX6_fewestInTheWay
    rw [q2, bd_some, hC2.1.1.2.1, hsh, lt_def, es, lt_def]
    have key : lp (κ := Int32 → Int32 → Option (Int32 × pw_Mem)) (fun _ _ => none) (fun nx6 v4 v5 => if iI (S : Int) ≤ v5 then some (v4, m2) else bd (fJ6_bitCount_0f7a4 v5 m2) fun y8 => bd (fJ6_bitCount_0f7a4 v4 m2) fun y9 => jn (κ := Int32 → Option (Int32 × pw_Mem)) (fun v10 => lt (v5 + (1 : Int32)) fun x11 => nx6 v10 x11) (fun k12 => if y9 ≤ y8 then k12 v4 else bd (fX6_isUntangled v5 m2) fun y14 => if y14 = true then k12 v5 else k12 v4)) FU (iI ((S - 1 : Nat) : Int)) (0 : Int32) = some (iI (sU s.1 (S - 1) S : Nat), m2) := by
      refine lpI2 (fun v v4 v5 => v4 = iI (sU s.1 (S - 1) v : Nat) ∧ v5 = iI (v : Nat)) (fun r => r = some (iI (sU s.1 (S - 1) S : Nat), m2)) S (by omega) ?_ ?_ ⟨rfl, rfl⟩
      · rintro nx v _ _ hv ⟨rfl, rfl⟩ hnx
        have hb := stp (S - 1) v (by omega) hv
        have c1 : fJ6_bitCount_0f7a4 (iI (v : Int)) m2 = some (iI (cb10 v : Nat)) := c_bits (by omega) m2
        have c2 : fJ6_bitCount_0f7a4 (iI (sU s.1 (S - 1) v : Int)) m2 = some (iI (cb10 (sU s.1 (S - 1) v) : Nat)) := c_bits (by omega) m2
        have b1 : cb10 v ≤ 10 := cnt_le _ _
        have b2 : cb10 (sU s.1 (S - 1) v) ≤ 10 := cnt_le _ _
        have no : ¬ (cb10 v < cb10 (sU s.1 (S - 1) v) ∧ untB s.1 v = true) → nx (iI (sU s.1 (S - 1) v : Nat)) (iI ((v + 1 : Nat) : Int)) = some (iI (sU s.1 (S - 1) S : Nat), m2) := fun h => hnx _ _ ⟨by rw [sU_s, if_neg h], rfl⟩
        rw [leF (by omega), c1, bd_some, c2, bd_some, jn_def]
        by_cases k : cb10 (sU s.1 (S - 1) v) ≤ cb10 v
        · rw [leT (by omega)]
          simp only [lt_def, inc1]
          exact no (by omega)
        · rw [leF (by omega), c_unt hC2.1 w1 g2 (by omega), bd_some]
          cases hu : untB s.1 v
          · rw [itF]
            simp only [lt_def, inc1]
            exact no (by rw [hu]; exact fun z => absurd z.2 (by decide))
          · rw [itT]
            simp only [lt_def, inc1]
            exact hnx _ _ ⟨by rw [sU_s, if_pos ⟨by omega, hu⟩], rfl⟩
      · rintro nx _ _ ⟨rfl, rfl⟩
        rw [leT (by omega)]
    rw [key, bd2_some]
  · have eK : m2 72 (1 : Int32).toNatClampNeg = iI (tK s.1 : Nat) := hM2.1.1.2.1
    unfold fX11_untangle
    rw [r_wholeSet hM2.1 w1, bd_some, se]
    refine lpI2 (fun v v4 v5 => v4 = iI (sU s.1 (whl s.1) v : Nat) ∧ v5 = iI (v : Nat)) (fun r => r = some (iI (sU s.1 (whl s.1) S : Nat))) S (by omega) ?_ ?_ ⟨rfl, rfl⟩
    · rintro nx v _ _ hv ⟨rfl, rfl⟩ hnx
      have hb := stp (whl s.1) v (by omega) hv
      have c1 : fX11_bits (iI (v : Int)) m2 = some (iI (cb10 v : Nat)) := r_bits (by omega) m2
      have c2 : fX11_bits (iI (sU s.1 (whl s.1) v : Int)) m2 = some (iI (cb10 (sU s.1 (whl s.1) v) : Nat)) := r_bits (by omega) m2
      have b1 : cb10 v ≤ 10 := cnt_le _ _
      have b2 : cb10 (sU s.1 (whl s.1) v) ≤ 10 := cnt_le _ _
      have no : ¬ (cb10 v < cb10 (sU s.1 (whl s.1) v) ∧ untB s.1 v = true) → nx (iI (sU s.1 (whl s.1) v : Nat)) (iI ((v + 1 : Nat) : Int)) = some (iI (sU s.1 (whl s.1) S : Nat)) := fun h => hnx _ _ ⟨by rw [sU_s, if_neg h], rfl⟩
      rw [gd_true (by decide), eK, hsh, leF (by omega), c1, bd_some, c2, bd_some, jn_def]
      by_cases k : cb10 (sU s.1 (whl s.1) v) ≤ cb10 v
      · rw [leT (by omega)]
        simp only [lt_def, inc1]
        exact no (by omega)
      · rw [leF (by omega), r_tang hM2.1 w1 (by omega), bd_some]
        cases hu : untB s.1 v
        · rw [if_pos (by rfl)]
          simp only [lt_def, inc1]
          exact no (by rw [hu]; exact fun z => absurd z.2 (by decide))
        · rw [if_neg (by decide)]
          simp only [lt_def, inc1]
          exact hnx _ _ ⟨by rw [sU_s, if_pos ⟨by omega, hu⟩], rfl⟩
    · rintro nx _ _ ⟨rfl, rfl⟩
      rw [gd_true (by decide), eK, hsh, leT (by omega)]
