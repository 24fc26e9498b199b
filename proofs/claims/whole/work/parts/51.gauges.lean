/-! CALLS: gauges -/
set_option maxRecDepth 100000
def pvl (k f i : Nat) : Nat := (i - slk k f) * gau k
def okB (h : ShT) (k f i : Nat) : Bool := decide (hE h i = lst (hS h)) || decide (hE h i = ((pvl k f i : Nat) : Int))
theorem pvl_le {k f i : Nat} (hi : i ≤ 100) : pvl k f i ≤ 400 := by
  have h := (gau_le (k := k)).1
  exact Nat.mul_le_mul (show i - slk k f ≤ 100 by omega) h
theorem allB_f {P : Nat → Bool} {j : Nat} (h : P j = false) : ∀ {k : Nat}, j < k → allB P k = false
  | 0, q => absurd q (Nat.not_lt_zero j)
  | k + 1, q => by
    simp only [allB]
    by_cases e : j = k
    · subst e
      rw [h, Bool.and_false]
    · rw [allB_f h (show j < k by omega)]
      rfl
theorem c_pullsAs {m : pw_Mem} {s : SS} (h : CS m s) (w : WS s) {n : Nat} (hn : n < 8) (hh : hH (s.2.2 n) = 2) {k f : Nat} (hk : k ≤ 7) (hf : f ≤ 9) : fX2_pullsAs (55 + 2 * n) (iI k) (iI f) m = some (allB (okB (s.2.2 n) k f) (hL (s.2.2 n))) := by
  obtain ⟨e4, e5, e6⟩ := (h.2.2.2 n hn).2.2 hh
  obtain ⟨w3, wL, wE⟩ := (w.2.2 n hn).2.2 hh
  have stepT : ∀ (nx : Int32 → Option Bool) (i : Nat), i < hL (s.2.2 n) → okB (s.2.2 n) k f i = true → (if (m (55 + 2 * n) 5) ≤ iI (i : Int) then some true else bd (fX5_isSkipped (55 + 2 * n) (iI i) m) fun y4 => jn (κ := Option Bool) (lt (iI (i : Int) + (1 : Int32)) fun x5 => nx x5) (fun k6 => if y4 = true then k6 else bd (fX5_at (55 + 2 * n) (iI i) m) fun y8 => bd (fX3_pull (iI k) (iI f) (iI i) m) fun y9 => if y8 = y9 then k6 else some false)) = nx (iI ((i + 1 : Nat) : Int)) := by
    intro nx i hi ho
    have we := (wE i hi).1
    have pb := pvl_le (k := k) (f := f) (show i ≤ 100 by omega)
    have e1 : iI (i : Int) + 1 = iI ((i + 1 : Nat) : Int) := iN_add i 1
    have ep : fX3_pull (iI k) (iI f) (iI i) m = some (iI (pvl k f i : Nat)) := c_kpull k f i m hk hf (by omega)
    rw [e5, if_neg (by rw [iI_le (by omega) (by omega) (by omega) (by omega)]; omega), c_skip h w hn hh hi, bd_some, jn_def, lt_def, e1, c_at h w hn hh hi, bd_some, ep, bd_some]
    unfold okB at ho
    by_cases c1 : hE (s.2.2 n) i = lst (hS (s.2.2 n))
    · rw [decide_eq_true c1, if_pos rfl]
    · rw [decide_eq_false c1, if_neg (by decide)]
      rw [decide_eq_false c1, Bool.false_or] at ho
      rw [if_pos (by rw [of_decide_eq_true ho])]
  have stepF : ∀ (nx : Int32 → Option Bool) (i : Nat), i < hL (s.2.2 n) → okB (s.2.2 n) k f i = false → (if (m (55 + 2 * n) 5) ≤ iI (i : Int) then some true else bd (fX5_isSkipped (55 + 2 * n) (iI i) m) fun y4 => jn (κ := Option Bool) (lt (iI (i : Int) + (1 : Int32)) fun x5 => nx x5) (fun k6 => if y4 = true then k6 else bd (fX5_at (55 + 2 * n) (iI i) m) fun y8 => bd (fX3_pull (iI k) (iI f) (iI i) m) fun y9 => if y8 = y9 then k6 else some false)) = some false := by
    intro nx i hi ho
    have we := (wE i hi).1
    have pb := pvl_le (k := k) (f := f) (show i ≤ 100 by omega)
    have ep : fX3_pull (iI k) (iI f) (iI i) m = some (iI (pvl k f i : Nat)) := c_kpull k f i m hk hf (by omega)
    unfold okB at ho
    rw [Bool.or_eq_false_iff] at ho
    rw [e5, if_neg (by rw [iI_le (by omega) (by omega) (by omega) (by omega)]; omega), c_skip h w hn hh hi, bd_some, jn_def, c_at h w hn hh hi, bd_some, ep, bd_some, ho.1, if_neg (by decide), if_neg (by rw [iI_eq (by omega) (by omega) (by omega) (by omega)]; exact of_decide_eq_false ho.2)]
  unfold fX2_pullsAs
  rcases low_ex (fun i => !okB (s.2.2 n) k f i) (hL (s.2.2 n)) with hno | ⟨b, hb, hb1, hb2⟩
  · have hA : allB (okB (s.2.2 n) k f) (hL (s.2.2 n)) = true := allB_t.mpr (fun p hp => by
      have := hno p hp
      simpa using this)
    rw [hA]
    refine lpI1 (fun i v => v = iI (i : Nat)) (fun r => r = some true) (hL (s.2.2 n)) (by omega) ?_ ?_ rfl
    · rintro nx i _ hi rfl hnx
      rw [stepT nx i hi (by have := hno i hi; simpa using this)]
      exact hnx _ rfl
    · rintro nx _ rfl
      rw [e5, if_pos (by rw [iI_le (by omega) (by omega) (by omega) (by omega)]; omega)]
  · have hbf : okB (s.2.2 n) k f b = false := by simpa using hb1
    rw [allB_f hbf hb]
    refine lpI1 (fun i v => v = iI (i : Nat)) (fun r => r = some false) b (by omega) ?_ ?_ rfl
    · rintro nx i _ hi rfl hnx
      rw [stepT nx i (by omega) (by have := hb2 i hi; simpa using this)]
      exact hnx _ rfl
    · rintro nx _ rfl
      exact stepF nx b hb hbf
