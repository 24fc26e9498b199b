/-! CALLS: town -/
set_option maxRecDepth 100000
def qk (h : ShT) (q : Nat) : Nat → Nat
  | 0 => q
  | k + 1 => nxt h (qk h q k)
theorem qk_s (h : ShT) (q : Nat) : ∀ k, qk h (nxt h q) k = qk h q (k + 1)
  | 0 => rfl
  | k + 1 => by
    show nxt h (qk h (nxt h q) k) = nxt h (qk h q (k + 1))
    rw [qk_s h q k]
theorem qk_mono (h : ShT) (q : Nat) : ∀ d k, qk h q k + 2 * d ≤ qk h q (k + d)
  | 0, k => Nat.le_refl _
  | d + 1, k => by
    have ih := qk_mono h q d k
    have e : qk h q (k + (d + 1)) = nxt h (qk h q (k + d)) := rfl
    rw [e]
    unfold nxt
    omega
/-- a text without fault is so many statements -/
theorem form_ok {h : ShT} : ∀ f q, hL h < q + f → q < hL h → flt h f q = -1 → ∃ M, 0 < M ∧ qk h q M = hL h ∧ ∀ k, k < M → GS h (qk h q k)
  | 0, q, h1, h2, _ => by omega
  | f + 1, q, h1, h2, h3 => by
    rcases low_ex (bdj h q) (dgN (hE h q) + 2) with g | ⟨b, b1, b2, b3⟩
    · rw [flt_good g] at h3
      by_cases k : nxt h q < hL h
      · rw [if_pos k] at h3
        have hn : nxt h q = q + dgN (hE h q) + 2 := rfl
        obtain ⟨M, m1, m2, m3⟩ := form_ok f (nxt h q) (by omega) k h3
        refine ⟨M + 1, by omega, by rw [← qk_s]; exact m2, fun j hj => ?_⟩
        cases j with
        | zero => exact g
        | succ j =>
          rw [← qk_s]
          exact m3 j (by omega)
      · have := GS_e g
        refine ⟨1, by omega, ?_, fun j hj => ?_⟩
        · show nxt h q = hL h
          omega
        · rw [show j = 0 by omega]
          exact g
    · rw [flt_bad b1 b2 b3] at h3
      omega
def tw (h : ShT) (t : TT) : Nat → TT
  | 0 => t
  | k + 1 => (ex h (tw h t k) (qk h 0 k)).getD (tw h t k)
def okX (h : ShT) (t : TT) (k : Nat) : Bool := (ex h (tw h t k) (qk h 0 k)).isSome
theorem tw_s {h : ShT} {t u : TT} {k : Nat} (he : ex h (tw h t k) (qk h 0 k) = some u) : tw h t (k + 1) = u := by
  show (ex h (tw h t k) (qk h 0 k)).getD (tw h t k) = u
  rw [he]
  rfl
theorem tw_WU {h : ShT} {t : TT} (wu : WU t) {M : Nat} (hg : ∀ k, k < M → GS h (qk h 0 k)) : ∀ k, k ≤ M → WU (tw h t k)
  | 0, _ => wu
  | k + 1, hk => by
    have ih := tw_WU wu hg k (by omega)
    cases he : ex h (tw h t k) (qk h 0 k) with
    | none =>
      have : tw h t (k + 1) = tw h t k := by
        show (ex h (tw h t k) (qk h 0 k)).getD (tw h t k) = tw h t k
        rw [he]
        rfl
      rw [this]
      exact ih
    | some u =>
      rw [tw_s he]
      exact ex_WU ih (hg k (by omega)) he
/-- a call that changes the town, and uses what no later call reads -/
theorem op_townG {α : Type} {m : pw_Mem} {f g : pw_Mem → Option (α × pw_Mem)} {s : SS} (hC : CS m s) (hM : MS m s) (w : WS s) {r : α} {t : TT} (wt : WU t)
    (hc : ∃ m1, f m = some (r, m1) ∧ CT m1 1 t ∧ ∀ c, c < 1 ∨ 24 < c → m1 c = m c)
    (hm : ∀ m1, MS m1 s → ∃ m2, g m1 = some (r, m2) ∧ RT m2 72 t ∧ m2 71 5 = m1 71 5 ∧ ∀ c, c ≠ 71 → c ≠ 72 → c ≠ 73 → c ≠ 75 → c ≠ 76 → c ≠ 77 → c ≠ 78 → c ≠ 79 → m2 c = m1 c) : OpWW f g m := by
  obtain ⟨m1, q1, g1, f1⟩ := hc
  have hM1 : MS m1 s := MS_c hM (fun c hc => f1 c (by omega))
  obtain ⟨m2, q2, g2, f5, f2⟩ := hm m1 hM1
  have hC1 : CS m1 (t, s.2) := by
    refine ⟨g1, ?_, fun ti hti => CT_frame (hC.2.2.1 ti hti) (fun c h1 h2 => f1 c (by omega)), fun d hd => CSh_f (hC.2.2.2 d hd) (f1 _ (by omega)) (f1 _ (by omega))⟩
    rw [f1 0 (by omega)]
    exact hC.2.1
  refine ⟨r, m1, m2, q1, q2, (t, s.2), CS_m hC1 (fun c hc => f2 c (by omega) (by omega) (by omega) (by omega) (by omega) (by omega) (by omega) (by omega)), MS_t hM1 g2 f5 (fun c hc => f2 c (by omega) (by omega) (by omega) (by omega) (by omega) (by omega) (by omega) (by omega)), wt, w.2⟩
def P2X (x13 : Int32) : Int32 → pw_Mem → Option (Int32 × pw_Mem) := lp (κ := Int32 → pw_Mem → Option (Int32 × pw_Mem)) (fun _ _ => none) (fun nx18 v16 m17 => jn (κ := Option (Int32 × pw_Mem)) (if v16 = 0 then some (x13, m17) else some (v16, m17)) (fun k22 => if v16 = 0 then if (m17 71 8) ≤ (m17 71 6) then k22 else lt (m17 71 6) fun x24 => bd (fX11_here m17) fun y25 => bd2 (fX11_readsStatement m17) fun y26 m27 => bd2 (fX11_isDone y25 m27) fun y28 m29 => if y28 = true then nx18 v16 m29 else lt ((-2000 : Int32) - x24) fun x30 => bd (fX11_copies 75 72 m29) fun m31 => nx18 x30 m31 else k22)) FU
def FRt (m m' : pw_Mem) : Prop := m' 71 5 = m 71 5 ∧ ∀ c, c ≠ 71 → c ≠ 72 → c ≠ 73 → c ≠ 75 → c ≠ 76 → c ≠ 77 → c ≠ 78 → c ≠ 79 → m' c = m c
/-- the second pass of the reference behind a fault of the form -/
theorem r_p2f (x13 : Int32) {v : Int32} (hv : ¬ v = 0) (m : pw_Mem) : P2X x13 v m = some (v, m) := by
  unfold P2X
  refine lpI2 (fun _ v16 m17 => v16 = v ∧ m17 = m) (fun r => r = some (v, m)) 0 (by omega) ?_ ?_ ⟨rfl, rfl⟩
  · rintro nx i _ _ hi
    omega
  · rintro nx _ _ ⟨rfl, rfl⟩
    rw [jn_def, if_neg hv, if_neg hv]
theorem r_p2 {h : ShT} {n M : Nat} {m : pw_Mem} {t : TT} (hw : WR h n) (wu : WU t) (hM : qk h 0 M = hL h) (hg : ∀ k, k < M → GS h (qk h 0 k)) (hT : TX h n m 0) (hR : RT m 72 t) (hB : RT m 75 t) {R : Int} (hR1 : (∀ k, k < M → okX h t k = true) → R = M) (hR2 : ∀ k, k < M → (∀ j, j < k → okX h t j = true) → okX h t k = false → R = -2000 - (qk h 0 k : Int)) {TF : TT} (hF1 : (∀ k, k < M → okX h t k = true) → TF = tw h t M) (hF2 : ∀ k, k < M → okX h t k = false → TF = t) : ∃ m2, P2X (iI (M : Int)) 0 m = some (iI R, m2) ∧ RT m2 72 TF ∧ FRt m m2 := by
  have hL100 := hw.2.1
  have M50 : 2 * M ≤ 100 := by
    have := qk_mono h 0 M 0
    rw [Nat.zero_add, hM] at this
    omega
  unfold P2X
  refine lpI2 (fun k v16 (m17 : pw_Mem) => FRt m m17 ∧ ((v16 = 0 ∧ (∀ j, j < k → okX h t j = true) ∧ TX h n m17 (qk h 0 k) ∧ RT m17 72 (tw h t k) ∧ RT m17 75 t) ∨ (v16 = iI R ∧ -100000 ≤ R ∧ R < 0 ∧ RT m17 72 TF))) (fun r => ∃ m2, r = some (iI R, m2) ∧ RT m2 72 TF ∧ FRt m m2) M (by omega) ?_ ?_ ⟨⟨rfl, fun _ _ _ _ _ _ _ _ _ => rfl⟩, Or.inl ⟨rfl, fun j hj => absurd hj (Nat.not_lt_zero j), hT, hR, hB⟩⟩
  · rintro nx k v16 m17 hk ⟨⟨f5, f17⟩, hs⟩ hnx
    rcases hs with ⟨rfl, hlow, hT17, h72, h75⟩ | ⟨rfl, r1, r2, h72⟩
    · have gk := hg k hk
      obtain ⟨l1, l2⟩ := GS_l gk
      have ge := GS_e gk
      have wk := tw_WU wu hg k (by omega)
      obtain ⟨q1, b1, b2⟩ := r_here hw hT17 (by omega)
      have hlt : hE h (qk h 0 k) = 98 ∨ hE h (qk h 0 k) = 99 ∨ hE h (qk h 0 k) = 103 ∨ hE h (qk h 0 k) = 112 ∨ hE h (qk h 0 k) = 120 ∨ hE h (qk h 0 k) = 121 := letters l2
      have ech : chN h (qk h 0 k) = hE h (qk h 0 k) := (ch_eq hw (by omega) (by omega)).mpr ⟨l1, rfl⟩
      obtain ⟨b, m27, q27, sr⟩ := r_stm hw hT17 (by omega)
      have hb : b = true := by
        cases b
        · obtain ⟨j, j1, j2, -, -⟩ := sr.2.2 rfl
          rw [gk j j1] at j2
          exact absurd j2 (by decide)
        · rfl
      subst hb
      obtain ⟨rf, s1, -⟩ := sr
      obtain ⟨-, s6, sN⟩ := s1 rfl
      have T27 : TX h n m27 (qk h 0 (k + 1)) := TX_f hT17 rf s6
      have h72' : RT m27 72 (tw h t k) := RT_frame h72 (rf.1 72 (by omega) (by omega))
      have h75' : RT m27 75 t := RT_frame h75 (rf.1 75 (by omega) (by omega))
      obtain ⟨d, m29, q29, f29, xr⟩ := r_exec gk h72' wk sN
      have e71 : m29 71 = m27 71 := f29 71 (by omega) (by omega)
      have e85 : m29 85 = m27 85 := f29 85 (by omega) (by omega)
      have T29 : TX h n m29 (qk h 0 (k + 1)) := by
        unfold TX
        rw [e71, e85]
        exact T27
      have fr29 : FRt m m29 := ⟨by rw [e71, rf.2 5 (by omega)]; exact f5, fun c h1 h2 h3 h4 h5 h6 h7 h8 => by rw [f29 c h2 h5, rf.1 c h1 h6, f17 c h1 h2 h3 h4 h5 h6 h7 h8]⟩
      rw [jn_def, if_pos rfl, hT17.1.2.1, hT17.1.2.2, leF (by omega), lt_def, q1, bd_some, q27, bd2_some, ech, q29, bd2_some]
      cases he : ex h (tw h t k) (qk h 0 k) with
      | some u =>
        obtain ⟨rfl, g29⟩ := xr.1 u he
        rw [itT]
        have ok : okX h t k = true := by
          unfold okX
          rw [he]
          rfl
        exact hnx _ _ ⟨fr29, Or.inl ⟨rfl, all_s hlow ok, T29, by rw [tw_s he]; exact g29, RT_frame h75' (f29 75 (by omega) (by omega))⟩⟩
      | none =>
        have hd := xr.2 he
        subst hd
        have nk : okX h t k = false := by
          unfold okX
          rw [he]
          rfl
        have eR := hR2 k hk hlow nk
        have eF := hF2 k hk nk
        obtain ⟨m31, q31, g31, f31⟩ := r_copies m29 (o1 := 75) (o2 := 72) (by omega)
        have h75'' : RT m29 75 t := RT_frame h75' (f29 75 (by omega) (by omega))
        have em : (-2000 : Int32) - iI (qk h 0 k : Int) = iI R := by
          have : (-2000 : Int32) = iI (-2000) := rfl
          rw [this, iI_sub, eR]
        rw [itF, em, lt_def, q31, bd_some]
        exact hnx _ _ ⟨⟨by rw [f31 71 (by omega)]; exact fr29.1, fun c h1 h2 h3 h4 h5 h6 h7 h8 => by rw [f31 c h2, fr29.2 c h1 h2 h3 h4 h5 h6 h7 h8]⟩, Or.inr ⟨rfl, by omega, by omega, by rw [eF]; exact RT_copy h75'' wu.1 g31⟩⟩
    · have nz : ¬ iI R = 0 := by
        rw [n0, iI_eq (by omega) (by omega) (by omega) (by omega)]
        omega
      rw [jn_def, if_neg nz, if_neg nz]
      exact ⟨m17, rfl, h72, f5, f17⟩
  · rintro nx v16 m17 ⟨⟨f5, f17⟩, hs⟩
    rcases hs with ⟨rfl, hlow, hT17, h72, h75⟩ | ⟨rfl, r1, r2, h72⟩
    · rw [jn_def, if_pos rfl, hT17.1.2.1, hT17.1.2.2, hM, leT (by omega), if_pos rfl, hR1 hlow]
      exact ⟨m17, rfl, by rw [hF1 hlow]; exact h72, f5, f17⟩
    · have nz : ¬ iI R = 0 := by
        rw [n0, iI_eq (by omega) (by omega) (by omega) (by omega)]
        omega
      rw [jn_def, if_neg nz, if_neg nz]
      exact ⟨m17, rfl, h72, f5, f17⟩
theorem RF_r (m : pw_Mem) : RF m m := ⟨fun _ _ _ => rfl, fun _ _ => rfl⟩
/-- the class's second pass -/
theorem c_p2 {m : pw_Mem} {s : SS} (hC : CS m s) (w : WS s) {n M : Nat} (hn : n < 8) (hh : hH (s.2.2 n) = 2) (hM : qk (s.2.2 n) 0 M = hL (s.2.2 n)) (hg : ∀ k, k < M → GS (s.2.2 n) (qk (s.2.2 n) 0 k)) {R : Int} (hR1 : (∀ k, k < M → okX (s.2.2 n) s.1 k = true) → R = M) (hR2 : ∀ k, k < M → (∀ j, j < k → okX (s.2.2 n) s.1 j = true) → okX (s.2.2 n) s.1 k = false → R = -2000 - (qk (s.2.2 n) 0 k : Int)) {TF : TT} (hF1 : (∀ k, k < M → okX (s.2.2 n) s.1 k = true) → TF = tw (s.2.2 n) s.1 M) (hF2 : ∀ k, k < M → okX (s.2.2 n) s.1 k = false → TF = s.1) : ∃ m2, (bd (fX7_becomes 13 1 m) fun m4 => lp (κ := Int32 → Int32 → pw_Mem → Option (Int32 × pw_Mem)) (fun _ _ _ => none) (fun nx8 v5 v6 m7 => if (m7 (55 + 2 * n) 5) ≤ v6 then bd (fX7_becomes 1 13 m7) fun m10 => some (v5, m10) else bd (fX5_at (55 + 2 * n) v6 m7) fun y11 => bd (fX8_digitsBehind y11 m7) fun y12 => jn (κ := Int32 → pw_Mem → Option (Int32 × pw_Mem)) (fun v13 m14 => lt (v6 + (1 : Int32)) fun x15 => nx8 v13 x15 m14) (fun k16 => if y12 = 0 then k16 v5 m7 else bd2 (fX8_happens (55 + 2 * n) v6 13 m7) fun y18 m19 => if y18 = true then lt (v5 + (1 : Int32)) fun x20 => k16 x20 m19 else some ((-2000 : Int32) - v6, m19))) FU (0 : Int32) (0 : Int32) m4) = some (iI R, m2) ∧ CT m2 1 TF ∧ ∀ c, c < 1 ∨ 24 < c → m2 c = m c := by
  obtain ⟨w3, wL, wE⟩ := (w.2.2 n hn).2.2 hh
  obtain ⟨m1, q1, g1, f1⟩ := c_mind hC w
  obtain ⟨h, hh'⟩ : ∃ h, h = s.2.2 n := ⟨_, rfl⟩
  rw [← hh'] at hM hg hR1 hR2 hF1 hF2 wL wE
  have M50 : 2 * M ≤ 100 := by
    have := qk_mono h 0 M 0
    rw [Nat.zero_add, hM] at this
    omega
  have inc : ∀ a b, a ≤ b → qk h 0 a + 2 * (b - a) ≤ qk h 0 b := fun a b hab => by
    have := qk_mono h 0 (b - a) a
    rw [show a + (b - a) = b by omega] at this
    exact this
  rw [q1, bd_some]
  refine lpI3 (fun i v5 v6 (m7 : pw_Mem) => v6 = iI (i : Nat) ∧ ∃ k : Nat, v5 = iI (k : Int) ∧ k ≤ M ∧ (i = qk h 0 k ∨ (0 < k ∧ qk h 0 (k - 1) < i ∧ i < qk h 0 k)) ∧ (∀ j, j < k → okX h s.1 j = true) ∧ CT m7 13 (tw h s.1 k) ∧ ∀ c, c < 13 ∨ 24 < c → m7 c = m c) (fun r => ∃ m2, r = some (iI R, m2) ∧ CT m2 1 TF ∧ ∀ c, c < 1 ∨ 24 < c → m2 c = m c) (hL h) (by omega) ?_ ?_ ⟨rfl, 0, rfl, Nat.zero_le _, Or.inl rfl, fun j hj => absurd hj (Nat.not_lt_zero j), g1, f1⟩
  · rintro nx i _ _ m7 hi ⟨rfl, k, rfl, hkM, hpos, hlow, h7, f7⟩ hnx
    have hC7 := CS_mind hC f7
    have e5 := (c_rw hC7 hn hh).1
    have ca := c_at hC7 w hn hh (i := i) (by rw [← hh']; exact hi)
    have we := wE i hi
    rw [← hh'] at e5 ca
    rw [e5, leF (by omega), ca, bd_some, c_dg m7 we.1.1 we.1.2, bd_some, jn_def]
    rcases hpos with rfl | ⟨k0, p1, p2⟩
    · have hkM' : k < M := by
        rcases Nat.lt_or_ge k M with z | z
        · exact z
        · rw [show k = M by omega, hM] at hi
          exact absurd hi (Nat.lt_irrefl _)
      have gk := hg k hkM'
      obtain ⟨l1, l2⟩ := GS_l gk
      have dl := dg_le (hE h (qk h 0 k))
      have hg' : GS (s.2.2 n) (qk h 0 k) := by
        rw [← hh']
        exact gk
      obtain ⟨b, m19, q19, f19, xr⟩ := c_exec hC7 w hn hh hg' h7 (tw_WU w.1 hg k hkM)
      rw [← hh'] at xr
      have fr : ∀ c, c < 13 ∨ 24 < c → m19 c = m c := fun c hc => by rw [f19 c hc, f7 c hc]
      have enx : qk h 0 (k + 1) = qk h 0 k + dgN (hE h (qk h 0 k)) + 2 := rfl
      rw [eq0F (by omega), q19, bd2_some]
      cases he : ex h (tw h s.1 k) (qk h 0 k) with
      | some u =>
        obtain ⟨rfl, g19⟩ := xr.1 u he
        have ok : okX h s.1 k = true := by
          unfold okX
          rw [he]
          rfl
        rw [itT]
        simp only [lt_def, inc1]
        refine hnx _ _ _ ⟨rfl, k + 1, rfl, hkM', Or.inr ⟨by omega, ?_, by omega⟩, all_s hlow ok, by rw [tw_s he]; exact g19, fr⟩
        rw [show k + 1 - 1 = k by omega]
        omega
      | none =>
        have hd := xr.2 he
        subst hd
        have nk : okX h s.1 k = false := by
          unfold okX
          rw [he]
          rfl
        have em : (-2000 : Int32) - iI (qk h 0 k : Int) = iI R := by
          have : (-2000 : Int32) = iI (-2000) := rfl
          rw [this, iI_sub, hR2 k hkM' hlow nk]
        rw [itF, em]
        refine ⟨m19, rfl, ?_, fun c hc => fr c (by omega)⟩
        rw [hF2 k hkM' nk]
        exact CT_frame hC.1 (fun c h1 h2 => fr c (by omega))
    · have gk := hg (k - 1) (by omega)
      have enx : qk h 0 k = qk h 0 (k - 1) + dgN (hE h (qk h 0 (k - 1))) + 2 := by
        have : qk h 0 ((k - 1) + 1) = qk h 0 (k - 1) + dgN (hE h (qk h 0 (k - 1))) + 2 := rfl
        rw [show k - 1 + 1 = k by omega] at this
        exact this
      obtain ⟨j, hj⟩ : ∃ j, i = qk h 0 (k - 1) + j := ⟨i - qk h 0 (k - 1), by omega⟩
      have z0 : dgN (hE h i) = 0 := by
        refine dg_no ?_
        by_cases e : j = dgN (hE h (qk h 0 (k - 1))) + 1
        · left
          rw [hj, e, ← Nat.add_assoc]
          exact (GS_e gk).2
        · right
          obtain ⟨-, x, y⟩ := GS_d gk (j := j) (by omega) (by omega)
          rw [hj, x]
          omega
      rw [eq0T (by omega)]
      simp only [lt_def, inc1]
      refine hnx _ _ _ ⟨rfl, k, rfl, hkM, ?_, hlow, h7, f7⟩
      by_cases e : i + 1 = qk h 0 k
      · exact Or.inl e
      · exact Or.inr ⟨k0, by omega, by omega⟩
  · rintro nx _ _ m7 ⟨rfl, k, rfl, hkM, hpos, hlow, h7, f7⟩
    have hC7 := CS_mind hC f7
    have e5 := (c_rw hC7 hn hh).1
    rw [← hh'] at e5
    have hk : k = M := by
      rcases hpos with e | ⟨-, -, p2⟩
      · have := inc k M hkM
        rw [hM] at this
        omega
      · have := inc k M hkM
        rw [hM] at this
        omega
    subst hk
    obtain ⟨m10, q10, g10, f10⟩ := c_becomes h7 (tw_WU w.1 hg k (Nat.le_refl _)).1 (o := 1) (by omega)
    rw [e5, leT (by omega), q10, bd_some, hR1 hlow, hF1 hlow]
    exact ⟨m10, rfl, g10, fun c hc => by rw [f10 c (by omega), f7 c (by omega)]⟩
theorem op_townC {m : pw_Mem} (hs : Sim m) (a : Int32) : OpWW (fX10_town a) (fX11_town a) m := by
  have hs0 := hs
  obtain ⟨s, hC, hM, w⟩ := hs
  obtain ⟨d, rfl, h1, h2⟩ := rg a
  have kb := noRow_b s d (-1)
  have kb0 := noRow_b s d 0
  by_cases c : noRow s d 0 = 0
  · obtain ⟨n, hn, rfl, hh, hq⟩ := noRow_0 c
    have hS0 : hS (s.2.2 n) = 0 := by omega
    obtain ⟨w3, wL, wE⟩ := (w.2.2 n hn).2.2 hh
    have r1 : iI (noRow s (n : Int) (-1)) = 0 := by
      unfold noRow
      rw [if_pos (by omega), Int.toNat_natCast, if_neg (by omega), if_pos hh, if_pos (Or.inl (by omega))]
      rfl
    have r0 : iI (noRow s (n : Int) 0) = 0 := by rw [c]; rfl
    have e45 := c_rw hC hn hh
    obtain ⟨R0, hR0⟩ : ∃ R0, ∀ _ : Unit, flt (s.2.2 n) 200 0 = R0 := ⟨_, fun _ => rfl⟩
    have cf := c_form hC w hn hh (F := 200) (by omega) hR0
    have head : ∀ (r : Option (Int32 × pw_Mem)), (if iI R0 = (-1 : Int32) then (bd (fX7_becomes 13 1 m) fun m4 => lp (κ := Int32 → Int32 → pw_Mem → Option (Int32 × pw_Mem)) (fun _ _ _ => none) (fun nx8 v5 v6 m7 => if (m7 (55 + 2 * n) 5) ≤ v6 then bd (fX7_becomes 1 13 m7) fun m10 => some (v5, m10) else bd (fX5_at (55 + 2 * n) v6 m7) fun y11 => bd (fX8_digitsBehind y11 m7) fun y12 => jn (κ := Int32 → pw_Mem → Option (Int32 × pw_Mem)) (fun v13 m14 => lt (v6 + (1 : Int32)) fun x15 => nx8 v13 x15 m14) (fun k16 => if y12 = 0 then k16 v5 m7 else bd2 (fX8_happens (55 + 2 * n) v6 13 m7) fun y18 m19 => if y18 = true then lt (v5 + (1 : Int32)) fun x20 => k16 x20 m19 else some ((-2000 : Int32) - v6, m19))) FU (0 : Int32) (0 : Int32) m4) else some ((-1000 : Int32) - iI R0, m)) = r → fX10_town (iI (n : Int)) m = r := fun r hr => by
      unfold fX10_town
      rw [c_rowRef hC w h1 h2, bd_some, r1, if_pos rfl, gdN (by omega), cl55 hn, e45.2, hS0, if_pos (by rfl), cf, bd_some]
      exact hr
    have hw : WR (s.2.2 n) n := ⟨hn, wL, fun i hi => (wE i hi).2 hS0⟩
    -- the beginning of the reference
    have beg : ∀ m1, MS m1 s → ∃ m4, TX (s.2.2 n) n m4 0 ∧ (m4 71 5 = m1 71 5 ∧ ∀ c, c ≠ 71 → m4 c = m1 c) ∧ ∀ (r : Option (Int32 × pw_Mem)), lp (κ := Int32 → Int32 → pw_Mem → Option (Int32 × pw_Mem)) (fun _ _ _ => none) (fun nx8 v5 v6 m7 => bd2 (fX11_readsStatement m7) fun y10 m11 => jn (κ := Int32 → Option (Int32 × pw_Mem)) (fun v12 => lt (v5 + (1 : Int32)) fun x13 => jn (κ := Option (Int32 × pw_Mem)) (bd (fX11_copies 72 75 m11) fun m14 => lt (pw_up m14 71 6 (0 : Int32)) fun m15 => P2X x13 v12 m15) (fun k39 => if v12 = 0 then if (m11 71 6) < (m11 71 8) then nx8 x13 v12 m11 else k39 else k39)) (fun k45 => if y10 = true then k45 v6 else lt ((-1000 : Int32) - (m11 71 6)) fun x47 => k45 x47)) FU (0 : Int32) (0 : Int32) m4 = r → fX11_town (iI (n : Int)) m1 = r := by
      intro m1 hM1
      obtain ⟨b4, b5, b6⟩ := (hM1.2.2.2 n hn).2.2 hh
      refine ⟨pw_up (pw_up (pw_up m1 71 7 (iI ((100 * n : Nat) : Int))) 71 8 (iI (hL (s.2.2 n) : Int))) 71 6 0, ⟨⟨by rw [up_ne (by omega), up_ne (by omega), up_eq], by rw [up_ne (by omega), up_eq], by rw [up_eq]; rfl⟩, fun i hi => by rw [up_o (by omega), up_o (by omega), up_o (by omega)]; exact b6 i hi⟩, ⟨by rw [up_ne (by omega), up_ne (by omega), up_ne (by omega)], fun c hc => by rw [up_oc hc, up_oc hc, up_oc hc]⟩, fun r hr => ?_⟩
      have e100 : (100 : Int32) * iI (n : Int) = iI ((100 * n : Nat) : Int) := iN_mul 100 n
      have e84 : pw_up m1 71 7 (iI ((100 * n : Nat) : Int)) 84 (iI (n : Int)).toNatClampNeg = iI (hL (s.2.2 n) : Int) := by
        rw [clN (by omega), up_o (by omega)]
        exact b5
      unfold fX11_town
      rw [r_wr0 hM1 w h1 h2, bd_some, r0, if_pos rfl, e100, lt_def, gdN (by omega), e84, lt_def, lt_def]
      exact hr
    obtain ⟨h, hh'⟩ : ∃ h, h = s.2.2 n := ⟨_, rfl⟩
    rw [← hh'] at hR0 hw beg wL wE
    by_cases cR : R0 = -1
    · have hL0 : 0 < hL h := by
        rcases Nat.eq_zero_or_pos (hL h) with z | z
        · have b0 : bdj h 0 0 = true := by
            unfold bdj
            rw [decide_eq_true (show hL h ≤ 0 + 0 by omega)]
            rfl
          have := flt_bad (f := 199) (by omega) b0 (fun j hj => absurd hj (Nat.not_lt_zero j))
          rw [hR0 ()] at this
          omega
        · exact z
      obtain ⟨M, m0, hMq, hg⟩ := form_ok 200 0 (by omega) hL0 (by rw [hR0 ()]; exact cR)
      obtain ⟨R, hR1, hR2⟩ := fst_ex (okX h s.1) M (fun k => -2000 - (qk h 0 k : Int)) (M : Int)
      obtain ⟨TF, hF1, hF2, hTW⟩ : ∃ TF, ((∀ k, k < M → okX h s.1 k = true) → TF = tw h s.1 M) ∧ (∀ k, k < M → okX h s.1 k = false → TF = s.1) ∧ WU TF := by
        by_cases hall : ∀ k, k < M → okX h s.1 k = true
        · refine ⟨tw h s.1 M, fun _ => rfl, fun k hk hz => ?_, tw_WU w.1 hg M (Nat.le_refl _)⟩
          rw [hall k hk] at hz
          exact absurd hz (by decide)
        · exact ⟨s.1, fun z => absurd z hall, fun _ _ _ => rfl, w.1⟩
      refine op_townG hC hM w (r := iI R) (t := TF) hTW ?_ ?_
      · obtain ⟨m2, q2, g2, f2⟩ := c_p2 hC w hn hh (M := M) (by rw [← hh']; exact hMq) (by rw [← hh']; exact hg) (R := R) (by rw [← hh']; exact hR1) (by rw [← hh']; exact hR2) (TF := TF) (by rw [← hh']; exact hF1) (by rw [← hh']; exact hF2)
        refine ⟨m2, head _ ?_, g2, f2⟩
        rw [if_pos (by rw [cR]; rfl)]
        exact q2
      · intro m1 hM1
        obtain ⟨m4, T4, ⟨f45, f4⟩, hb⟩ := beg m1 hM1
        have M50 : 2 * M ≤ 100 := by
          have := qk_mono h 0 M 0
          rw [Nat.zero_add, hMq] at this
          omega
        have goal : ∃ m2, fX11_town (iI (n : Int)) m1 = some (iI R, m2) ∧ RT m2 72 TF ∧ FRt m1 m2 := by
          refine Exists.imp (fun m2 (hx : _ = some (iI R, m2) ∧ RT m2 72 TF ∧ FRt m1 m2) => ⟨hb _ hx.1, hx.2⟩) ?_
          refine lpI3 (fun k v5 v6 (m7 : pw_Mem) => v5 = iI (k : Nat) ∧ v6 = 0 ∧ TX h n m7 (qk h 0 k) ∧ RF m4 m7) (fun r => ∃ m2, r = some (iI R, m2) ∧ RT m2 72 TF ∧ FRt m1 m2) (M - 1) (by omega) ?_ ?_ ⟨rfl, rfl, T4, RF_r m4⟩
          · rintro nx k _ _ m7 hk ⟨rfl, rfl, T7, f7⟩ hnx
            have gk := hg k (by omega)
            obtain ⟨l1, l2⟩ := GS_l gk
            have ge := GS_e gk
            have g1 := (GS_l (hg (k + 1) (by omega))).1
            obtain ⟨b, m11, q11, sr⟩ := r_stm hw T7 (by omega)
            have hbt : b = true := by
              cases b
              · obtain ⟨j, j1, j2, -, -⟩ := sr.2.2 rfl
                rw [gk j j1] at j2
                exact absurd j2 (by decide)
              · rfl
            subst hbt
            obtain ⟨rf, s1, -⟩ := sr
            obtain ⟨-, s6, -⟩ := s1 rfl
            have T11 : TX h n m11 (qk h 0 (k + 1)) := TX_f T7 rf s6
            rw [q11, bd2_some, jn_def, itT]
            dsimp only
            rw [lt_def, inc1, jn_def, if_pos rfl, T11.1.2.1, T11.1.2.2, ltT (by omega)]
            exact hnx _ _ _ ⟨rfl, rfl, T11, RF_t f7 rf⟩
          · rintro nx _ _ m7 ⟨rfl, rfl, T7, f7⟩
            have gk := hg (M - 1) (by omega)
            obtain ⟨l1, l2⟩ := GS_l gk
            obtain ⟨b, m11, q11, sr⟩ := r_stm hw T7 (by omega)
            have hbt : b = true := by
              cases b
              · obtain ⟨j, j1, j2, -, -⟩ := sr.2.2 rfl
                rw [gk j j1] at j2
                exact absurd j2 (by decide)
              · rfl
            subst hbt
            obtain ⟨rf, s1, -⟩ := sr
            obtain ⟨-, s6, -⟩ := s1 rfl
            have eM : nxt h (qk h 0 (M - 1)) = hL h := by
              have : qk h 0 ((M - 1) + 1) = nxt h (qk h 0 (M - 1)) := rfl
              rw [← this, show M - 1 + 1 = M by omega]
              exact hMq
            rw [eM] at s6
            have T11 : TX h n m11 (hL h) := TX_f T7 rf s6
            have f11 := RF_t f7 rf
            obtain ⟨m14, q14, g14, f14⟩ := r_copies m11 (o1 := 72) (o2 := 75) (by omega)
            have h72m : RT m11 72 s.1 := RT_frame hM1.1 (by rw [f11.1 72 (by omega) (by omega), f4 72 (by omega)])
            have h75m : RT m14 75 s.1 := RT_copy h72m w.1.1 g14
            obtain ⟨m15, hm15⟩ : ∃ m15, m15 = pw_up m14 71 6 (0 : Int32) := ⟨_, rfl⟩
            have T15 : TX h n m15 0 := by
              refine ⟨⟨?_, ?_, ?_⟩, fun i hi => ?_⟩
              · rw [hm15, up_ne (by omega), f14 71 (by omega)]
                exact T11.1.1
              · rw [hm15, up_ne (by omega), f14 71 (by omega)]
                exact T11.1.2.1
              · rw [hm15, up_eq]
                rfl
              · rw [hm15, up_o (by omega), f14 85 (by omega)]
                exact T11.2 i hi
            obtain ⟨m2, q2, g2, p2⟩ := r_p2 hw w.1 hMq hg T15 (RT_frame h72m (by rw [hm15, up_oc (by omega), f14 72 (by omega)])) (RT_frame h75m (by rw [hm15, up_oc (by omega)])) hR1 hR2 hF1 hF2
            rw [q11, bd2_some, jn_def, itT]
            dsimp only
            rw [lt_def, inc1, jn_def, if_pos rfl, T11.1.2.1, T11.1.2.2, ltF (by omega), q14, bd_some, lt_def, ← hm15, show M - 1 + 1 = M by omega, q2]
            refine ⟨m2, rfl, g2, ?_, fun c h1 h2 h3 h4 h5 h6 h7 h8 => ?_⟩
            · rw [p2.1, hm15, up_ne (by omega), f14 71 (by omega), f11.2 5 (by omega), f45]
            · rw [p2.2 c h1 h2 h3 h4 h5 h6 h7 h8, hm15, up_oc h1, f14 c h4, f11.1 c h1 h6, f4 c h1]
        obtain ⟨m2, q2, g2, p2⟩ := goal
        exact ⟨m2, q2, g2, p2.1, p2.2⟩
    · -- a fault of the form
      have Rb : 0 ≤ R0 ∧ R0 ≤ 100000 := by
        have gen : ∀ f q, q ≤ 100 → flt h f q = -1 ∨ (0 ≤ flt h f q ∧ flt h f q ≤ 200) := by
          intro f
          induction f with
          | zero =>
            intro q _
            exact Or.inl rfl
          | succ f ih =>
            intro q hq
            have dl := dg_le (hE h q)
            rw [flt_s]
            split
            · right
              omega
            · split
              · exact ih _ (by omega)
              · exact Or.inl rfl
        have := gen 200 0 (by omega)
        rw [hR0 ()] at this
        omega
      have e1000 : (-1000 : Int32) - iI R0 = iI (-1000 - R0) := by
        have : (-1000 : Int32) = iI (-1000) := rfl
        rw [this, iI_sub]
      refine op_townG hC hM w (r := iI (-1000 - R0)) (t := s.1) w.1 ?_ ?_
      · refine ⟨m, head _ ?_, hC.1, fun _ _ => rfl⟩
        rw [if_neg (by rw [em1, iI_eq (by omega) (by omega) (by omega) (by omega)]; exact cR), e1000]
      · intro m1 hM1
        obtain ⟨m4, T4, ⟨f45, f4⟩, hb⟩ := beg m1 hM1
        have goal : ∃ m2, fX11_town (iI (n : Int)) m1 = some (iI (-1000 - R0), m2) ∧ RT m2 72 s.1 ∧ FRt m1 m2 := by
          refine Exists.imp (fun m2 (hx : _ = some (iI (-1000 - R0), m2) ∧ RT m2 72 s.1 ∧ FRt m1 m2) => ⟨hb _ hx.1, hx.2⟩) ?_
          have stp : ∀ (nx : Int32 → Int32 → pw_Mem → Option (Int32 × pw_Mem)) (v5 : Int32) (m7 : pw_Mem) (q f : Nat), TX h n m7 q → RF m4 m7 → q ≤ hL h → hL h < q + f → (∀ _ : Unit, flt h f q = R0) → (∀ m11 f', TX h n m11 (nxt h q) → RF m4 m11 → nxt h q < hL h → hL h < nxt h q + f' → (∀ _ : Unit, flt h f' (nxt h q) = R0) → ∃ m2, nx (v5 + 1) 0 m11 = some (iI (-1000 - R0), m2) ∧ RT m2 72 s.1 ∧ FRt m1 m2) → ∃ m2, (bd2 (fX11_readsStatement m7) fun y10 m11 => jn (κ := Int32 → Option (Int32 × pw_Mem)) (fun v12 => lt (v5 + (1 : Int32)) fun x13 => jn (κ := Option (Int32 × pw_Mem)) (bd (fX11_copies 72 75 m11) fun m14 => lt (pw_up m14 71 6 (0 : Int32)) fun m15 => P2X x13 v12 m15) (fun k39 => if v12 = 0 then if (m11 71 6) < (m11 71 8) then nx x13 v12 m11 else k39 else k39)) (fun k45 => if y10 = true then k45 0 else lt ((-1000 : Int32) - (m11 71 6)) fun x47 => k45 x47)) = some (iI (-1000 - R0), m2) ∧ RT m2 72 s.1 ∧ FRt m1 m2 := by
            intro nx v5 m7 q f T7 f7 hq hf hR hnx
            obtain ⟨f', rfl⟩ : ∃ f', f = f' + 1 := ⟨f - 1, by omega⟩
            obtain ⟨b, m11, q11, sr⟩ := r_stm hw T7 hq
            rw [q11, bd2_some, jn_def]
            cases b
            · obtain ⟨rf, -, s2⟩ := sr
              obtain ⟨j, j1, j2, j3, j4⟩ := s2 rfl
              have eR := flt_bad (f := f') j1 j2 j3
              rw [hR ()] at eR
              have e1 : (-1000 : Int32) - iI ((q + j : Nat) : Int) = iI (-1000 - R0) := by
                have : (-1000 : Int32) = iI (-1000) := rfl
                rw [this, iI_sub, eR]
              have nz : ¬ iI (-1000 - R0) = 0 := by
                rw [n0, iI_eq (by omega) (by omega) (by omega) (by omega)]
                omega
              have f11 := RF_t f7 rf
              obtain ⟨m14, q14, g14, f14⟩ := r_copies m11 (o1 := 72) (o2 := 75) (by omega)
              rw [itF, j4, e1]
              simp only [lt_def]
              rw [jn_def, if_neg nz, q14, bd_some, r_p2f _ nz]
              refine ⟨_, rfl, RT_frame hM1.1 ?_, ?_, fun c h1 h2 h3 h4 h5 h6 h7 h8 => ?_⟩
              · rw [up_oc (by omega), f14 72 (by omega), f11.1 72 (by omega) (by omega), f4 72 (by omega)]
              · rw [up_ne (by omega), f14 71 (by omega), f11.2 5 (by omega), f45]
              · rw [up_oc h1, f14 c h4, f11.1 c h1 h6, f4 c h1]
            · obtain ⟨rf, s1, -⟩ := sr
              obtain ⟨gs, s6, -⟩ := s1 rfl
              have eR := flt_good (f := f') gs
              rw [hR ()] at eR
              have T11 : TX h n m11 (nxt h q) := TX_f T7 rf s6
              have hnq : nxt h q = q + dgN (hE h q) + 2 := rfl
              by_cases k : nxt h q < hL h
              · rw [if_pos k] at eR
                rw [itT]
                dsimp only
                rw [lt_def, jn_def, if_pos rfl, T11.1.2.1, T11.1.2.2, ltT (by omega)]
                exact hnx m11 f' T11 (RF_t f7 rf) k (by omega) (fun _ => eR.symm)
              · rw [if_neg k] at eR
                exact absurd eR cR
          refine lpI3 (fun k _ v6 (m7 : pw_Mem) => v6 = 0 ∧ ∃ q f, 2 * k ≤ q ∧ TX h n m7 q ∧ RF m4 m7 ∧ q ≤ hL h ∧ hL h < q + f ∧ ∀ _ : Unit, flt h f q = R0) (fun r => ∃ m2, r = some (iI (-1000 - R0), m2) ∧ RT m2 72 s.1 ∧ FRt m1 m2) 60 (by omega) ?_ ?_ ⟨rfl, 0, 200, by omega, T4, RF_r m4, Nat.zero_le _, by omega, hR0⟩
          · rintro nx k v5 _ m7 hk ⟨rfl, q, f, hkq, T7, f7, hq, hf, hR⟩ hnx
            refine stp nx v5 m7 q f T7 f7 hq hf hR (fun m11 f' a1 a2 a3 a4 a5 => hnx _ _ _ ⟨rfl, nxt h q, f', ?_, a1, a2, by omega, a4, a5⟩)
            unfold nxt
            omega
          · rintro nx v5 _ m7 ⟨rfl, q, f, hkq, T7, f7, hq, hf, hR⟩
            omega
        obtain ⟨m2, q2, g2, p2⟩ := goal
        exact ⟨m2, q2, g2, p2.1, p2.2⟩
  · have nr : ∀ m', MS m' s → fX11_town (iI d) m' = some (iI (noRow s d 0), m') := fun m' hM' => by
      have r0 : ¬ iI (noRow s d 0) = 0 := by
        rw [i0, iI_eq (by omega) (by omega) (by omega) (by omega)]
        exact c
      unfold fX11_town
      rw [r_wr0 hM' w h1 h2, bd_some, if_neg r0]
    refine op_same hs0 (r := iI (noRow s d 0)) ?_ (nr m hM)
    unfold fX10_town
    rw [c_rowRef hC w h1 h2, bd_some]
    by_cases c1 : noRow s d (-1) = 0
    · obtain ⟨n, hn, rfl, hh, -⟩ := noRow_0 c1
      obtain ⟨w3, wL, wE⟩ := (w.2.2 n hn).2.2 hh
      have e0 : noRow s (n : Int) 0 = -12 := by
        unfold noRow at c ⊢
        rw [if_pos (by omega), Int.toNat_natCast, if_neg (by omega), if_pos hh] at c ⊢
        by_cases z : (0 : Int) < 0 ∨ (hS (s.2.2 n) : Int) = 0
        · rw [if_pos z] at c
          exact absurd rfl c
        · rw [if_neg z]
      have hSn : ¬ hS (s.2.2 n) = 0 := fun z => by
        unfold noRow at c
        rw [if_pos (by omega), Int.toNat_natCast, if_neg (by omega), if_pos hh, if_pos (Or.inr (by omega))] at c
        exact c rfl
      rw [c1, if_pos (by rfl), gdN (by omega), cl55 hn, (c_rw hC hn hh).2, eq0F (by omega), e0]
      rfl
    · have r1 : ¬ iI (noRow s d (-1)) = 0 := by
        rw [i0, iI_eq (by omega) (by omega) (by omega) (by omega)]
        exact c1
      have e0 : noRow s d 0 = noRow s d (-1) := by
        unfold noRow at c1 ⊢
        by_cases z1 : 0 ≤ d ∧ d < 8
        · rw [if_pos z1] at c1 ⊢
          rw [if_pos z1]
          by_cases z2 : hH (s.2.2 d.toNat) = 0
          · rw [if_pos z2, if_pos z2]
          · rw [if_neg z2] at c1 ⊢
            rw [if_neg z2]
            by_cases z3 : hH (s.2.2 d.toNat) = 2
            · rw [if_pos z3, if_pos (Or.inl (by omega))] at c1
              exact absurd rfl c1
            · rw [if_neg z3, if_neg z3]
        · rw [if_neg z1, if_neg z1]
      rw [if_neg r1, e0]
