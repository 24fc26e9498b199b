/-! LABELS: three bits a person; who hangs together by a set of bands -/
set_option maxRecDepth 100000
def lab (L p : Nat) : Nat := (L / 2 ^ (3 * p)) &&& 7
theorem b7 (j : Nat) : (7 : Nat).testBit j = decide (j < 3) := by
  have := Nat.testBit_two_pow_sub_one 3 j
  exact this
theorem lab_bit (L p j : Nat) : (lab L p).testBit j = (L.testBit (3 * p + j) && decide (j < 3)) := by
  unfold lab
  rw [Nat.testBit_and, Nat.testBit_div_two_pow, b7, Nat.add_comm]
theorem lab_lt (L p : Nat) : lab L p < 8 := Nat.lt_of_le_of_lt Nat.and_le_right (by omega)
theorem lab_ext {a b : Nat} (ha : a < 8) (hb : b < 8) (h : ∀ j, j < 3 → a.testBit j = b.testBit j) : a = b := by
  apply Nat.eq_of_testBit_eq
  intro j
  by_cases hj : j < 3
  · exact h j hj
  · have p : (2 : Nat) ^ 3 ≤ 2 ^ j := Nat.pow_le_pow_right (by omega) (by omega)
    rw [Nat.testBit_lt_two_pow (Nat.lt_of_lt_of_le ha p), Nat.testBit_lt_two_pow (Nat.lt_of_lt_of_le hb p)]
theorem lab_or (L x : Nat) {i q : Nat} (hx : x < 8) : lab (L ||| (x <<< (3 * i))) q = if q = i then lab L q ||| x else lab L q := by
  refine lab_ext (lab_lt _ _) ?_ fun j hj => ?_
  · split
    · exact Nat.or_lt_two_pow (n := 3) (lab_lt _ _) hx
    · exact lab_lt _ _
  · rw [lab_bit, Nat.testBit_or, Nat.testBit_shiftLeft]
    by_cases e : q = i
    · subst e
      rw [if_pos rfl, Nat.testBit_or, lab_bit, show 3 * q + j - 3 * q = j by omega]
      simp [hj]
    · rw [if_neg e, lab_bit]
      by_cases h : 3 * i ≤ 3 * q + j
      · have : x.testBit (3 * q + j - 3 * i) = false := by
          have p8 : (2 : Nat) ^ 3 ≤ 2 ^ (3 * q + j - 3 * i) := Nat.pow_le_pow_right (by omega) (by omega)
          exact Nat.testBit_lt_two_pow (Nat.lt_of_lt_of_le hx p8)
        rw [this]
        simp
      · simp [h]
theorem lab_andn (L : Nat) {i q : Nat} : lab (andn L (7 <<< (3 * i))) q = if q = i then 0 else lab L q := by
  refine lab_ext (lab_lt _ _) ?_ fun j hj => ?_
  · split
    · omega
    · exact lab_lt _ _
  · rw [lab_bit, andn_bit, Nat.testBit_shiftLeft]
    by_cases e : q = i
    · subst e
      rw [if_pos rfl, Nat.zero_testBit, show 3 * q + j - 3 * q = j by omega, b7]
      simp [hj]
    · rw [if_neg e, lab_bit, b7]
      by_cases h : 3 * i ≤ 3 * q + j
      · have : ¬ 3 * q + j - 3 * i < 3 := by omega
        simp [this]
      · simp [h]
theorem sh3 : ∀ x : Nat, x < 8 → ∀ i : Nat, i < 7 → iI (x : Int) <<< (iI ((3 * i : Nat) : Int) &&& 31) = iI ((x <<< (3 * i) : Nat) : Int) ∧ x <<< (3 * i) < 2 ^ 21 := fun x hx => co_dec (P := fun x => ∀ i : Nat, i < 7 → iI (x : Int) <<< (iI ((3 * i : Nat) : Int) &&& 31) = iI ((x <<< (3 * i) : Nat) : Int) ∧ x <<< (3 * i) < 2 ^ 21) (N := 8) (by decide +kernel) hx
theorem e3p (p : Nat) : (3 : Int32) * iI (p : Int) = iI ((3 * p : Nat) : Int) := iN_mul 3 p
theorem c_lab {L p : Nat} (m : pw_Mem) (hL : L < 2 ^ 21) (hp : p < 7) : fX0_labelOf (iI (L : Int)) (iI (p : Int)) m = some (iI (lab L p : Nat)) := by
  have h1 : L / 2 ^ (3 * p) ≤ L := Nat.div_le_self _ _
  have e : iI (L : Int) >>> (iI ((3 * p : Nat) : Int) &&& 31) = iI ((L / 2 ^ (3 * p) : Nat) : Int) := iI_shr (by omega) (by omega)
  have e2 : iI ((L / 2 ^ (3 * p) : Nat) : Int) &&& 7 = iI ((lab L p : Nat) : Int) := iI_and (b := 7) (by omega) (by omega)
  unfold fX0_labelOf
  rw [e3p, e, e2]
theorem c_merged {L x y : Nat} (m : pw_Mem) (hL : L < 2 ^ 21) (hx : x < 8) (hy : y < 8) : ∃ L2 : Nat, L2 < 2 ^ 21 ∧ fX0_merged (iI (L : Int)) (iI (x : Int)) (iI (y : Int)) m = some (iI (L2 : Int)) ∧ ∀ q, q < 7 → lab L2 q = if lab L q = y then x else lab L q := by
  unfold fX0_merged
  refine lpI2 (fun i v1 v2 => ∃ A : Nat, v1 = iI (A : Int) ∧ v2 = iI (i : Nat) ∧ A < 2 ^ 21 ∧ ∀ q, q < 7 → lab A q = if q < i ∧ lab L q = y then x else lab L q) (fun r => ∃ L2 : Nat, L2 < 2 ^ 21 ∧ r = some (iI (L2 : Int)) ∧ ∀ q, q < 7 → lab L2 q = if lab L q = y then x else lab L q) 7 (by omega) ?_ ?_ ⟨L, rfl, rfl, hL, fun q _ => by rw [if_neg (by omega)]⟩
  · rintro nx i _ _ hi ⟨A, rfl, rfl, hA, hq⟩ hnx
    have lb := lab_lt L i
    rw [n7, leF (by omega), c_lab m hL hi, bd_some, jn_def]
    by_cases k : lab L i = y
    · obtain ⟨s1, s2⟩ := sh3 7 (by omega) i hi
      obtain ⟨t1, t2⟩ := sh3 x hx i hi
      have s1' : iI ((7 : Nat) : Int) <<< (iI ((3 * i : Nat) : Int) &&& 31) = iI ((7 <<< (3 * i) : Nat) : Int) := s1
      have an : iI (A : Int) &&& (iI ((7 <<< (3 * i) : Nat) : Int) ^^^ (-1 : Int32)) = iI ((andn A (7 <<< (3 * i)) : Nat) : Int) := iI_andn (by omega) (by omega)
      have al : andn A (7 <<< (3 * i)) < 2 ^ 21 := andn_lt hA
      have ol : andn A (7 <<< (3 * i)) ||| x <<< (3 * i) < 2 ^ 21 := Nat.or_lt_two_pow al t2
      rw [eqT (by omega), e3p, s1', an, t1, iI_or (by omega) (by omega)]
      simp only [lt_def, inc1]
      refine hnx _ _ ⟨_, rfl, rfl, ol, fun q hq7 => ?_⟩
      rw [lab_or _ _ hx, lab_andn]
      by_cases e : q = i
      · subst e
        rw [if_pos rfl, if_pos rfl, if_pos ⟨by omega, k⟩, Nat.zero_or]
      · rw [if_neg e, if_neg e, hq q hq7]
        by_cases z : q < i ∧ lab L q = y
        · rw [if_pos z, if_pos ⟨by omega, z.2⟩]
        · rw [if_neg z, if_neg (by omega)]
    · rw [eqF (by omega)]
      simp only [lt_def, inc1]
      refine hnx _ _ ⟨A, rfl, rfl, hA, fun q hq7 => ?_⟩
      rw [hq q hq7]
      by_cases z : q < i ∧ lab L q = y
      · rw [if_pos z, if_pos ⟨by omega, z.2⟩]
      · rw [if_neg z, if_neg]
        rintro ⟨z1, z2⟩
        by_cases e : q = i
        · subst e
          exact k z2
        · exact z ⟨by omega, z2⟩
  · rintro nx _ _ ⟨A, rfl, rfl, hA, hq⟩
    rw [n7, leT (by omega)]
    refine ⟨A, hA, rfl, fun q hq7 => ?_⟩
    rw [hq q hq7]
    by_cases z : lab L q = y
    · rw [if_pos z, if_pos ⟨hq7, z⟩]
    · rw [if_neg z, if_neg (fun u => z u.2)]
-- who hangs together
def cX (S : Nat) : Nat := andn 1023 S
def conn (t : TT) (S p q : Nat) : Bool := (clan t (cX S) p).testBit q
theorem opn_c (t : TT) (S : Nat) {k : Nat} (hk : k < 10) : opnB t (cX S) k = (!tX t k && S.testBit k) := by
  have h : (1023 : Nat).testBit k = decide (k < 10) := Nat.testBit_two_pow_sub_one 10 k
  unfold opnB cX
  rw [andn_bit, h, decide_eq_true hk]
  cases S.testBit k <;> rfl
theorem conn_r (t : TT) (S p : Nat) : conn t S p p = true := clan_self t (cX S) p
theorem conn_s {t : TT} (w : WT t) {S p q : Nat} (hp : p < tN t) (hq : q < tN t) (h : conn t S p q = true) : conn t S q p = true := clan_sym w hp hq h
theorem conn_t {t : TT} (w : WT t) {S p q r : Nat} (hp : p < tN t) (hq : q < tN t) (h1 : conn t S p q = true) (h2 : conn t S q r = true) : conn t S p r = true := by
  unfold conn at h1 h2 ⊢
  rw [← clan_eq w hp hq h1]
  exact h2
theorem hit_o (t : TT) {C k : Nat} (h : C.testBit (tO t k) = true) : hitB t C k = true := by
  unfold hitB
  rw [h]
  rfl
theorem hit_q (t : TT) {C k : Nat} (h : C.testBit (tQ t k) = true) : hitB t C k = true := by
  unfold hitB
  rw [h, Bool.or_true]
theorem in_ends (t : TT) (k : Nat) : (endsB t k).testBit (tO t k) = true ∧ (endsB t k).testBit (tQ t k) = true := by
  rw [ends_bit, ends_bit]
  simp
theorem conn_b {t : TT} (w : WT t) {S k p : Nat} (hk : k < tK t) (hp : p < tN t) (hx : tX t k = false) (hs : S.testBit k = true) (h : conn t S p (tO t k) = true ∨ conn t S p (tQ t k) = true) : conn t S p (tO t k) = true ∧ conn t S p (tQ t k) = true := by
  have h10 := w.1.2.1
  have ho : opnB t (cX S) k = true := by
    rw [opn_c t S (by omega), hx, hs]
    rfl
  have hh : hitB t (clan t (cX S) p) k = true := by
    rcases h with h | h
    · exact hit_o t h
    · exact hit_q t h
  have := td_cr' (clan_cl w hp) hk ho hh
  exact ⟨this _ (in_ends t k).1, this _ (in_ends t k).2⟩
/-- a set that is closed and holds p holds all that hang together with p -/
theorem conn_c {t : TT} (w : WT t) {S p q : Nat} {F : Nat → Bool} (hp : p < tN t) (hF : F p = true) (hc : ∀ b, b < tK t → tX t b = false → S.testBit b = true → (F (tO t b) = true ∨ F (tQ t b) = true) → F (tO t b) = true ∧ F (tQ t b) = true) (hq : q < tN t) (h : conn t S p q = true) : F q = true := by
  have h10 := w.1.2.1
  have mb : ∀ i, i < tN t → (msk F (tN t)).testBit i = F i := fun i hi => by rw [msk_bit, decide_eq_true hi, Bool.true_and]
  have D : tdN t (cX S) (msk F (tN t)) (tK t) = msk F (tN t) := by
    refine td_eq fun b hb ho hh => ?_
    obtain ⟨-, -, l1, l2, -, -⟩ := w.2.2 b hb
    rw [opn_c t S (by omega), Bool.and_eq_true] at ho
    have hx : tX t b = false := by
      cases z : tX t b
      · rfl
      · rw [z] at ho
        exact absurd ho.1 (by decide)
    have hh' : F (tO t b) = true ∨ F (tQ t b) = true := by
      unfold hitB at hh
      rw [mb _ l1, mb _ l2, Bool.or_eq_true] at hh
      exact hh
    obtain ⟨r1, r2⟩ := hc b hb hx ho.2 hh'
    intro i hi
    rw [ends_bit, Bool.or_eq_true] at hi
    rcases hi with hi | hi
    · rw [← of_decide_eq_true hi, mb _ l1]
      exact r1
    · rw [← of_decide_eq_true hi, mb _ l2]
      exact r2
  have := clan_min D (a := p) (by rw [mb p hp]; exact hF) q h
  rw [mb q hq] at this
  exact this
theorem conn_m {t : TT} (w : WT t) {S S' p q : Nat} (hm : ∀ b, b < tK t → S.testBit b = true → S'.testBit b = true) (hp : p < tN t) (hq : q < tN t) (h : conn t S p q = true) : conn t S' p q = true :=
  conn_c w (F := conn t S' p) hp (conn_r t S' p) (fun b hb hx hs hh => conn_b w hb hp hx (hm b hb hs) hh) hq h
/-- with one band more -/
def cJ (t : TT) (S k p q : Nat) : Prop := conn t S p q = true ∨ (conn t S p (tO t k) = true ∧ conn t S (tQ t k) q = true) ∨ (conn t S p (tQ t k) = true ∧ conn t S (tO t k) q = true)
theorem sb_or (S k b : Nat) : (S ||| 2 ^ k).testBit b = (S.testBit b || decide (k = b)) := by rw [Nat.testBit_or, Nat.testBit_two_pow]
theorem conn_J {t : TT} (w : WT t) {S k p q : Nat} (hk : k < tK t) (hx : tX t k = false) (hp : p < tN t) (hq : q < tN t) : conn t (S ||| 2 ^ k) p q = true ↔ cJ t S k p q := by
  obtain ⟨-, -, l1, l2, -, -⟩ := w.2.2 k hk
  have hm : ∀ b, b < tK t → S.testBit b = true → (S ||| 2 ^ k).testBit b = true := fun b _ h => by
    rw [sb_or, h]
    rfl
  have hkk : (S ||| 2 ^ k).testBit k = true := by
    rw [sb_or]
    simp
  constructor
  · intro h
    have : (conn t S p q || (conn t S p (tO t k) && conn t S (tQ t k) q) || (conn t S p (tQ t k) && conn t S (tO t k) q)) = true := by
      refine conn_c w (F := fun e => conn t S p e || (conn t S p (tO t k) && conn t S (tQ t k) e) || (conn t S p (tQ t k) && conn t S (tO t k) e)) hp (by simp [conn_r]) (fun b hb hxb hs hh => ?_) hq h
      obtain ⟨-, -, g1, g2, -, -⟩ := w.2.2 b hb
      simp only [Bool.or_eq_true, Bool.and_eq_true] at hh ⊢
      rw [sb_or, Bool.or_eq_true] at hs
      by_cases e : k = b
      · subst e
        have any : conn t S p (tO t k) = true ∨ conn t S p (tQ t k) = true := by
          rcases hh with ((h1 | h1) | h1) | ((h1 | h1) | h1)
          · exact Or.inl h1
          · exact Or.inl h1.1
          · exact Or.inr h1.1
          · exact Or.inr h1
          · exact Or.inl h1.1
          · exact Or.inr h1.1
        rcases any with h1 | h1
        · exact ⟨Or.inl (Or.inl h1), Or.inl (Or.inr ⟨h1, conn_r t S _⟩)⟩
        · exact ⟨Or.inr ⟨h1, conn_r t S _⟩, Or.inl (Or.inl h1)⟩
      · have hs' : S.testBit b = true := by
          rcases hs with h1 | h1
          · exact h1
          · exact absurd (of_decide_eq_true h1) e
        have both : ∀ r, r < tN t → (conn t S r (tO t b) = true ∨ conn t S r (tQ t b) = true) → conn t S r (tO t b) = true ∧ conn t S r (tQ t b) = true := fun r hr hz => conn_b w hb hr hxb hs' hz
        rcases hh with ((h1 | h1) | h1) | ((h1 | h1) | h1)
        · have z := both p hp (Or.inl h1)
          exact ⟨Or.inl (Or.inl z.1), Or.inl (Or.inl z.2)⟩
        · have z := both _ l2 (Or.inl h1.2)
          exact ⟨Or.inl (Or.inr ⟨h1.1, z.1⟩), Or.inl (Or.inr ⟨h1.1, z.2⟩)⟩
        · have z := both _ l1 (Or.inl h1.2)
          exact ⟨Or.inr ⟨h1.1, z.1⟩, Or.inr ⟨h1.1, z.2⟩⟩
        · have z := both p hp (Or.inr h1)
          exact ⟨Or.inl (Or.inl z.1), Or.inl (Or.inl z.2)⟩
        · have z := both _ l2 (Or.inr h1.2)
          exact ⟨Or.inl (Or.inr ⟨h1.1, z.1⟩), Or.inl (Or.inr ⟨h1.1, z.2⟩)⟩
        · have z := both _ l1 (Or.inr h1.2)
          exact ⟨Or.inr ⟨h1.1, z.1⟩, Or.inr ⟨h1.1, z.2⟩⟩
    simp only [Bool.or_eq_true, Bool.and_eq_true] at this
    rcases this with (h1 | h1) | h1
    · exact Or.inl h1
    · exact Or.inr (Or.inl h1)
    · exact Or.inr (Or.inr h1)
  · have mo : ∀ r s, r < tN t → s < tN t → conn t S r s = true → conn t (S ||| 2 ^ k) r s = true := fun r s hr hs h => conn_m w hm hr hs h
    have oq : conn t (S ||| 2 ^ k) (tO t k) (tQ t k) = true := (conn_b w hk l1 hx hkk (Or.inl (conn_r t _ _))).2
    have qo := conn_s w l1 l2 oq
    rintro (h | ⟨h1, h2⟩ | ⟨h1, h2⟩)
    · exact mo p q hp hq h
    · exact conn_t w hp l2 (conn_t w hp l1 (mo p _ hp l1 h1) oq) (mo _ q l2 hq h2)
    · exact conn_t w hp l1 (conn_t w hp l2 (mo p _ hp l2 h1) qo) (mo _ q l1 hq h2)
def LabI (t : TT) (S L : Nat) : Prop := L < 2 ^ 21 ∧ ∀ p q, p < tN t → q < tN t → (lab L p = lab L q ↔ conn t S p q = true)
theorem lab_merge {t : TT} (w : WT t) {S L L2 k : Nat} (hL : LabI t S L) (hk : k < tK t) (hx : tX t k = false) (h2 : L2 < 2 ^ 21) (hq : ∀ q, q < 7 → lab L2 q = if lab L q = lab L (tQ t k) then lab L (tO t k) else lab L q) : LabI t (S ||| 2 ^ k) L2 := by
  obtain ⟨-, -, l1, l2, -, -⟩ := w.2.2 k hk
  have h7 := w.1.1
  refine ⟨h2, fun p q hp hq' => ?_⟩
  rw [conn_J w hk hx hp hq', hq p (by omega), hq q (by omega)]
  unfold cJ
  have e1 := hL.2 p q hp hq'
  have e2 := hL.2 p (tO t k) hp l1
  have e3 := hL.2 p (tQ t k) hp l2
  have e4 := hL.2 (tQ t k) q l2 hq'
  have e5 := hL.2 (tO t k) q l1 hq'
  rw [← e1, ← e2, ← e3, ← e4, ← e5]
  by_cases k1 : lab L p = lab L (tQ t k)
  · rw [if_pos k1]
    by_cases k2 : lab L q = lab L (tQ t k)
    · rw [if_pos k2]
      exact ⟨fun _ => Or.inl (k1.trans k2.symm), fun _ => rfl⟩
    · rw [if_neg k2]
      exact ⟨fun h => Or.inr (Or.inr ⟨k1, h⟩), fun h => by
        rcases h with h | h | h
        · exact absurd (h.symm.trans k1) k2
        · exact absurd h.2.symm k2
        · exact h.2⟩
  · rw [if_neg k1]
    by_cases k2 : lab L q = lab L (tQ t k)
    · rw [if_pos k2]
      exact ⟨fun h => Or.inr (Or.inl ⟨h, k2.symm⟩), fun h => by
        rcases h with h | h | h
        · exact absurd (h.trans k2) k1
        · exact h.1
        · exact absurd h.1 k1⟩
    · rw [if_neg k2]
      exact ⟨fun h => Or.inl h, fun h => by
        rcases h with h | h | h
        · exact h
        · exact absurd h.2.symm k2
        · exact absurd h.1 k1⟩
theorem conn_same {t : TT} (w : WT t) {S k p q : Nat} (hk : k < tK t) (hx : tX t k = false) (hc : conn t S (tO t k) (tQ t k) = true) (hp : p < tN t) (hq : q < tN t) : conn t (S ||| 2 ^ k) p q = true ↔ conn t S p q = true := by
  obtain ⟨-, -, l1, l2, -, -⟩ := w.2.2 k hk
  rw [conn_J w hk hx hp hq]
  constructor
  · rintro (h | ⟨h1, h2⟩ | ⟨h1, h2⟩)
    · exact h
    · exact conn_t w hp l2 (conn_t w hp l1 h1 hc) h2
    · exact conn_t w hp l1 (conn_t w hp l2 h1 (conn_s w l1 l2 hc)) h2
  · exact fun h => Or.inl h
