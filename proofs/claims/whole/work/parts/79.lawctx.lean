def R_law : String := "RubberBandsHoldFamiliesLaw"
def lw_P (b : Addr) (xs : List Int32) (args : Array Value) (s : State) : Prop := args = #[.ref b] ∧ s.IntsAt b xs ∧ xs.length ≤ 3072 ∧ (Jvm.Cond.and given_1 narrow_1).before args s = true
def lw_Q (_ : Array Value) (s : State) (o : Outcome) (t : State) : Prop := o = .returned (some (.int 1)) ∧ Framed s o t [] 601024 7293034
def lw_Z (below : List Frame) (a : Array Value) (s : State) : State → Prop := fun t => ∃ o, t.status = .running ∧ Ended t below o ∧ lw_Q a s o t
/-- the law's own end, with 1 on the stack, nothing written that was there before, its room as the claim has it -/
theorem lw_ret {p : Program} {l : Launch} {e : Env} {s : State} {m : MethodId} {below : List Frame} {meth : Method} {c : Code} {b : Nat} (hx : p.tables.exec = Jvm.exec) (hb : c.code = code) (hr : meth.sig.returnType = ret) (hlocks : meth.locks = false) {pc : Nat} {H : Heap} {ls : Array Slot} (hdg : decode code pc = .ok (.ireturn, 1)) : W p l e room_1 s m #[Value.ref b] below meth c H [] 601024 7293034 (lw_Z below #[Value.ref b] s) (F0 m pc ls [.int 1]) := by
  intro T hT X
  obtain ⟨fs, hret, hrun, hended, hW, hframe⟩ := X.leave (v := some (.int 1)) (hlocks := hlocks) (fun h => by rw [hr] at h; cases h)
  have hmeth' : T.vm.method? m = some meth := X.method'
  refine ⟨T.setFrames fs, ?_, .returned (some (.int 1)), hrun, hended, rfl, ⟨_, rfl⟩, hW, hframe⟩
  jvm_step X.here [X.here.top, hx, hb, hdg, hmeth', hr, ret, narrow_b1]
  (try refine ⟨rfl, ?_⟩); (try refine ⟨rfl, ?_⟩)
  first | (intro acts; rw [hret _ acts rfl rfl rfl]) | rw [hret _ _ rfl rfl rfl]
  exact Steps.refl _
/-- what holds at the law's entry: the machine, the code, the tables' words (any of lw_tbl by 'hts w (by decide +kernel)'), the script of L ints xs at the cell b, what the Statement gives of the start (any of its parts by flat_of_before) -/
def lw_At (p : Program) (s : State) (m : MethodId) (meth : Method) (c : Code) (b L : Nat) (xs : Nat → Int32) : Prop :=
  p.tables.exec = Jvm.exec ∧ c.code = code ∧ meth.sig.returnType = ret ∧ c.maxLocals = 8 ∧ s.vm.findClass R_law = some m.cls ∧ (∀ w ∈ lw_tbl, w.before #[Value.ref b] s = true) ∧ va_X b L xs s s.heap ∧ b < s.heap.size ∧ meth.locks = false ∧ (Jvm.Cond.and given_1 narrow_1).before #[Value.ref b] s = true
set_option maxRecDepth 100000
/-- what the law's walk stands on: the machine, the law's own things, the made world's addresses behind all that was there before -/
def LX (p : Program) (l : Launch) (s : State) (m : MethodId) (meth : Method) (c : Code) (b L : Nat) (xs : Nat → Int32) (G : pw_G) (cJ : ClassId) (o : Nat) : Prop :=
  lw_At p s m meth c b L xs ∧ l.stackTraces = false ∧ va_K G.1 vwCl (pw_tys G) s ∧ va_K G.1 vwCl [(cJ, .long)] s ∧ pw_inj G ∧ (∀ k, k < pw_NC → s.heap.size ≤ pw_ad G k) ∧ s.heap.size ≤ o ∧ ¬ pw_A G o ∧ px_E G s s.heap
def lw_K (p : Program) (l : Launch) (e : Env) (s : State) (m : MethodId) (below : List Frame) (meth : Method) (c : Code) (b n o : Nat) (H : Heap) : pw_K := (p, l, e, room_1, s, m, #[Value.ref b], below, meth, c, n, o, H)
abbrev lw_big (s : State) (q : Nat) : Prop := s.heap.size ≤ q
section LawLoop
variable {p : Program} {l : Launch} {e : Env} {s : State} {m : MethodId} {below : List Frame} {meth : Method} {c : Code} {b L : Nat} {xs : Nat → Int32} {G : pw_G} {cJ : ClassId} {o : Nat}
theorem LX.A (X : LX p l s m meth c b L xs G cJ o) {q : Nat} (h : pw_A G q) : s.heap.size ≤ q := by
  obtain ⟨k, hk, rfl⟩ := h
  exact X.2.2.2.2.2.1 k hk
theorem LX.AO (X : LX p l s m meth c b L xs G cJ o) {q : Nat} (h : px_A G o q) : s.heap.size ≤ q := by
  rcases h with h | rfl
  · exact X.A h
  · exact X.2.2.2.2.2.2.1
theorem lw_C (X : LX p l s m meth c b L xs G cJ o) {n k : Nat} (hn : n ≤ 601024) (hk : k ≤ 7293034) (H : Heap) : pw_C (lw_K p l e s m below meth c b n k H) G RL cL_law 8 (some .boolean) 1300 := by
  obtain ⟨hx, hb, hr, hml, hown, hts, hX, hbl, hlocks, hgv⟩ := X.1
  exact ⟨hx, hb, hml, hown, pw_T.of hts, X.2.2.1, X.2.2.2.2.1, hlocks, hr, ⟨show 1300 ≤ 2048 by decide, show 60 * 1300 ≤ 84000 by decide⟩, hn, hk⟩
theorem lw_comp (X : LX p l s m meth c b L xs G cJ o) {H0 H : Heap} {locs : List Loc} {A : Nat → Prop} (hA : ∀ q, A q → s.heap.size ≤ q) (h0 : va_S (lw_big s) s.heap H0 []) (h : va_S A H0 H locs) : va_S (lw_big s) s.heap H locs := ⟨Nat.le_trans h0.1 h.1, fun q h1 h2 => (h.2.1 q (Nat.lt_of_lt_of_le h1 h0.1) (fun z => h2 (hA q z))).trans (h0.2.1 q h1 h2), fun l hl => hA _ (h.2.2 l hl)⟩
theorem lw_F (X : LX p l s m meth c b L xs G cJ o) {n k : Nat} {H : Heap} {i : Int32} (h0 : va_S (lw_big s) s.heap H []) (hi : vp_in i L ∧ vp_in (i + 1) L ∧ vp_in (i + 2) L ∧ vp_in (i + 3) L ∧ vp_in (i + 4) L ∧ vp_in (i + 5) L) : LF (lw_K p l e s m below meth c b n k H) G b L xs i := by
  obtain ⟨hx, hb, hr, hml, hown, hts, hX, hbl, hlocks, hgv⟩ := X.1
  have hb2 : ¬ lw_big s b := Nat.not_le.mpr hbl
  exact ⟨hX.kept (h0.2.1 b hbl hb2), Nat.lt_of_lt_of_le hbl h0.1, fun z => hb2 (X.A z), hi⟩
theorem lw_E (X : LX p l s m meth c b L xs G cJ o) {H : Heap} (h0 : va_S (lw_big s) s.heap H []) : px_E G s H := by
  obtain ⟨h1, h2, h3, h4⟩ := X.2.2.2.2.2.2.2.2
  have big : ∀ {C n d : String}, vx_Zq C n d (pw_A G) s s.heap → vx_Zq C n d (pw_A G) s H := by
    intro C n d h
    have hb : vx_Zq C n d (lw_big s) s s.heap := ⟨?_, ?_⟩
    · exact (hb.kept h0.2.1).narrow (fun q z => X.A z)
    · rcases h.1 with z | ⟨t, z⟩
      · obtain ⟨cf, kf, fi, f, a, cell, q1, q2, q3, q4, q5, q6, q7, q8⟩ := z
        exact Or.inl ⟨cf, kf, fi, f, a, cell, q1, q2, q3, q4, q5, q6, q7, Nat.not_le.mpr (Array.getElem?_eq_some_iff.mp q5).1⟩
      · obtain ⟨cf, kf, fi, f, a, cell, q1, q2, q3, q4, q5, q6, q7, q8⟩ := z
        exact Or.inr ⟨t, cf, kf, fi, f, a, cell, q1, q2, q3, q4, q5, q6, q7, Nat.not_le.mpr (Array.getElem?_eq_some_iff.mp q5).1⟩
    · obtain ⟨c, k, i, f, a, cell, q1, q2, q3, q4, q5, q6, q7, q8, q9, q10⟩ := h.2
      exact ⟨c, k, i, f, a, cell, q1, q2, q3, q4, q5, q6, q7, q8, q9, Nat.not_le.mpr (Array.getElem?_eq_some_iff.mp q5).1⟩
  exact ⟨h1, big h2, big h3, h4⟩
/-- the walk goes on from pc, whatever the heap, if both sides hold the same -/
def LW (p : Program) (l : Launch) (e : Env) (s : State) (m : MethodId) (below : List Frame) (meth : Method) (c : Code) (b : Nat) (G : pw_G) (cJ : ClassId) (o : Nat) (n k pc : Nat) (i : Int32) : Prop :=
  ∀ (μ : pw_Mem) (f : Nat → Int64) (H : Heap) (locs : List Loc) (ls : Array Slot), Sim μ → pw_Wd G μ H → px_O G cJ o f H → va_S (lw_big s) s.heap H locs → lv_has ls 8 (lw_l G b o i) → W p l e room_1 s m #[Value.ref b] below meth c H locs n k (lw_Z below #[Value.ref b] s) (F0 m pc ls [])
def LQ (below : List Frame) (b : Nat) (s : State) (_ : Unit) : State → Prop := lw_Z below #[Value.ref b] s
theorem lw_in (X : LX p l s m meth c b L xs G cJ o) {n k pc : Nat} {i : Int32} (hn : n ≤ 601024) (hk : k ≤ 7293034)
    (h : ∀ (μ : pw_Mem) (f : Nat → Int64) (H : Heap), Sim μ → px_O G cJ o f H → va_S (lw_big s) s.heap H [] → PW (lw_K p l e s m below meth c b n k H) G RL cL_law 8 (some .boolean) 1300 (LQ below b s) (some ()) pc (lw_l G b o i) [] μ) : LW p l e s m below meth c b G cJ o n k pc i := by
  intro μ f H locs ls hs hW hO hS hl
  have hS0 : va_S (lw_big s) s.heap H [] := ⟨hS.1, hS.2.1, fun _ h => nomatch h⟩
  exact va_forget (fun q hq => hS.2.2 q hq) (h μ f H hs hO hS0 () rfl (lw_C X hn hk H) H [] ls hl hW va_S.rf)
theorem lw_out (X : LX p l s m meth c b L xs G cJ o) {n k pc : Nat} {i : Int32} (h : LW p l e s m below meth c b G cJ o n k pc i) {f : Nat → Int64} {H : Heap} (hO : px_O G cJ o f H) (h0 : va_S (lw_big s) s.heap H []) {μ : pw_Mem} (hs : Sim μ) : PW (lw_K p l e s m below meth c b n k H) G RL cL_law 8 (some .boolean) 1300 (LQ below b s) (some ()) pc (lw_l G b o i) [] μ := by
  intro r hr C H1 locs ls hl hW hS
  exact h μ f H1 locs ls hs hW (px_Oat hO X.2.2.2.2.2.2.2.1 hS) (lw_comp X (fun q z => X.A z) h0 hS) hl
/-- one less used is no harm -/
theorem LW.widen {n k n1 k1 pc : Nat} {i : Int32} (h : LW p l e s m below meth c b G cJ o n1 k1 pc i) (hn : n ≤ n1) (hk : k ≤ k1) : LW p l e s m below meth c b G cJ o n k pc i := fun μ f H locs ls a1 a2 a3 a4 a5 => W.widen hn hk (h μ f H locs ls a1 a2 a3 a4 a5)
end LawLoop
