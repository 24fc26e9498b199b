/-! the law's element: it writes the cell o, a long array of one place, that is not of the world -/
set_option maxRecDepth 100000
def px_O (G : pw_G) (cJ : ClassId) (o : Nat) (f : Nat → Int64) (H : Heap) : Prop := va_P G.1 vwCl [(o, .inl (cJ, 1, .inr (.inl f)))] H
def px_A (G : pw_G) (o : Nat) (q : Nat) : Prop := pw_A G q ∨ q = o
theorem px_O.kept {G : pw_G} {cJ : ClassId} {o : Nat} {f : Nat → Int64} {H H1 : Heap} (h : px_O G cJ o f H) (hq : H1[o]? = H[o]?) : px_O G cJ o f H1 := va_P.kept h (fun k q hk => by
  match k, hk with
  | 0, hk => cases hk; exact hq
  | k + 1, hk => simp at hk)
theorem px_O.lt {G : pw_G} {cJ : ClassId} {o : Nat} {f : Nat → Int64} {H : Heap} (h : px_O G cJ o f H) : o < H.size := vx_lt h (k := 0) rfl
def px_k (n : Nat) : Int32 := match n with
  | 0 => 0
  | 1 => 1
  | _ => 2
def px_Ep (G : pw_G) (cJ : ClassId) (o : Nat) (f : Nat → Int64) (μ : pw_Mem) (U : State) : Prop := px_Pc G μ U ∧ px_O G cJ o f U.heap ∧ va_K G.1 vwCl [(cJ, .long)] U ∧ ¬ pw_A G o
theorem px_Eblind {av : List Value} {G : pw_G} {cJ : ClassId} {o : Nat} {f : Nat → Int64} {μ : pw_Mem} : FrameBlind (va_Pc av (px_Ep G cJ o f μ)) := fun a U g mk h => ⟨h.1, (px_blind (av := av) a U g mk ⟨h.1, h.2.1⟩).2, h.2.2.1, va_K.moved (u := U) (U := U.calling g mk a) (Vm.Alike.refl U.vm) h.2.2.2.1, h.2.2.2.2⟩
def px_Ec (G : pw_G) (cJ : ClassId) (o : Nat) (μ : pw_Mem) (r : Nat × Int64) : Array Value → State → Outcome → State → Prop := fun _ st oc t => oc = .returned (some (.int (px_k r.1))) ∧ pw_Wd G μ t.heap ∧ (∃ f, px_O G cJ o f t.heap ∧ (r.1 = 0 → f 0 = r.2)) ∧ va_F (px_A G o) st t
def px_EQ (K : pw_K) (G : pw_G) (cJ : ClassId) (o : Nat) (μ : pw_Mem) (r : Nat × Int64) : State → Prop := vx_MQ K.2.2.2.2.2.2.2.1 (px_Ec G cJ o μ r) (fun _ _ _ => False) K.2.2.2.2.2.2.1 K.2.2.2.2.1 1 6 (px_A G o)
theorem px_Eend {K : pw_K} {G : pw_G} {cJ : ClassId} {o : Nat} {own : String} {cc : ByteArray} {nL : Nat} {d : Nat} {r : Nat × Int64} {k : Int32} {f : Nat → Int64} {μ : pw_Mem} {pc : Nat} {ls : Array Slot} {H : Heap} {locs : List Loc} (C : pw_C K G own cc nL (some .int) d) (hn : K.2.2.2.2.2.2.2.2.2.2.1 ≤ 1 ∧ K.2.2.2.2.2.2.2.2.2.2.2.1 ≤ 6) (hk : px_k r.1 = k) (hf : r.1 = 0 → f 0 = r.2) (dg : decode cc pc = .ok (.ireturn, 1)) (hW : pw_Wd G μ H) (hO : px_O G cJ o f H) (hS : va_S (px_A G o) K.2.2.2.2.1.heap H locs) : pw_W K H locs (px_EQ K G cJ o μ r) (F0 K.2.2.2.2.2.1 pc ls [.int k]) := by
  subst hk
  exact W.widen hn.1 hn.2 (vx_ret (W.iret C.1 C.2.1 C.2.2.2.2.2.2.2.2.1 (fun t ht hWm => ⟨rfl, by rw [ht]; exact hW, ⟨f, by rw [ht]; exact hO, hf⟩, hS.F ht⟩) hS.2.2 dg C.2.2.2.2.2.2.2.1))
theorem px_Sw {G : pw_G} {o : Nat} {H0 H : Heap} {locs : List Loc} (h : va_S (pw_A G) H0 H locs) : va_S (px_A G o) H0 H locs := ⟨h.1, fun q h1 h2 => h.2.1 q h1 (fun z => h2 (Or.inl z)), fun l hl => Or.inl (h.2.2 l hl)⟩
theorem px_Oat {G : pw_G} {cJ : ClassId} {o : Nat} {f : Nat → Int64} {H0 H : Heap} {locs : List Loc} (hO : px_O G cJ o f H0) (ho : ¬ pw_A G o) (h : va_S (pw_A G) H0 H locs) : px_O G cJ o f H := hO.kept (h.2.1 o hO.lt ho)
theorem px_OD {G : pw_G} {o : Nat} {e : va_E} {μ : pw_Mem} (hi : pw_inj G) (ho : ¬ pw_A G o) : va_D (px_A G o) ([(o, e)] ++ pw_wl G μ) := by
  have h2 : va_D (pw_A G) (pw_wl G μ) := pw_DD hi
  refine va_D.app ⟨fun i j p q h1 h3 _ => ?_, fun k q hk => ?_⟩ (h2.weaken fun _ _ _ z => Or.inl z) fun i j p q h1 h3 e => ?_
  · match i, j, h1, h3 with
    | 0, 0, _, _ => rfl
    | 0, j + 1, _, h3 => simp at h3
    | i + 1, _, h1, _ => simp at h1
  · match k, hk with
    | 0, hk => cases hk; exact Or.inr rfl
    | k + 1, hk => simp at hk
  · match i, h1 with
    | 0, h1 => cases h1; exact ho (by rw [show o = q.1 from e]; exact h2.2 j q h3)
    | i + 1, h1 => simp at h1
def px_tE : List (Nat × Nat × Nat × Nat) := [(0, 9, 12, 13), (0, 9, 16, 15)]
theorem px_clE1 : Cond.classLink RL 13 px_IAE ∈ pw_LG := pw_inT 1090 (by decide +kernel) (by decide +kernel)
theorem px_clE2 : Cond.classLink RL 15 px_ISE ∈ pw_LG := pw_inT 1091 (by decide +kernel) (by decide +kernel)
theorem mlL_7 : Cond.methodLink RL 7 yX10_element ∈ pw_LG := pw_inT 1092 (by decide +kernel) (by decide +kernel)
set_option maxHeartbeats 4000000 in
theorem tL_element (l : Launch) (hl : l.stackTraces = false) (G : pw_G) (cJ : ClassId) (o : Nat) (f : Nat → Int64) (a1 a2 : Int32) (m0 : pw_Mem) (r : Nat × Int64) (hr : fX10_element a1 a2 m0 = some r) : vx_Met l yL_element [.codeWith yL_element cL_element 5 (some .int) px_tE] (px_rm 7) (va_Pc [.ref (pw_ad G 0), .int a1, .int a2, .ref o] (px_Ep G cJ o f m0)) (px_Ec G cJ o m0 r) (fun _ _ _ => False) 1 6 (px_A G o) := by
  refine vx_ofWH (cc := cL_element) (maxL := 5) (ret := some .int) (hh := px_tE) (by decide) rfl ?_
  intro p e s m args below meth c s₁ B hml hv
  obtain ⟨rfl, ⟨⟨hW, hK, hT, hI⟩, hE⟩, hO, hJ, ho⟩ := hv
  have ht : c.exceptionTable.toList = tableOf px_tE := vx_table (x := yL_element) B (atoms_spec (ws := [.codeWith yL_element cL_element 5 (some .int) px_tE]) B.pre _ List.mem_cons_self)
  obtain ⟨K, eK⟩ : ∃ K : pw_K, K = (p, l, e, px_rm 7, s, m, ([.ref (pw_ad G 0), .int a1, .int a2, .ref o] : List Value).toArray, below, meth, c, 0, 0, s.heap) := ⟨_, rfl⟩
  have hC : pw_C K G RL cL_element 5 (some .int) 7 := by
    rw [eK]
    exact ⟨B.exec, B.bytes, hml, findClass_of_methodNamed B.named, hT, hK, hI, B.notSynchronized, B.returns, ⟨Nat.le_refl _, Nat.le_refl _⟩, Nat.zero_le _, Nat.zero_le _⟩
  have hls := lv_entry ([.ref (pw_ad G 0), .int a1, .int a2, .ref o] : List Value) (n := 5) (Nat.le_of_ble_eq_true rfl)
  have hl0 : lv_args 0 ([.ref (pw_ad G 0), .int a1, .int a2, .ref o] : List Value) = [(0, .ref (pw_ad G 0)), (1, .int a1), (2, .int a2), (3, .ref o)] := rfl
  rw [hl0] at hls
  rw [lg_entry_eq]
  have hX : px_S K G := by rw [eK]; exact ⟨rfl, hE, ⟨rfl, rfl⟩, ⟨Nat.le_refl _, Nat.le_refl _⟩, hl⟩
  have hO' : px_O G cJ o f K.2.2.2.2.2.2.2.2.2.2.2.2 := by rw [eK]; exact hO
  have hJ' : va_K G.1 vwCl [(cJ, .long)] K.2.2.2.2.1 := by rw [eK]; exact hJ
  have hTb : K.2.2.2.2.2.2.2.2.2.1.exceptionTable.toList = tableOf px_tE := by rw [eK]; exact ht
  have hKl : K.2.1 = l := by rw [eK]
  have hWH : pw_Wd G m0 K.2.2.2.2.2.2.2.2.2.2.2.2 := by rw [eK]; exact hW
  have goal : PW K G RL cL_element 5 (some .int) 7 (px_EQ K G cJ o m0) (fX10_element a1 a2 m0) 0 [(0, .ref (pw_ad G 0)), (1, .int a1), (2, .int a2), (3, .ref o)] [] m0 := by
    have hE' : px_E G K.2.2.2.2.1 K.2.2.2.2.2.2.2.2.2.2.2.2 := by rw [hX.1]; exact hX.2.1
    have hR : K.2.2.2.2.2.2.2.2.2.2.1 + 1 ≤ K.2.2.2.1.cells ∧ K.2.2.2.2.2.2.2.2.2.2.2.1 + 6 ≤ K.2.2.2.1.slots := by rw [hX.2.2.1.1, hX.2.2.1.2]; exact hX.2.2.2.1
    have hn2 : (px_up K).2.2.2.2.2.2.2.2.2.2.1 ≤ 1 ∧ (px_up K).2.2.2.2.2.2.2.2.2.2.2.1 ≤ 6 := by
      show K.2.2.2.2.2.2.2.2.2.2.1 + 1 ≤ 1 ∧ K.2.2.2.2.2.2.2.2.2.2.2.1 + 6 ≤ 6
      rw [hX.2.2.1.1, hX.2.2.1.2]; exact ⟨Nat.le_refl _, Nat.le_refl _⟩
    have tail : ∀ (n : Nat) (x : Int64) (k : Int32) (pc : Nat) (lx : List (Nat × Value)), px_k n = k → n ≠ 0 → decode cL_element pc = .ok (.ireturn, 1) → PW (px_up K) G RL cL_element 5 (some .int) 7 (px_EQ K G cJ o m0) (some (n, x)) pc lx [.int k] m0 := by
      intro n x k pc lx h1 h2 dg r hr C H locs ls hl hW hS
      cases hr
      have hS' : va_S (pw_A G) K.2.2.2.2.2.2.2.2.2.2.2.2 H locs := hS
      have hOH := px_Oat hO' ho hS'
      rw [hX.1] at hS'
      exact px_Eend (K := px_up K) C hn2 h1 (fun h => absurd h h2) dg hW hOH (px_Sw hS')
    have hx : fX10_element a1 a2 m0 = bd (fX10_element a1 a2 m0) fun v => some v := by
      cases fX10_element a1 a2 m0 <;> rfl
    rw [hx]
    refine (pw_aload_n (pc := 0) dL_element_0 3 rfl <|
pw_iconst (v := 0) (pc := 1) dL_element_1 (by decide) <|
pw_aload_n (pc := 2) dL_element_2 0 rfl <|
pw_iload_n (pc := 3) dL_element_3 1 rfl <|
pw_iload_n (pc := 4) dL_element_4 2 rfl <|
px_callV (n := 2) (rest := [.int 0, .ref o]) (av := [.int a1, .int a2]) (o := 0) hE' hR (tX10_element K.2.1 (hKl ▸ hl) G a1 a2 m0) (pw_sh_0) cfX10 rfl miX10_element mlL_7 (pc := 5) dL_element_5 rfl rfl (by decide) (Nat.le_of_ble_eq_true rfl) ?_ ?_)
    · intro v u μ' hv
      match v, hv with
      | (0, x), hv =>
        cases hv
        intro r hr C H locs ls hl hW hS
        cases hr
        have hS' : va_S (pw_A G) K.2.2.2.2.2.2.2.2.2.2.2.2 H locs := hS
        have hOH := px_Oat hO' ho hS'
        have hKK : va_K G.1 vwCl ([(cJ, .long)] ++ pw_tys G) K.2.2.2.2.1 := hJ'.app C.2.2.2.2.2.1
        refine va_last (a := o) (i := 0) (x := x) (f := f) C.1 C.2.1 hKK (va_P.app hOH hW) (px_OD C.2.2.2.2.2.2.1 ho) (px_Sw hS') 0 0 rfl rfl (show ¬ _ by decide) dL_element_8 (fun H1 locs1 hP1 hD1 hS1 => ?_)
        have hP1' : va_P G.1 vwCl ([(o, .inl (cJ, 1, .inr (.inl (vp_updL f 0 x))))] ++ pw_wl G m0) H1 := hP1
        have hO1 : px_O G cJ o (vp_updL f 0 x) H1 := fun k q hk => hP1' k q (by
          match k, hk with
          | 0, hk => exact hk
          | k + 1, hk => simp at hk)
        have hW1 : pw_Wd G m0 H1 := fun k q hk => hP1' (k + 1) q hk
        refine lv_goto (tgt := 20) C.1 C.2.1 dL_element_9 (by decide) (lv_iconst (v := 0) C.1 C.2.1 dL_element_20 (by decide) ?_)
        rw [hX.1] at hS1
        exact px_Eend (K := px_up K) (cJ := cJ) (o := o) C hn2 rfl (fun _ => by simp [vp_updL]) dL_element_21 hW1 hO1 hS1
      | (1, x), hv => cases hv
      | (n + 2, x), hv => cases hv
    · intro v E μ' hv
      match v, hv with
      | (0, x), hv => cases hv
      | (1, x), hv =>
        cases hv
        exact px_catch hX.2.1.1 [] ⟨0, 9, 12, 13⟩ [⟨0, 9, 16, 15⟩] hTb (fun z hz => nomatch hz) (by decide) (by decide) px_clE1 px_ca2 fun q =>
          (pw_astore [(4, .ref q), (0, .ref (pw_ad G 0)), (1, .int a1), (2, .int a2), (3, .ref o)] (pc := 12) dL_element_12 (by decide) rfl <|
pw_iconst (v := 1) (pc := 14) dL_element_14 (by decide) <| tail 1 x 1 15 _ rfl (by decide) dL_element_15)
      | (n + 2, x), hv =>
        cases hv
        exact px_catch hX.2.1.1 [⟨0, 9, 12, 13⟩] ⟨0, 9, 16, 15⟩ [] hTb (fun z hz => by
          rw [List.mem_singleton.mp hz]
          exact Or.inr ⟨by decide, px_IAE, px_clE1, hX.2.1.2.2.2.2.2.2.2.2.2.2⟩) (by decide) (by decide) px_clE2 px_ca3 fun q =>
          (pw_astore [(4, .ref q), (0, .ref (pw_ad G 0)), (1, .int a1), (2, .int a2), (3, .ref o)] (pc := 16) dL_element_16 (by decide) rfl <|
pw_iconst (v := 2) (pc := 18) dL_element_18 (by decide) <| tail (n + 2) x 2 19 _ rfl (by omega) dL_element_19)
  have res := goal r hr hC K.2.2.2.2.2.2.2.2.2.2.2.2 [] _ hls hWH va_S.rf
  rw [eK] at res
  exact res
