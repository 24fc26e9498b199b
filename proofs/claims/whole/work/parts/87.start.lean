set_option maxRecDepth 100000
theorem px_start {s : State} {args : Array Value} {G : pw_G} (hts : ∀ w ∈ lw_tbl, w.before args s = true) (hgv : (Jvm.Cond.and given_1 narrow_1).before args s = true) (had : ∀ q, pw_A G q → s.heap.size ≤ q) : px_E G s s.heap := by
  have hg := flat_of_before _ hgv
  have hA : ∀ a : Nat, a < s.heap.size → ¬ pw_A G a := fun a h1 h2 => Nat.not_le.mpr h1 (had a h2)
  have tb : ∀ {w : Cond} (i : Nat), tables_1[i]? = some w → w.before args s = true := fun i h => hts _ (List.mem_append_right _ (List.mem_of_getElem? h))
  have str : ∀ {own tx : String} {k : Nat}, (Cond.stringRef own k tx).before args s = true → (Cond.exactly (.string own k) "java/lang/String").before args s = true → ∃ a, vk_R own k tx a s := fun h1 h2 => by
    obtain ⟨a, c, cell, k, q1, -⟩ := Cond.exactly_spec h2
    exact ⟨a, vk_R.of h1 q1⟩
  refine ⟨px_T.of hts, vx_Zqof (tb 1014 (by decide +kernel)) (tb 15 (by decide +kernel)) (hg _ (by decide +kernel)) hA, vx_Zqof (tb 1016 (by decide +kernel)) (tb 15 (by decide +kernel)) (hg _ (by decide +kernel)) hA, str (tb 1028 (by decide +kernel)) (hg _ (by decide +kernel)), str (tb 1064 (by decide +kernel)) (hg _ (by decide +kernel)), str (tb 1080 (by decide +kernel)) (hg _ (by decide +kernel)), str (tb 1096 (by decide +kernel)) (hg _ (by decide +kernel)), str (tb 1098 (by decide +kernel)) (hg _ (by decide +kernel)), va_Nc.of (hg _ (by decide +kernel)), va_Nc.of (hg _ (by decide +kernel)), va_Nc.of (hg _ (by decide +kernel))⟩
set_option maxHeartbeats 8000000 in
/-- YOUR PART: from the entry, for every script of at most 3072 ints, the law comes to its end with true ('hflags': the launch's flags, for a law that throws: no stack traces) -/
theorem whole_start {p : Program} {e : Env} {s : State} {m : MethodId} {below : List Frame} {meth : Method} {c : Code} (l : Launch) (hflags : l.flags = flags0) {b L : Nat} {xs : Nat → Int32} (hL : L ≤ 3072) (C0 : lw_At p s m meth c b L xs) : W p l e room_1 s m #[Value.ref b] below meth c s.heap [] 0 0 (lw_Z below #[Value.ref b] s) (entryFrame m ([Value.ref b] : List Value).toArray 8) := by
  obtain ⟨hx, hb, hr, hml, hown, hts, hX, hbl, hlocks, hgv⟩ := id C0
  have hst : l.stackTraces = false := by
    unfold Launch.stackTraces
    rw [hflags]
    decide
  have hT : pw_T s := pw_T.of hts
  have hAO : va_AO RX5 s := va_AO.of (hts _ (List.mem_append_right _ pw_ao1))
  have hAA : va_AOA .int s := va_AOA.of (hts _ (List.mem_append_right _ pw_ao2))
  obtain ⟨D, cI, cS, cF, cJ, hKs, hKJ⟩ := start_ids hT hAO hAA
  obtain ⟨N0, eN⟩ : ∃ N0 : Nat, N0 = s.heap.size := ⟨_, rfl⟩
  obtain ⟨G, eG⟩ : ∃ G : pw_G, G = (D, cI, cS, cF, fun k => N0 + k) := ⟨_, rfl⟩
  have hK : va_K G.1 vwCl (pw_tys G) s := by rw [eG]; exact hKs _
  have had : ∀ q, pw_A G q → s.heap.size ≤ q := by
    rintro q ⟨k, hk, rfl⟩
    rw [eG, ← eN]
    exact Nat.le_add_right N0 k
  have X : LX p l s m meth c b L xs G cJ (N0 + 86) := by
    refine ⟨C0, hst, hK, by rw [eG]; exact hKJ, ?_, ?_, by omega, ?_, px_start hts hgv had⟩
    · intro i j _ _ h
      rw [eG] at h
      have h2 : N0 + i = N0 + j := h
      omega
    · intro k _
      rw [eG, ← eN]
      exact Nat.le_add_right N0 k
    · rintro ⟨k, hk, h⟩
      rw [eG] at h
      have h2 : N0 + 86 = N0 + k := h
      have h3 : k < 86 := hk
      omega
  have loop := law_loop (e := e) (below := below) X hL (c0 := 87) (k0 := 2708) (by decide) (by decide) 513 0 (by decide) (by omega)
  have hC : cw_C (lw_K p l e s m below meth c b 0 0 s.heap) G N0 RL cL_law 8 (some .boolean) 1300 := ⟨hx, hb, hml, hown, hT, hK, Nat.le_of_eq eN, hlocks, hr, ⟨show 1300 ≤ 2048 by decide, show 60 * 1300 ≤ 84000 by decide⟩, hAO, hAA⟩
  have hJ : s.vm.findClass ("[" ++ (FieldType.long).toString) = some cJ := (hKJ.2 0 _ rfl).2
  have hls := lv_entry ([.ref b]) (n := 8) (Nat.le_of_ble_eq_true rfl)
  rw [lg_entry_eq]
  have last : CW (lw_K p l e s m below meth c b 0 0 s.heap) G N0 RL cL_law 8 (some .boolean) 1300 (lw_Z below #[Value.ref b] s) 23 [(4, .int 0), (3, .ref (N0 + 86)), (2, .ref (N0 + 71)), (1, .ref (N0 + 0)), (0, .ref b)] [] (kE19 G N0 ++ [.inl (cJ, 1, .inr (.inl (fun _ => 0)))]) 87 2708 := by
    intro C H locs ls hl hP hS
    have hW : pw_Wd G (fun _ _ => 0) H := by
      rw [eG] at hP ⊢
      exact start_W hP
    have hS2 : va_S (lw_big s) s.heap H locs := by
      have hS3 : va_S (fun q => N0 ≤ q) s.heap H locs := hS
      rw [eN] at hS3
      exact hS3
    have ad0 : pw_ad G 0 = N0 + 0 := by rw [eG]; rfl
    have ad71 : pw_ad G 71 = N0 + 71 := by rw [eG]; rfl
    refine loop (fun _ _ => 0) (fun _ => 0) H locs ls sim0 hW (start_O hP) hS2 ?_
    show lv_has ls 8 [(4, .int (iI ((6 * 0 : Nat) : Int))), (0, .ref b), (1, .ref (pw_ad G 0)), (2, .ref (pw_ad G 71)), (3, .ref (N0 + 86))]
    rw [ad0, ad71]
    exact lv_sub hl [0, 4, 3, 2, 1] rfl
  have walk : CW (lw_K p l e s m below meth c b 0 0 s.heap) G N0 RL cL_law 8 (some .boolean) 1300 (lw_Z below #[Value.ref b] s) 0 [(0, .ref b)] [] [] 0 0 := by
    exact (cw_new (fs := [.null, .null, .null, .null, .null, .null, .null, .null, .null, .null, .int 0]) cfX10 gcL10 giL10 gzL10 gvL10 (pc := 0) dL_law_0 (show 0 + 1 ≤ 601024 by decide) (show 0 + 11 ≤ 7293034 by decide) <|
cw_dup (pc := 3) dL_law_3 rfl <|
cw_callI (rest := [.ref (N0 + 0)]) (av := []) (ar := 0) (o := 0) (tX10_init l G N0) gkL10 gzL10 ⟨by decide +kernel, by decide +kernel⟩ (by decide +kernel) gmL10 rfl gl_L10 (pc := 4) dL_law_4 rfl rfl (by decide) (Nat.le_of_ble_eq_true rfl) (show 1 + 70 ≤ 601024 by decide) (show 11 + 1426 ≤ 7293034 by decide) <|
cw_astore_n [(1, .ref (N0 + 0)), (0, .ref b)] (pc := 7) dL_law_7 (by decide) rfl <|
cw_new (fs := [.null, .null, .null, .null, .null, .int 0, .int 0, .int 0, .int 0, .null, .null, .null, .int 0, .int 0, .int 0, .null, .null, .null, .null, .null, .null, .int 0]) cfX11 gcL11 giL11 gzL11 gvL11 (pc := 8) dL_law_8 (show 71 + 1 ≤ 601024 by decide) (show 1437 + 22 ≤ 7293034 by decide) <|
cw_dup (pc := 11) dL_law_11 rfl <|
cw_callI (rest := [.ref (N0 + 71)]) (av := []) (ar := 0) (o := 71) (tX11_init l G N0 71 (es := _) rfl) gkL11 gzL11 ⟨by decide +kernel, by decide +kernel⟩ (by decide +kernel) gmL11 rfl gl_L11 (pc := 12) dL_law_12 rfl rfl (by decide) (Nat.le_of_ble_eq_true rfl) (show 72 + 14 ≤ 601024 by decide) (show 1459 + 1248 ≤ 7293034 by decide) <|
cw_es (es2 := kE19 G N0) (n2 := 86) (k2 := 2707) rfl rfl rfl <|
cw_astore_n [(2, .ref (N0 + 71)), (1, .ref (N0 + 0)), (0, .ref b)] (pc := 15) dL_law_15 (by decide) rfl <|
cw_iconst (v := 1) (pc := 16) dL_law_16 (by decide) <|
cw_newl (N := 1) hJ (pc := 17) dL_law_17 (by decide) rfl (by decide) (show 86 + 1 ≤ 601024 by decide) (show 2707 + 1 ≤ 7293034 by decide) <|
cw_astore_n [(3, .ref (N0 + 86)), (2, .ref (N0 + 71)), (1, .ref (N0 + 0)), (0, .ref b)] (pc := 19) dL_law_19 (by decide) rfl <|
cw_iconst (v := 0) (pc := 20) dL_law_20 (by decide) <|
cw_istore [(4, .int 0), (3, .ref (N0 + 86)), (2, .ref (N0 + 71)), (1, .ref (N0 + 0)), (0, .ref b)] (pc := 21) dL_law_21 (by decide) rfl <|
last)
  exact walk hC s.heap [] _ hls ⟨eN.symm, fun k q hq => by simp [hw] at hq⟩ va_S.rf
