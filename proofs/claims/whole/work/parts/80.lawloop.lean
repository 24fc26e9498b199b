set_option maxRecDepth 100000
theorem pw_slen {τ : Type} {K : pw_K} {G : pw_G} {own : String} {cc : ByteArray} {nL : Nat} {ret : Option FieldType} {d : Nat} {Q : τ → State → Prop} {x : Option τ} {pc : Nat} {l : List (Nat × Value)} {st : List Value} {μ : pw_Mem} {b L : Nat} {xs : Nat → Int32} (hX : va_X b L xs K.2.2.2.2.1 K.2.2.2.2.2.2.2.2.2.2.2.2) (hbl : b < K.2.2.2.2.2.2.2.2.2.2.2.2.size) (hbA : ¬ pw_A G b) (dg : decode cc pc = .ok (.arraylength, 1)) (h : PW K G own cc nL ret d Q x (pc + 1) l (.int (Int32.ofNat L) :: st) μ) : PW K G own cc nL ret d Q x pc l (.ref b :: st) μ := fun r hr C H locs ls hl hW hS => va_slen C.1 C.2.1 hX hbl hbA hS dg (h r hr C H locs ls hl hW hS)
theorem pw_gt2 {τ : Type} {K : pw_K} {G : pw_G} {own : String} {cc : ByteArray} {nL : Nat} {ret : Option FieldType} {d : Nat} {Q : τ → State → Prop} {x : Option τ} {pc : Nat} {l : List (Nat × Value)} {st : List Value} {μ : pw_Mem} {a b : Int32} {off : Int} {tgt : Nat} (dg : decode cc pc = .ok (.if_icmp .gt off, 3)) (ht : (pc : Int) + off = (tgt : Int)) (kt : b < a → PW K G own cc nL ret d Q x tgt l st μ) (kf : ¬ (b < a) → PW K G own cc nL ret d Q x (pc + 3) l st μ) : PW K G own cc nL ret d Q x pc l (.int b :: .int a :: st) μ := fun r hr C H locs ls hl hW hS => lv_icmp_gt C.1 C.2.1 dg ht (fun hc => kt hc r hr C H locs ls hl hW hS) (fun hc => kf hc r hr C H locs ls hl hW hS)
theorem pw_ne2 {τ : Type} {K : pw_K} {G : pw_G} {own : String} {cc : ByteArray} {nL : Nat} {ret : Option FieldType} {d : Nat} {Q : τ → State → Prop} {x : Option τ} {pc : Nat} {l : List (Nat × Value)} {st : List Value} {μ : pw_Mem} {a : Int32} {off : Int} {tgt : Nat} (dg : decode cc pc = .ok (.ifCond .ne off, 3)) (ht : (pc : Int) + off = (tgt : Int)) (kt : ¬ a = 0 → PW K G own cc nL ret d Q x tgt l st μ) (kf : a = 0 → PW K G own cc nL ret d Q x (pc + 3) l st μ) : PW K G own cc nL ret d Q x pc l (.int a :: st) μ := fun r hr C H locs ls hl hW hS => lv_if_ne C.1 C.2.1 dg ht (fun hc => kt hc r hr C H locs ls hl hW hS) (fun hc => kf hc r hr C H locs ls hl hW hS)
theorem pw_ifx {τ : Type} {K : pw_K} {G : pw_G} {own : String} {cc : ByteArray} {nL : Nat} {ret : Option FieldType} {d : Nat} {Q : τ → State → Prop} {x : Option τ} {pc : Nat} {l : List (Nat × Value)} {st : List Value} {μ : pw_Mem} (c : Prop) (h1 : c → PW K G own cc nL ret d Q x pc l st μ) (h2 : ¬ c → PW K G own cc nL ret d Q x pc l st μ) : PW K G own cc nL ret d Q x pc l st μ := (Classical.em c).elim h1 h2
theorem pw_subl {τ : Type} {K : pw_K} {G : pw_G} {own : String} {cc : ByteArray} {nL : Nat} {ret : Option FieldType} {d : Nat} {Q : τ → State → Prop} {x : Option τ} {pc : Nat} {l : List (Nat × Value)} {st : List Value} {μ : pw_Mem} {l' : List (Nat × Value)} (ks : List Nat) (e : lv_pick l ks = l') (h : PW K G own cc nL ret d Q x pc l' st μ) : PW K G own cc nL ret d Q x pc l st μ := fun r hr C H locs ls hl hW hS => h r hr C H locs ls (lv_sub hl ks e) hW hS
/-- the law's own cell o, read -/
theorem pw_old {τ : Type} {K : pw_K} {G : pw_G} {own : String} {cc : ByteArray} {nL : Nat} {ret : Option FieldType} {d : Nat} {Q : τ → State → Prop} {x : Option τ} {pc : Nat} {l : List (Nat × Value)} {st : List Value} {μ : pw_Mem} {cJ : ClassId} {o : Nat} {f : Nat → Int64} {v : Int64} (hO : px_O G cJ o f K.2.2.2.2.2.2.2.2.2.2.2.2) (ho : ¬ pw_A G o) (hJ : va_K G.1 vwCl [(cJ, .long)] K.2.2.2.2.1) (hv : f 0 = v) (dg : decode cc pc = .ok (.laload, 1)) (h : PW K G own cc nL ret d Q x (pc + 1) l (.long v :: st) μ) : PW K G own cc nL ret d Q x pc l (.int 0 :: .ref o :: st) μ := by
  subst hv
  exact fun r hr C H locs ls hl hW hS => va_lald (i := 0) C.1 C.2.1 hJ (px_Oat hO ho hS) 0 0 rfl rfl (show ¬ _ by decide) dg (h r hr C H locs ls hl hW hS)
theorem lw_vp {n N : Nat} (h : n < N) (hN : N ≤ 3072) : vp_in (iI ((n : Nat) : Int)) N := by
  rintro (q | q)
  · have q2 : iI ((n : Nat) : Int) < iI ((0 : Nat) : Int) := q
    rw [iI_lt (by omega) (by omega) (by omega) (by omega)] at q2
    omega
  · rw [iI_cl (by omega) (by omega)] at q
    omega
section Law40
variable {p : Program} {l : Launch} {e : Env} {s : State} {m : MethodId} {below : List Frame} {meth : Method} {c : Code} {b L : Nat} {xs : Nat → Int32} {G : pw_G} {cJ : ClassId} {o : Nat}
set_option maxHeartbeats 4000000 in
theorem lw_40 (X : LX p l s m meth c b L xs G cJ o) {n k : Nat} {i : Int32} (hn : n + 1 ≤ 601024) (hk : k + 6 ≤ 7293034) (hi : vp_in i L ∧ vp_in (i + 1) L ∧ vp_in (i + 2) L ∧ vp_in (i + 3) L ∧ vp_in (i + 4) L ∧ vp_in (i + 5) L) (h : LW p l e s m below meth c b G cJ o (n + 1) (k + 6) 1676 i) : LW p l e s m below meth c b G cJ o n k 1486 i := by
  refine lw_in X (by omega) (by omega) (fun μ f H hs hO hS0 => ?_)
  obtain ⟨r1, v, u, m2, e1, e2, e3, e4, hs2⟩ := op_element hs (xs (i + 1).toNatClampNeg) (xs (i + 2).toNatClampNeg)
  have F := lw_F (e := e) (below := below) (n := n) (k := k) X hS0 hi
  refine pw_aload_n (pc := 1486) dL_law_1486 2 rfl <|
pw_aload_n (pc := 1487) dL_law_1487 1 rfl <|
pw_iload (pc := 1488) dL_law_1488 0 rfl <|
pw_iconst (v := 1) (pc := 1490) dL_law_1490 (by decide) <|
pw_iadd (pc := 1491) dL_law_1491 <|
pw_sld (i := i + 1) F F.2.2.2.2.1 (pc := 1492) dL_law_1492 <|
pw_aload_n (pc := 1493) dL_law_1493 1 rfl <|
pw_iload (pc := 1494) dL_law_1494 0 rfl <|
pw_iconst (v := 2) (pc := 1496) dL_law_1496 (by decide) <|
pw_iadd (pc := 1497) dL_law_1497 <|
pw_sld (i := i + 2) F F.2.2.2.2.2.1 (pc := 1498) dL_law_1498 <|
pw_aload_n (pc := 1499) dL_law_1499 4 rfl <| ?_
  intro r hr C H1 locs ls hl hW hS
  have hat := fun (w : Cond) (hw : w ∈ pw_LG) => C.2.2.2.2.1.at (a := #[Value.ref b]) w hw
  have hS' : va_S (pw_A G) H H1 locs := hS
  have hE1 : px_E G s H1 := (lw_E X hS0).move (State.WarmedH.refl s) hS'.2.1
  have hO1 : px_O G cJ o f H1 := px_Oat hO X.2.2.2.2.2.2.2.1 hS'
  have hrun : vx_Run p l e room_1 s m #[Value.ref b] below meth c H1 locs n k 1 6 (F0 m 1500 ls [.ref o, .int (xs (i + 2).toNatClampNeg), .int (xs (i + 1).toNatClampNeg), .ref (pw_ad G 0)]) [] (px_Ec G cJ o μ (r1, v) (([.ref (pw_ad G 0), .int (xs (i + 1).toNatClampNeg), .int (xs (i + 2).toNatClampNeg), .ref o] : List Value).toArray)) (fun _ _ _ => False) (px_A G o) := by
    refine vx_runSX (Ts := pw_LG) (own := RL) (cc := cL_law) (nL := 8) (As := [.ref (pw_ad G 0), .int (xs (i + 1).toNatClampNeg), .int (xs (i + 2).toNatClampNeg), .ref o]) (n := 4) (bytes := cL_element) (maxL := 5) (ret := some .int) (y := yL_element) (hh := px_tE) ⟨C.1, C.2.1, C.2.2.1, C.2.2.2.1, hat⟩ (tL_element l X.2.1 G cJ o f _ _ μ (r1, v) e1) ⟨⟨rfl, rfl, by decide, by decide, ?_, List.mem_singleton.mpr rfl⟩, hat _ miL_element.1, hat _ miL_element.2.1, miL_element.2.2.1, pw_len miL_element.2.2.2.1, hat _ mlL_188, hat _ miL_element.2.2.2.2⟩ ⟨px_Eblind, fun U hU hWm => ⟨rfl, ⟨⟨by rw [hU]; exact hW, va_K.moved hWm.alike C.2.2.2.2.2.1, C.2.2.2.2.1.warm hWm, C.2.2.2.2.2.2.1⟩, by rw [hU]; exact hE1.move hWm (fun _ _ _ => rfl)⟩, by rw [hU]; exact hO1, va_K.moved hWm.alike X.2.2.2.1, X.2.2.2.2.2.2.2.1⟩⟩ rfl rfl hl.1 rfl (lv_room (by decide)) dL_law_1500 ⟨hn, hk⟩
    intro w hw a' U hWm
    rw [List.mem_singleton.mp hw]
    exact pw_warm hWm (List.mem_filter.mp miL_element.1).2 (hat _ miL_element.1)
  intro T hT XX
  rcases hrun T hT XX with ⟨v2, st₀, t, T', Lc, h0, X', hL, e5, e6, ⟨hv, hwd, ⟨f1, hO2, hf1⟩, hz, hkk⟩, st⟩ | ⟨q, st₀, t, T', Lc, E, ce, h0, X', hL, e5, e6, hx, hce, hcv, hcl, st⟩
  · cases hv
    rw [h0] at hz hkk
    rw [← e5] at hwd hO2 hz hkk
    have hS1 : va_S (px_A G o) H T'.heap (locs ++ Lc) := ⟨Nat.le_trans hS'.1 hz, fun q h1 h2 => (hkk q (Nat.lt_of_lt_of_le h1 hS'.1) h2).trans ((px_Sw (o := o) hS').2.1 q h1 h2), fun q hq => by
      rcases List.mem_append.mp hq with h | h
      · exact (px_Sw (o := o) hS').2.2 q h
      · exact hL q h⟩
    have hS2 := lw_comp X (fun q z => X.AO z) hS0 hS1
    have hS3 : va_S (lw_big s) s.heap T'.heap [] := ⟨hS2.1, hS2.2.1, fun _ h => nomatch h⟩
    have F2 := lw_F (e := e) (below := below) (n := n + 1) (k := k + 6) X hS3 hi
    have fin : PW (lw_K p l e s m below meth c b (n + 1) (k + 6) T'.heap) G RL cL_law 8 (some .boolean) 1300 (LQ below b s) (some ()) 1676 [(6, .long u), (5, .int (px_k r1)), (4, .int i), (0, .ref b), (1, .ref (pw_ad G 0)), (2, .ref (pw_ad G 71)), (3, .ref o)] [] m2 := pw_subl [2, 3, 4, 5, 6] rfl (lw_out X h hO2 hS3 hs2)
    have PW2 : PW (lw_K p l e s m below meth c b (n + 1) (k + 6) T'.heap) G RL cL_law 8 (some .boolean) 1300 (LQ below b s) (some ()) 1503 (lw_l G b o i) [.int (px_k r1)] μ :=
      pw_istore [(5, .int (px_k r1)), (4, .int i), (0, .ref b), (1, .ref (pw_ad G 0)), (2, .ref (pw_ad G 71)), (3, .ref o)] (pc := 1503) dL_law_1503 (by decide) rfl <|
pw_aload_n (pc := 1505) dL_law_1505 4 rfl <|
pw_aload_n (pc := 1506) dL_law_1506 2 rfl <|
pw_iload (pc := 1507) dL_law_1507 1 rfl <|
pw_iconst (v := 1) (pc := 1509) dL_law_1509 (by decide) <|
pw_iadd (pc := 1510) dL_law_1510 <|
pw_sld (i := i + 1) F2 F2.2.2.2.2.1 (pc := 1511) dL_law_1511 <|
pw_aload_n (pc := 1512) dL_law_1512 2 rfl <|
pw_iload (pc := 1513) dL_law_1513 1 rfl <|
pw_iconst (v := 2) (pc := 1515) dL_law_1515 (by decide) <|
pw_iadd (pc := 1516) dL_law_1516 <|
pw_sld (i := i + 2) F2 F2.2.2.2.2.2.1 (pc := 1517) dL_law_1517 <|
pw_goV (rest := []) (n := 2) (Py := pw_Wl) (tX11_element l G _ _ μ) e2 (pw_sh_71) cfX11 rfl miX11_element mlL_193 (pc := 1518) dL_law_1518 rfl rfl (by decide) (Nat.le_of_ble_eq_true rfl) <|
pw_lstore [(6, .long u), (5, .int (px_k r1)), (4, .int i), (0, .ref b), (1, .ref (pw_ad G 0)), (2, .ref (pw_ad G 71)), (3, .ref o)] (pc := 1521) dL_law_1521 (by decide) rfl <|
pw_aload_n (pc := 1523) dL_law_1523 5 rfl <|
pw_goV (rest := []) (n := 0) (Py := pw_Ri m2) (tX11_thrown l G m2) e3 (pw_sh_71) cfX11 rfl miX11_thrown mlL_194 (pc := 1524) dL_law_1524 rfl rfl (by decide) (Nat.le_of_ble_eq_true rfl) <|
pw_iload (pc := 1527) dL_law_1527 1 rfl <|
lw_eq (tgt := 1534) (pc := 1529) dL_law_1529 (by decide) <|
pw_iload (pc := 1534) dL_law_1534 1 rfl <|
pw_ne2 (tgt := 1550) (pc := 1536) dL_law_1536 (by decide) (fun _ => pw_goto (tgt := 1676) (pc := 1550) dL_law_1550 (by decide) fin) (fun hz =>
pw_aload_n (pc := 1539) dL_law_1539 6 rfl <|
pw_iconst (v := 0) (pc := 1540) dL_law_1540 (by decide) <|
pw_old (v := u) hO2 X.2.2.2.2.2.2.2.1 X.2.2.2.1 ((hf1 (e4 hz).1).trans (e4 hz).2) (pc := 1541) dL_law_1541 <|
pw_lload (pc := 1542) dL_law_1542 0 rfl <|
lw_leq (tgt := 1550) (pc := 1544) dL_law_1544 dL_law_1545 (by decide) <|
pw_goto (tgt := 1676) (pc := 1550) dL_law_1550 (by decide) fin)
    have goal2 : W p l e room_1 s m #[Value.ref b] below meth c T'.heap (locs ++ Lc) (n + 1) (k + 6) (lw_Z below #[Value.ref b] s) (F0 m 1503 ls [.int (px_k r1)]) := va_forget (fun q hq => hS2.2.2 q hq) (PW2 () rfl (lw_C X hn hk T'.heap) T'.heap [] ls hl hwd va_S.rf)
    obtain ⟨t2, a1, b1⟩ := goal2 T' rfl X'
    exact ⟨t2, st t2 a1, b1⟩
  · exact hx.elim
/-- behind a case -/
theorem lw_next (X : LX p l s m meth c b L xs G cJ o) {n k : Nat} {i i' : Int32} (hn : n ≤ 601024) (hk : k ≤ 7293034) (hi : i + 6 = i') (h : LW p l e s m below meth c b G cJ o n k 23 i') : LW p l e s m below meth c b G cJ o n k 1676 i := by
  refine lw_in X hn hk (fun μ f H hs hO hS0 => ?_)
  exact pw_iinc (v := i') (lw_l G b o i') (pc := 1676) dL_law_1676 0 rfl hi (by decide) rfl <|
pw_goto (tgt := 23) (pc := 1679) dL_law_1679 (by decide) (lw_out X h hO hS0 hs)
set_option maxHeartbeats 8000000 in
/-- one turn -/
theorem lw_turn (X : LX p l s m meth c b L xs G cJ o) {n k : Nat} {i : Int32} (hn : n + 1 ≤ 601024) (hk : k + 6 ≤ 7293034) (hi : vp_in i L ∧ vp_in (i + 1) L ∧ vp_in (i + 2) L ∧ vp_in (i + 3) L ∧ vp_in (i + 4) L ∧ vp_in (i + 5) L) (h : LW p l e s m below meth c b G cJ o (n + 1) (k + 6) 1676 i) : LW p l e s m below meth c b G cJ o n k 33 i := by
  have h40 := lw_40 X hn hk hi h
  have h2 : LW p l e s m below meth c b G cJ o n k 1676 i := h.widen (Nat.le_succ n) (Nat.le_add_right k 6)
  refine lw_in X (Nat.le_of_succ_le hn) (Nat.le_trans (Nat.le_add_right k 6) hk) (fun μ f H hs hO hS0 => ?_)
  have F := lw_F (e := e) (below := below) (n := n) (k := k) X hS0 hi
  have F2 := lw_F (e := e) (below := below) (n := n + 1) (k := k + 6) X hS0 hi
  have h0 : ∀ μ2, Sim μ2 → PW (lw_K p l e s m below meth c b n k H) G RL cL_law 8 (some .boolean) 1300 (LQ below b s) (some ()) 1676 (lw_l G b o i) [] μ2 := fun μ2 hs2 => lw_out X h2 hO hS0 hs2
  have h1 : ∀ μ2, Sim μ2 → PW (px_up (lw_K p l e s m below meth c b n k H)) G RL cL_law 8 (some .boolean) 1300 (LQ below b s) (some ()) 1676 (lw_l G b o i) [] μ2 := fun μ2 hs2 => lw_out X h hO hS0 hs2
  have hE : px_E G s H := lw_E X hS0
  refine pw_aload_n (pc := 33) dL_law_33 1 rfl <|
pw_iload (pc := 34) dL_law_34 0 rfl <|
pw_sld (i := i) F F.2.2.2.1 (pc := 36) dL_law_36 <|
pw_bipush (v := 63) (pc := 37) dL_law_37 (by decide) <|
pw_iand (pc := 39) dL_law_39 <| ?_
  generalize xs i.toNatClampNeg &&& 63 = v
  refine pw_ifx (v = 0) (fun q => pw_tIn (tgt := 232) (pc := 40) dL_law_40 q (by decide) (by decide) rfl (by decide) (lc_0 F hs h0)) (fun q0 => ?_)
  refine pw_ifx (v = 1) (fun q => pw_tIn (tgt := 257) (pc := 40) dL_law_40 q (by decide) (by decide) rfl (by decide) (lc_1 F hs h0)) (fun q1 => ?_)
  refine pw_ifx (v = 2) (fun q => pw_tIn (tgt := 294) (pc := 40) dL_law_40 q (by decide) (by decide) rfl (by decide) (lc_2 F hs h0)) (fun q2 => ?_)
  refine pw_ifx (v = 3) (fun q => pw_tIn (tgt := 331) (pc := 40) dL_law_40 q (by decide) (by decide) rfl (by decide) (lc_3 F hs h0)) (fun q3 => ?_)
  refine pw_ifx (v = 4) (fun q => pw_tIn (tgt := 356) (pc := 40) dL_law_40 q (by decide) (by decide) rfl (by decide) (lc_4 F hs h0)) (fun q4 => ?_)
  refine pw_ifx (v = 5) (fun q => pw_tIn (tgt := 405) (pc := 40) dL_law_40 q (by decide) (by decide) rfl (by decide) (lc_5 F hs h0)) (fun q5 => ?_)
  refine pw_ifx (v = 6) (fun q => pw_tIn (tgt := 442) (pc := 40) dL_law_40 q (by decide) (by decide) rfl (by decide) (lc_6 F hs h0)) (fun q6 => ?_)
  refine pw_ifx (v = 7) (fun q => pw_tIn (tgt := 467) (pc := 40) dL_law_40 q (by decide) (by decide) rfl (by decide) (lc_7 F hs h0)) (fun q7 => ?_)
  refine pw_ifx (v = 8) (fun q => pw_tIn (tgt := 492) (pc := 40) dL_law_40 q (by decide) (by decide) rfl (by decide) (lc_8 F hs h0)) (fun q8 => ?_)
  refine pw_ifx (v = 9) (fun q => pw_tIn (tgt := 517) (pc := 40) dL_law_40 q (by decide) (by decide) rfl (by decide) (lc_9 F hs h0)) (fun q9 => ?_)
  refine pw_ifx (v = 10) (fun q => pw_tIn (tgt := 554) (pc := 40) dL_law_40 q (by decide) (by decide) rfl (by decide) (lc_10 F hs h0)) (fun q10 => ?_)
  refine pw_ifx (v = 11) (fun q => pw_tIn (tgt := 579) (pc := 40) dL_law_40 q (by decide) (by decide) rfl (by decide) (lc_11 F hs h0)) (fun q11 => ?_)
  refine pw_ifx (v = 12) (fun q => pw_tIn (tgt := 616) (pc := 40) dL_law_40 q (by decide) (by decide) rfl (by decide) (lc_12 F hs h0)) (fun q12 => ?_)
  refine pw_ifx (v = 13) (fun q => pw_tIn (tgt := 641) (pc := 40) dL_law_40 q (by decide) (by decide) rfl (by decide) (lc_13 F hs h0)) (fun q13 => ?_)
  refine pw_ifx (v = 14) (fun q => pw_tIn (tgt := 654) (pc := 40) dL_law_40 q (by decide) (by decide) rfl (by decide) (lc_14 F hs h0)) (fun q14 => ?_)
  refine pw_ifx (v = 15) (fun q => pw_tIn (tgt := 679) (pc := 40) dL_law_40 q (by decide) (by decide) rfl (by decide) (lc_15 F hs h0)) (fun q15 => ?_)
  refine pw_ifx (v = 16) (fun q => pw_tIn (tgt := 704) (pc := 40) dL_law_40 q (by decide) (by decide) rfl (by decide) (lc_16 F hs h0)) (fun q16 => ?_)
  refine pw_ifx (v = 17) (fun q => pw_tIn (tgt := 729) (pc := 40) dL_law_40 q (by decide) (by decide) rfl (by decide) (lc_17 F hs h0)) (fun q17 => ?_)
  refine pw_ifx (v = 18) (fun q => pw_tIn (tgt := 766) (pc := 40) dL_law_40 q (by decide) (by decide) rfl (by decide) (lc_18 F hs h0)) (fun q18 => ?_)
  refine pw_ifx (v = 19) (fun q => pw_tIn (tgt := 791) (pc := 40) dL_law_40 q (by decide) (by decide) rfl (by decide) (lc_19 F hs h0)) (fun q19 => ?_)
  refine pw_ifx (v = 20) (fun q => pw_tIn (tgt := 804) (pc := 40) dL_law_40 q (by decide) (by decide) rfl (by decide) (lc_20 F hs h0)) (fun q20 => ?_)
  refine pw_ifx (v = 21) (fun q => pw_tIn (tgt := 829) (pc := 40) dL_law_40 q (by decide) (by decide) rfl (by decide) (lc_21 F hs h0)) (fun q21 => ?_)
  refine pw_ifx (v = 22) (fun q => pw_tIn (tgt := 866) (pc := 40) dL_law_40 q (by decide) (by decide) rfl (by decide) (lc_22 F hs h0)) (fun q22 => ?_)
  refine pw_ifx (v = 23) (fun q => pw_tIn (tgt := 879) (pc := 40) dL_law_40 q (by decide) (by decide) rfl (by decide) (lc_23 F hs h0)) (fun q23 => ?_)
  refine pw_ifx (v = 24) (fun q => pw_tIn (tgt := 916) (pc := 40) dL_law_40 q (by decide) (by decide) rfl (by decide) (lc_24 F hs h0)) (fun q24 => ?_)
  refine pw_ifx (v = 25) (fun q => pw_tIn (tgt := 941) (pc := 40) dL_law_40 q (by decide) (by decide) rfl (by decide) (lc_25 F hs h0)) (fun q25 => ?_)
  refine pw_ifx (v = 26) (fun q => pw_tIn (tgt := 978) (pc := 40) dL_law_40 q (by decide) (by decide) rfl (by decide) (lc_26 F hs h0)) (fun q26 => ?_)
  refine pw_ifx (v = 27) (fun q => pw_tIn (tgt := 1027) (pc := 40) dL_law_40 q (by decide) (by decide) rfl (by decide) (lc_27 F hs h0)) (fun q27 => ?_)
  refine pw_ifx (v = 28) (fun q => pw_tIn (tgt := 1064) (pc := 40) dL_law_40 q (by decide) (by decide) rfl (by decide) (lc_28 F hs h0)) (fun q28 => ?_)
  refine pw_ifx (v = 29) (fun q => pw_tIn (tgt := 1126) (pc := 40) dL_law_40 q (by decide) (by decide) rfl (by decide) (lc_29 F hs h0)) (fun q29 => ?_)
  refine pw_ifx (v = 30) (fun q => pw_tIn (tgt := 1152) (pc := 40) dL_law_40 q (by decide) (by decide) rfl (by decide) (lc_30 F hs h0)) (fun q30 => ?_)
  refine pw_ifx (v = 31) (fun q => pw_tIn (tgt := 1177) (pc := 40) dL_law_40 q (by decide) (by decide) rfl (by decide) (lc_31 F hs h0)) (fun q31 => ?_)
  refine pw_ifx (v = 32) (fun q => pw_tIn (tgt := 1202) (pc := 40) dL_law_40 q (by decide) (by decide) rfl (by decide) (lc_32 F hs h0)) (fun q32 => ?_)
  refine pw_ifx (v = 33) (fun q => pw_tIn (tgt := 1227) (pc := 40) dL_law_40 q (by decide) (by decide) rfl (by decide) (lc_33 F hs h0)) (fun q33 => ?_)
  refine pw_ifx (v = 34) (fun q => pw_tIn (tgt := 1276) (pc := 40) dL_law_40 q (by decide) (by decide) rfl (by decide) (lc_34 F hs h0)) (fun q34 => ?_)
  refine pw_ifx (v = 35) (fun q => pw_tIn (tgt := 1289) (pc := 40) dL_law_40 q (by decide) (by decide) rfl (by decide) (lc_35 F hs h0)) (fun q35 => ?_)
  refine pw_ifx (v = 36) (fun q => pw_tIn (tgt := 1302) (pc := 40) dL_law_40 q (by decide) (by decide) rfl (by decide) (lc_36 F hs h0)) (fun q36 => ?_)
  refine pw_ifx (v = 37) (fun q => pw_tIn (tgt := 1327) (pc := 40) dL_law_40 q (by decide) (by decide) rfl (by decide) (lc_37 F hs h0)) (fun q37 => ?_)
  refine pw_ifx (v = 38) (fun q => pw_tIn (tgt := 1388) (pc := 40) dL_law_40 q (by decide) (by decide) rfl (by decide) (lc_38 F hs h0)) (fun q38 => ?_)
  refine pw_ifx (v = 39) (fun q => pw_tIn (tgt := 1437) (pc := 40) dL_law_40 q (by decide) (by decide) rfl (by decide) (lc_39 F hs h0)) (fun q39 => ?_)
  refine pw_ifx (v = 40) (fun q => pw_tIn (tgt := 1486) (pc := 40) dL_law_40 q (by decide) (by decide) rfl (by decide) (lw_out X h40 hO hS0 hs)) (fun q40 => ?_)
  refine pw_ifx (v = 41) (fun q => pw_tIn (tgt := 1553) (pc := 40) dL_law_40 q (by decide) (by decide) rfl (by decide) (lc_41 F hs h0)) (fun q41 => ?_)
  refine pw_ifx (v = 42) (fun q => pw_tIn (tgt := 1626) (pc := 40) dL_law_40 q (by decide) (by decide) rfl (by decide) (lc_42 F hs h0)) (fun q42 => ?_)
  refine pw_ifx (v = 43) (fun q => pw_tIn (tgt := 1651) (pc := 40) dL_law_40 q (by decide) (by decide) rfl (by decide) (lc_43 X.2.1 hE ⟨hn, hk⟩ F F2 hs h1)) (fun q43 => ?_)
  exact pw_tOut (tgt := 1676) (pc := 40) dL_law_40 (by
    have p0 := lv_neT q0 (a := 0) rfl
    have p1 := lv_neT q1 (a := 1) rfl
    have p2 := lv_neT q2 (a := 2) rfl
    have p3 := lv_neT q3 (a := 3) rfl
    have p4 := lv_neT q4 (a := 4) rfl
    have p5 := lv_neT q5 (a := 5) rfl
    have p6 := lv_neT q6 (a := 6) rfl
    have p7 := lv_neT q7 (a := 7) rfl
    have p8 := lv_neT q8 (a := 8) rfl
    have p9 := lv_neT q9 (a := 9) rfl
    have p10 := lv_neT q10 (a := 10) rfl
    have p11 := lv_neT q11 (a := 11) rfl
    have p12 := lv_neT q12 (a := 12) rfl
    have p13 := lv_neT q13 (a := 13) rfl
    have p14 := lv_neT q14 (a := 14) rfl
    have p15 := lv_neT q15 (a := 15) rfl
    have p16 := lv_neT q16 (a := 16) rfl
    have p17 := lv_neT q17 (a := 17) rfl
    have p18 := lv_neT q18 (a := 18) rfl
    have p19 := lv_neT q19 (a := 19) rfl
    have p20 := lv_neT q20 (a := 20) rfl
    have p21 := lv_neT q21 (a := 21) rfl
    have p22 := lv_neT q22 (a := 22) rfl
    have p23 := lv_neT q23 (a := 23) rfl
    have p24 := lv_neT q24 (a := 24) rfl
    have p25 := lv_neT q25 (a := 25) rfl
    have p26 := lv_neT q26 (a := 26) rfl
    have p27 := lv_neT q27 (a := 27) rfl
    have p28 := lv_neT q28 (a := 28) rfl
    have p29 := lv_neT q29 (a := 29) rfl
    have p30 := lv_neT q30 (a := 30) rfl
    have p31 := lv_neT q31 (a := 31) rfl
    have p32 := lv_neT q32 (a := 32) rfl
    have p33 := lv_neT q33 (a := 33) rfl
    have p34 := lv_neT q34 (a := 34) rfl
    have p35 := lv_neT q35 (a := 35) rfl
    have p36 := lv_neT q36 (a := 36) rfl
    have p37 := lv_neT q37 (a := 37) rfl
    have p38 := lv_neT q38 (a := 38) rfl
    have p39 := lv_neT q39 (a := 39) rfl
    have p40 := lv_neT q40 (a := 40) rfl
    have p41 := lv_neT q41 (a := 41) rfl
    have p42 := lv_neT q42 (a := 42) rfl
    have p43 := lv_neT q43 (a := 43) rfl
    omega) (by decide) (h0 _ hs)

set_option maxHeartbeats 4000000 in
theorem law_loop (X : LX p l s m meth c b L xs G cJ o) (hL : L ≤ 3072) {c0 k0 : Nat} (hc : c0 + 512 ≤ 601024) (hk : k0 + 6 * 512 ≤ 7293034) : ∀ (q j : Nat), j ≤ 512 → L ≤ 6 * j + 6 * q → LW p l e s m below meth c b G cJ o (c0 + j) (k0 + 6 * j) 23 (iI ((6 * j : Nat) : Int)) := by
  have head : ∀ j : Nat, j ≤ 512 → (6 * j + 6 ≤ L → LW p l e s m below meth c b G cJ o (c0 + j) (k0 + 6 * j) 33 (iI ((6 * j : Nat) : Int))) → LW p l e s m below meth c b G cJ o (c0 + j) (k0 + 6 * j) 23 (iI ((6 * j : Nat) : Int)) := by
    intro j hj h
    obtain ⟨hx, hb, hr, hml, hown, hts, hX, hbl, hlocks, hgv⟩ := X.1
    refine lw_in X (by omega) (by omega) (fun μ f H hs hO hS0 => ?_)
    have hb2 : ¬ lw_big s b := Nat.not_le.mpr hbl
    refine pw_iload (pc := 23) dL_law_23 0 rfl <|
pw_aload_n (pc := 25) dL_law_25 1 rfl <|
pw_slen (L := L) (xs := xs) (hX.kept (hS0.2.1 b hbl hb2)) (Nat.lt_of_lt_of_le hbl hS0.1) (fun z => hb2 (X.A z)) (pc := 26) dL_law_26 <|
pw_bipush (v := 6) (pc := 27) dL_law_27 (by decide) <|
pw_isub (pc := 29) dL_law_29 <| ?_
    have eL : Int32.ofNat L - 6 = iI ((L : Int) - 6) := by
      rw [show Int32.ofNat L = iI ((L : Nat) : Int) from Int32.ofInt_eq_ofNat.symm]
      exact iI_sub _ 6
    rw [eL]
    refine pw_gt2 (tgt := 1682) (pc := 30) dL_law_30 (by decide) (fun hc1 => ?_) (fun hc1 => ?_)
    · refine pw_iconst (v := 1) (pc := 1682) dL_law_1682 (by decide) ?_
      intro r hr2 C H1 locs ls hl hW hS
      have hS2 := lw_comp X (fun q z => X.A z) hS0 hS
      exact va_forget (fun q hq => hS2.2.2 q hq) (W.widen (k := 601024) (n := 7293034) (show c0 + j ≤ 601024 by omega) (show k0 + 6 * j ≤ 7293034 by omega) (lw_ret hx hb hr hlocks dL_law_1683))
    · have hj2 : 6 * j + 6 ≤ L := by
        rw [iI_lt (by omega) (by omega) (by omega) (by omega)] at hc1
        omega
      exact lw_out X (h hj2) hO hS0 hs
  intro q
  induction q with
  | zero => exact fun j hj h => head j hj (fun h2 => absurd h2 (by omega))
  | succ q ih =>
    intro j hj h
    refine head j hj (fun h2 => ?_)
    have ih2 := ih (j + 1) (by omega) (by omega)
    have ea : ∀ t : Nat, iI ((6 * j : Nat) : Int) + iI ((t : Nat) : Int) = iI ((6 * j + t : Nat) : Int) := fun t => iN_add _ t
    have vp : ∀ t : Nat, t < 6 → vp_in (iI ((6 * j : Nat) : Int) + iI ((t : Nat) : Int)) L := fun t ht => by
      rw [ea]
      exact lw_vp (by omega) hL
    refine lw_turn X (by omega) (by omega) ⟨lw_vp (by omega) hL, vp 1 (by omega), vp 2 (by omega), vp 3 (by omega), vp 4 (by omega), vp 5 (by omega)⟩ (lw_next X (by omega) (by omega) (i' := iI ((6 * (j + 1) : Nat) : Int)) (ea 6) ?_)
    exact ih2
end Law40
