theorem px_catch {τ : Type} {K : pw_K} {G : pw_G} {own : String} {cc : ByteArray} {nL : Nat} {ret : Option FieldType} {d : Nat} {Q : τ → State → Prop} {x : Option τ} {pc : Nat} {l : List (Nat × Value)} {rest : List Value} {E : String} {μ : pw_Mem} (hE : px_T K.2.2.2.2.1) (pre : List ExceptionTableEntry) (z : ExceptionTableEntry) (suf : List ExceptionTableEntry) (hT : K.2.2.2.2.2.2.2.2.2.1.exceptionTable.toList = pre ++ z :: suf)
    (hpass : ∀ z ∈ pre, covers z pc = false ∨ (z.catchType ≠ 0 ∧ ∃ nm : String, Cond.classLink own z.catchType nm ∈ pw_LG ∧ va_Nc E nm K.2.2.2.2.1)) (hz : covers z pc = true) (h0 : z.catchType ≠ 0) (hlink : Cond.classLink own z.catchType E ∈ pw_LG) (hcast : Cond.castable E E ∈ px_LG)
    (h : ∀ q : Nat, PW K G own cc nL ret d Q x z.handlerPc l [.ref q] μ) : PX K G own cc nL ret d Q x pc l rest E μ := by
  intro r hr C H locs ls q ce hl hW hS h1 h2 h3
  exact vx_catch C.2.2.2.1 pre z suf hT (fun z hz => (hpass z hz).imp id (fun ⟨a, nm, b, c⟩ => ⟨a, nm, C.2.2.2.2.1.at _ b, c⟩)) hz h0 (C.2.2.2.2.1.at _ hlink) (hE.at _ hcast) h1 h2 h3 (h q r hr C H locs ls hl hW hS)
theorem px_met {τ : Type} {l : Launch} {G : pw_G} {y : MethodName} {own : String} {cc : ByteArray} {nL : Nat} {ret : Option FieldType} {d : Nat} {av : List Value} {μ : pw_Mem} {P : τ → px_R} {x : Option τ} {l0 : List (Nat × Value)}
    (hown : y.cls = own) (hpl : plainName y.cls = true) (hl0 : lv_args 0 av = l0) (hsl : (lg_sl av).length ≤ nL) (hst : l.stackTraces = false)
    (h : ∀ K : pw_K, K.2.1 = l → px_S K G → (∀ z ∈ K.2.2.2.2.2.2.2.2.2.1.exceptionTable.toList, False) → PW (τ := τ) K G own cc nL ret d (px_MQ (τ := τ) K G P) x 0 l0 [] μ) : XMet (τ := τ) l G y (.code y cc nL ret) d av μ P x := by
  intro r hr
  refine vx_ofW (cc := cc) (maxL := nL) (ret := ret) hpl rfl ?_
  intro p e s m args below meth c s₁ B hml ht hv
  obtain ⟨rfl, ⟨hW, hK, hT, hI⟩, hE⟩ := hv
  have hC : pw_C (p, l, e, px_rm d, s, m, av.toArray, below, meth, c, 0, 0, s.heap) G own cc nL ret d :=
    ⟨B.exec, B.bytes, hml, by rw [← hown]; exact findClass_of_methodNamed B.named, hT, hK, hI, B.notSynchronized, B.returns, ⟨Nat.le_refl _, Nat.le_refl _⟩, Nat.zero_le _, Nat.zero_le _⟩
  have hl := lv_entry av (n := nL) hsl
  rw [hl0] at hl
  rw [lg_entry_eq]
  exact h (p, l, e, px_rm d, s, m, av.toArray, below, meth, c, 0, 0, s.heap) rfl ⟨rfl, hE, ⟨rfl, rfl⟩, ⟨Nat.le_refl _, Nat.le_refl _⟩, hst⟩ ht r hr hC s.heap [] _ hl hW va_S.rf
theorem px_metH {τ : Type} {l : Launch} {G : pw_G} {y : MethodName} {own : String} {cc : ByteArray} {nL : Nat} {ret : Option FieldType} {hh : List (Nat × Nat × Nat × Nat)} {d : Nat} {av : List Value} {μ : pw_Mem} {P : τ → px_R} {x : Option τ} {l0 : List (Nat × Value)}
    (hown : y.cls = own) (hpl : plainName y.cls = true) (hl0 : lv_args 0 av = l0) (hsl : (lg_sl av).length ≤ nL) (hst : l.stackTraces = false)
    (h : ∀ K : pw_K, K.2.1 = l → px_S K G → K.2.2.2.2.2.2.2.2.2.1.exceptionTable.toList = tableOf hh → PW (τ := τ) K G own cc nL ret d (px_MQ (τ := τ) K G P) x 0 l0 [] μ) : XMet (τ := τ) l G y (.codeWith y cc nL ret hh) d av μ P x := by
  intro r hr
  refine vx_ofWH (cc := cc) (maxL := nL) (ret := ret) (hh := hh) hpl rfl ?_
  intro p e s m args below meth c s₁ B hml hv
  obtain ⟨rfl, ⟨hW, hK, hT, hI⟩, hE⟩ := hv
  have ht : c.exceptionTable.toList = tableOf hh := vx_table (x := y) B (atoms_spec (ws := [.codeWith y cc nL ret hh]) B.pre _ List.mem_cons_self)
  have hC : pw_C (p, l, e, px_rm d, s, m, av.toArray, below, meth, c, 0, 0, s.heap) G own cc nL ret d :=
    ⟨B.exec, B.bytes, hml, by rw [← hown]; exact findClass_of_methodNamed B.named, hT, hK, hI, B.notSynchronized, B.returns, ⟨Nat.le_refl _, Nat.le_refl _⟩, Nat.zero_le _, Nat.zero_le _⟩
  have hl := lv_entry av (n := nL) hsl
  rw [hl0] at hl
  rw [lg_entry_eq]
  exact h (p, l, e, px_rm d, s, m, av.toArray, below, meth, c, 0, 0, s.heap) rfl ⟨rfl, hE, ⟨rfl, rfl⟩, ⟨Nat.le_refl _, Nat.le_refl _⟩, hst⟩ ht r hr hC s.heap [] _ hl hW va_S.rf
/-- Kinds.fail: 0 returns; 1, 2, 3: the class thrown -/
def fX3_fail (a0 a1 : Int32) : Option Nat :=
  if a1 = 0 then some 0 else if a0 = 3 then some 0 else if a0 = 7 then some 0 else if a0 = 2 then some 1 else if a0 = 1 then some 2 else if a0 = 5 then some 2 else some 3
def px_F (μ : pw_Mem) (n : Nat) : px_R := match n with
  | 0 => .inl (none, μ)
  | 1 => .inr (px_UOE, μ)
  | 2 => .inr (px_IAE, μ)
  | _ => .inr (px_ISE, μ)

set_option maxRecDepth 100000
theorem px_clF1 : Cond.classLink RX3 21 px_UOE ∈ pw_LG := pw_inT 987 (by decide +kernel) (by decide +kernel)
theorem px_clF2 : Cond.classLink RX3 28 px_IAE ∈ pw_LG := pw_inT 1055 (by decide +kernel) (by decide +kernel)
theorem px_clF3 : Cond.classLink RX3 33 px_ISE ∈ pw_LG := pw_inT 1071 (by decide +kernel) (by decide +kernel)
theorem px_clT1 : Cond.classLink RX10 377 px_UOE ∈ pw_LG := pw_inT 981 (by decide +kernel) (by decide +kernel)
theorem px_clT2 : Cond.classLink RX10 347 px_IAE ∈ pw_LG := pw_inT 982 (by decide +kernel) (by decide +kernel)
theorem px_clT3 : Cond.classLink RX10 354 px_ISE ∈ pw_LG := pw_inT 983 (by decide +kernel) (by decide +kernel)
theorem px_i1 : Cond.initialized px_UOE ∈ pw_LG := pw_inT 21 (by decide +kernel) (by decide +kernel)
theorem px_i2 : Cond.initialized px_IAE ∈ pw_LG := pw_inT 18 (by decide +kernel) (by decide +kernel)
theorem px_i3 : Cond.initialized px_ISE ∈ pw_LG := pw_inT 19 (by decide +kernel) (by decide +kernel)
theorem px_inT {w : Cond} (i : Nat) (h : tables_1[i]? = some w) (g : px_ok w = true) : w ∈ px_LG := List.mem_filter.mpr ⟨List.mem_append_right _ (List.mem_of_getElem? h), g⟩
theorem px_ca1 : Cond.castable px_UOE px_UOE ∈ px_LG := px_inT 989 (by decide +kernel) (by decide +kernel)
theorem px_ca2 : Cond.castable px_IAE px_IAE ∈ px_LG := px_inT 1057 (by decide +kernel) (by decide +kernel)
theorem px_ca3 : Cond.castable px_ISE px_ISE ∈ px_LG := px_inT 1073 (by decide +kernel) (by decide +kernel)
theorem px_o0 : (vx_atS RX3 25 px_UOE px_N).all vx_ot = true := by decide +kernel
theorem px_o1 : (vx_atS RX3 32 px_IAE px_N).all vx_ot = true := by decide +kernel
theorem px_o2 : (vx_atS RX3 37 px_ISE px_N).all vx_ot = true := by decide +kernel
theorem px_o3 : (vx_atS RX10 351 px_IAE px_N).all vx_ot = true := by decide +kernel
theorem px_o4 : (vx_atS RX10 358 px_ISE px_N).all vx_ot = true := by decide +kernel
theorem px_f1 : Bundle.fit px_UOE = true := by decide +kernel
theorem px_f2 : Bundle.fit px_IAE = true := by decide +kernel
theorem px_f3 : Bundle.fit px_ISE = true := by decide +kernel
theorem mlX10_374 : Cond.methodLink RX10 374 yX3_fail ∈ pw_LG := pw_inT 984 (by decide +kernel) (by decide +kernel)
theorem miX3_fail : Cond.code yX3_fail cX3_fail 2 none ∈ pw_LG ∧ Cond.initialized yX3_fail.cls ∈ pw_LG ∧ (yX3_fail.cls ≠ "java/lang/invoke/MethodHandle" ∧ yX3_fail.cls ≠ "java/lang/invoke/VarHandle") ∧ (parseMethodDescriptor yX3_fail.desc).map (fun d => d.parameters.length) = some 2 ∧ Cond.static yX3_fail ∈ pw_LG := ⟨pw_inT 986 (by decide +kernel) (by decide +kernel), pw_inT 12 (by decide +kernel) (by decide +kernel), ⟨by decide +kernel, by decide +kernel⟩, by decide +kernel, pw_inT 985 (by decide +kernel) (by decide +kernel)⟩
set_option maxHeartbeats 4000000 in
theorem tX3_fail (l : Launch) (hl : l.stackTraces = false) (G : pw_G) (a0 a1 : Int32) (m0 : pw_Mem) : XMet l G yX3_fail (.code yX3_fail cX3_fail 2 none) 6 [.int a0, .int a1] m0 (px_F m0) (fX3_fail a0 a1) :=
  px_met (own := RX3) (l0 := [(0, .int a0), (1, .int a1)]) rfl (by decide) rfl (Nat.le_of_ble_eq_true rfl) hl fun K hK hX hT => by
  delta fX3_fail
  have hn : K.2.2.2.2.2.2.2.2.2.2.1 ≤ 1 ∧ K.2.2.2.2.2.2.2.2.2.2.2.1 ≤ 6 := by rw [hX.2.2.1.1, hX.2.2.1.2]; exact ⟨Nat.zero_le _, Nat.zero_le _⟩
  have t1 : ∀ {n : Nat}, px_F m0 n = .inl (none, m0) → PW K G RX3 cX3_fail 2 none 6 (px_MQ K G (px_F m0)) (some n) 15 [(0, .int a0), (1, .int a1)] [] m0 := fun h => px_vret hX.1 hn h dX3_fail_15
  have t2 : PW K G RX3 cX3_fail 2 none 6 (px_MQ K G (px_F m0)) (some 2) 41 [(0, .int a0), (1, .int a1)] [] m0 := px_thr hX px_f2 hX.2.1.2.2.2.2.1 px_clF2 px_i2 px_w1 px_o1 rfl dX3_fail_41 dX3_fail_44 dX3_fail_45 dX3_fail_47 dX3_fail_50 (fun z hz => (hT z hz).elim) (by decide) (by decide)
  exact (pw_iload_n (pc := 0) dX3_fail_0 1 rfl <|
pw_if_eq (b := 0) (tgt := 15) (pc := 1) dX3_fail_1 (by decide) (fun h1 => t1 rfl) (fun h2 =>
pw_iload_n (pc := 4) dX3_fail_4 0 rfl <|
pw_iconst (v := 3) (pc := 5) dX3_fail_5 (by decide) <|
pw_icmp_eq (tgt := 15) (pc := 6) dX3_fail_6 (by decide) (fun h3 => t1 rfl) (fun h4 =>
pw_iload_n (pc := 9) dX3_fail_9 0 rfl <|
pw_bipush (v := 7) (pc := 10) dX3_fail_10 (by decide) <|
pw_icmp_ne (tgt := 16) (pc := 12) dX3_fail_12 (by decide) (fun h5 =>
pw_iload_n (pc := 16) dX3_fail_16 0 rfl <|
pw_iconst (v := 2) (pc := 17) dX3_fail_17 (by decide) <|
pw_icmp_ne (tgt := 31) (pc := 18) dX3_fail_18 (by decide) (fun h6 =>
pw_iload_n (pc := 31) dX3_fail_31 0 rfl <|
pw_iconst (v := 1) (pc := 32) dX3_fail_32 (by decide) <|
pw_icmp_eq (tgt := 41) (pc := 33) dX3_fail_33 (by decide) (fun h7 => t2) (fun h8 =>
pw_iload_n (pc := 36) dX3_fail_36 0 rfl <|
pw_iconst (v := 5) (pc := 37) dX3_fail_37 (by decide) <|
pw_icmp_ne (tgt := 51) (pc := 38) dX3_fail_38 (by decide) (fun h9 =>
px_thr hX px_f3 hX.2.1.2.2.2.2.2.1 px_clF3 px_i3 px_w2 px_o2 rfl dX3_fail_51 dX3_fail_54 dX3_fail_55 dX3_fail_57 dX3_fail_60 (fun z hz => (hT z hz).elim) (by decide) (by decide)) (fun h10 => t2)))
(fun h11 => px_thr hX px_f1 hX.2.1.2.2.2.1 px_clF1 px_i1 px_w0 px_o0 rfl dX3_fail_21 dX3_fail_24 dX3_fail_25 dX3_fail_27 dX3_fail_30 (fun z hz => (hT z hz).elim) (by decide) (by decide)))
(fun h12 => t1 rfl))))
/-- the class's toss -/
def fX10_tossK (x2 x3 : Int32) (m0 : pw_Mem) (n : Nat) : Option Int32 := match n with
  | 0 => some (-15)
  | 1 => bd (fX3_costs x2 x3 m0) fun y => some ((200 : Int32) + y)
  | 2 => some ((100 : Int32) + x3)
  | _ => some x3
def fX10_toss (a1 : Int32) (m0 : pw_Mem) : Option Int32 :=
  bd (fX10_kindRefusal a1 m0) fun y1 => if y1 = 0 then gd (ix a1 8) (lt (m0 (55 + 2 * (a1).toNatClampNeg) 2) fun x2 => gd (ix a1 8) (lt (m0 (55 + 2 * (a1).toNatClampNeg) 3) fun x3 => bd (fX3_fail x2 x3) fun n => fX10_tossK x2 x3 m0 n)) else some y1
def px_I (μ : pw_Mem) (v : Int32) : px_R := .inl (some (.int v), μ)
def px_tT : List (Nat × Nat × Nat × Nat) := [(33, 39, 42, 377), (33, 39, 55, 347), (33, 39, 63, 354)]
set_option maxHeartbeats 4000000 in
theorem tX10_toss (l : Launch) (hl : l.stackTraces = false) (G : pw_G) (a1 : Int32) (m0 : pw_Mem) : XMet l G yX10_toss (.codeWith yX10_toss cX10_toss 6 (some .int) px_tT) 7 [.ref (pw_ad G 0), .int a1] m0 (px_I m0) (fX10_toss a1 m0) :=
  px_metH (own := RX10) (l0 := [(0, .ref (pw_ad G 0)), (1, .int a1)]) rfl (by decide) rfl (Nat.le_of_ble_eq_true rfl) hl fun K hK hX hT => by
  delta fX10_toss
  have hn : K.2.2.2.2.2.2.2.2.2.2.1 ≤ 1 ∧ K.2.2.2.2.2.2.2.2.2.2.2.1 ≤ 6 := by rw [hX.2.2.1.1, hX.2.2.1.2]; exact ⟨Nat.zero_le _, Nat.zero_le _⟩
  have hR : K.2.2.2.2.2.2.2.2.2.2.1 + 1 ≤ K.2.2.2.1.cells ∧ K.2.2.2.2.2.2.2.2.2.2.2.1 + 6 ≤ K.2.2.2.1.slots := by rw [hX.2.2.1.1, hX.2.2.1.2]; exact hX.2.2.2.1
  have hn2 : (px_up K).2.2.2.2.2.2.2.2.2.2.1 ≤ 1 ∧ (px_up K).2.2.2.2.2.2.2.2.2.2.2.1 ≤ 6 := by
    show K.2.2.2.2.2.2.2.2.2.2.1 + 1 ≤ 1 ∧ K.2.2.2.2.2.2.2.2.2.2.2.1 + 6 ≤ 6
    rw [hX.2.2.1.1, hX.2.2.1.2]; exact ⟨Nat.le_refl _, Nat.le_refl _⟩
  have hE : px_E G K.2.2.2.2.1 K.2.2.2.2.2.2.2.2.2.2.2.2 := by rw [hX.1]; exact hX.2.1
  exact (pw_aload_n (pc := 0) dX10_toss_0 0 rfl <|
pw_iload_n (pc := 1) dX10_toss_1 1 rfl <|
pw_callV_ri (n := 1) (rest := []) (tX10_kindRefusal K.2.1 G a1 m0) (pw_sh_0) cfX10 rfl miX10_kindRefusal mlX10_170 (pc := 2) dX10_toss_2 rfl rfl (by decide) (Nat.le_of_ble_eq_true rfl) fun y1 =>
pw_istore_n [(2, .int y1), (0, .ref (pw_ad G 0)), (1, .int a1)] (pc := 5) dX10_toss_5 (by decide) rfl <|
pw_iload_n (pc := 6) dX10_toss_6 0 rfl <|
pw_if_eq (a := y1) (b := 0) (tgt := 12) (pc := 7) dX10_toss_7 (by decide) (fun h5 => pw_aload_n (pc := 12) dX10_toss_12 1 rfl <|
pw_getR (o := 0) (k := 9) (t := 54) (pw_sh_0) cfX10 rfl (by decide) flX10_70 (pc := 13) dX10_toss_13 <|
pw_iload_n (pc := 16) dX10_toss_16 2 rfl <|
pw_aaldS (pc := 17) dX10_toss_17 fun hs2 =>
pw_getI (o := (55 + 2 * (a1).toNatClampNeg)) (k := 2) (pw_shShelf hs2) cfX5 rfl (by decide) flX10_176 (pc := 18) dX10_toss_18 <|
pw_ltI fun x2 => pw_istore_n [(3, .int x2), (2, .int y1), (0, .ref (pw_ad G 0)), (1, .int a1)] (pc := 21) dX10_toss_21 (by decide) rfl <|
pw_aload_n (pc := 22) dX10_toss_22 2 rfl <|
pw_getR (o := 0) (k := 9) (t := 54) (pw_sh_0) cfX10 rfl (by decide) flX10_70 (pc := 23) dX10_toss_23 <|
pw_iload_n (pc := 26) dX10_toss_26 3 rfl <|
pw_aaldS (pc := 27) dX10_toss_27 fun hs3 =>
pw_getI (o := (55 + 2 * (a1).toNatClampNeg)) (k := 3) (pw_shShelf hs3) cfX5 rfl (by decide) flX10_178 (pc := 28) dX10_toss_28 <|
pw_ltI fun x3 => pw_istore [(4, .int x3), (3, .int x2), (2, .int y1), (0, .ref (pw_ad G 0)), (1, .int a1)] (pc := 31) dX10_toss_31 (by decide) rfl <|
pw_iload_n (pc := 33) dX10_toss_33 1 rfl <|
pw_iload (pc := 34) dX10_toss_34 0 rfl <|
px_callS (n := 2) (rest := []) (av := [.int x2, .int x3]) hE hR (tX3_fail K.2.1 (hK ▸ hl) G x2 x3 m0) miX3_fail mlX10_374 (pc := 36) dX10_toss_36 rfl rfl (by decide) (Nat.le_of_ble_eq_true rfl)
(fun v u μ' hv => by
  match v, hv with
  | 0, hv =>
    cases hv
    exact (pw_goto (tgt := 68) (pc := 39) dX10_toss_39 (by decide) <|
pw_bipush (v := -15) (pc := 68) dX10_toss_68 (by decide) <|
px_iret (a := (-15 : Int32)) (v := (-15 : Int32)) hX.1 hn2 rfl (pc := 70) dX10_toss_70)
  | 1, hv => cases hv
  | 2, hv => cases hv
  | n + 3, hv => cases hv)
(fun v E μ' hv => by
  match v, hv with
  | 0, hv => cases hv
  | 1, hv =>
    cases hv
    exact px_catch hX.2.1.1 [] ⟨33, 39, 42, 377⟩ [⟨33, 39, 55, 347⟩, ⟨33, 39, 63, 354⟩] hT (fun z hz => nomatch hz) (by decide) (by decide) px_clT1 px_ca1 fun q =>
      (pw_astore [(5, .ref q), (4, .int x3), (3, .int x2), (2, .int y1), (0, .ref (pw_ad G 0)), (1, .int a1)] (pc := 42) dX10_toss_42 (by decide) rfl <|
pw_sipush (v := 200) (pc := 44) dX10_toss_44 (by decide) <|
pw_iload_n (pc := 47) dX10_toss_47 2 rfl <|
pw_iload (pc := 48) dX10_toss_48 1 rfl <|
pw_callS_ri (n := 2) (rest := [.int (200 : Int32)]) (tX3_costs K.2.1 G x2 x3 m0) miX3_costs mlX10_371 (pc := 50) dX10_toss_50 rfl rfl (by decide) (Nat.le_of_ble_eq_true rfl) fun y4 =>
pw_iadd (pc := 53) dX10_toss_53 <|
px_iret (a := ((200 : Int32) + y4)) (v := ((200 : Int32) + y4)) hX.1 hn2 rfl (pc := 54) dX10_toss_54)
  | 2, hv =>
    cases hv
    exact px_catch hX.2.1.1 [⟨33, 39, 42, 377⟩] ⟨33, 39, 55, 347⟩ [⟨33, 39, 63, 354⟩] hT (fun z hz => by
      rw [List.mem_singleton.mp hz]
      exact Or.inr ⟨by decide, px_UOE, px_clT1, hX.2.1.2.2.2.2.2.2.2.2.1⟩) (by decide) (by decide) px_clT2 px_ca2 fun q =>
      (pw_astore [(5, .ref q), (4, .int x3), (3, .int x2), (2, .int y1), (0, .ref (pw_ad G 0)), (1, .int a1)] (pc := 55) dX10_toss_55 (by decide) rfl <|
pw_bipush (v := 100) (pc := 57) dX10_toss_57 (by decide) <|
pw_iload (pc := 59) dX10_toss_59 1 rfl <|
pw_iadd (pc := 61) dX10_toss_61 <|
px_iret (a := ((100 : Int32) + x3)) (v := ((100 : Int32) + x3)) hX.1 hn2 rfl (pc := 62) dX10_toss_62)
  | n + 3, hv =>
    cases hv
    exact px_catch hX.2.1.1 [⟨33, 39, 42, 377⟩, ⟨33, 39, 55, 347⟩] ⟨33, 39, 63, 354⟩ [] hT (fun z hz => by
      rcases List.mem_cons.mp hz with rfl | hz
      · exact Or.inr ⟨by decide, px_UOE, px_clT1, hX.2.1.2.2.2.2.2.2.2.2.2.1⟩
      · rw [List.mem_singleton.mp hz]
        exact Or.inr ⟨by decide, px_IAE, px_clT2, hX.2.1.2.2.2.2.2.2.2.2.2.2⟩) (by decide) (by decide) px_clT3 px_ca3 fun q =>
      (pw_astore [(5, .ref q), (4, .int x3), (3, .int x2), (2, .int y1), (0, .ref (pw_ad G 0)), (1, .int a1)] (pc := 63) dX10_toss_63 (by decide) rfl <|
pw_iload (pc := 65) dX10_toss_65 1 rfl <|
px_iret (a := x3) (v := x3) hX.1 hn2 rfl (pc := 67) dX10_toss_67)))
(fun h6 => pw_iload_n (pc := 10) dX10_toss_10 0 rfl <|
px_iret (a := y1) (v := y1) hX.1 hn rfl (pc := 11) dX10_toss_11))
