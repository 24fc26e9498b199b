/-! the class's element; the law's element -/
set_option maxRecDepth 100000
def fX10_element (a1 a2 : Int32) (m0 : pw_Mem) : Option (Nat × Int64) :=
  bd (fX10_isShelf a1 m0) fun y1 => if y1 = true then gd (ix a1 8) (if (m0 (55 + 2 * (a1).toNatClampNeg) 1) = (2 : Int32) then gd (ix a1 8) (bd (fX5_hasPlace (55 + 2 * (a1).toNatClampNeg) a2 m0) fun y3 => if y3 = true then gd (ix a1 8) (bd (fX5_at (55 + 2 * (a1).toNatClampNeg) a2 m0) fun y4 => some (0, y4.toInt64)) else some (2, 0)) else some (2, 0)) else some (1, 0)
def px_El (μ : pw_Mem) (r : Nat × Int64) : px_R := match r with
  | (0, v) => .inl (some (.long v), μ)
  | (1, _) => .inr (px_IAE, μ)
  | (_, _) => .inr (px_ISE, μ)
theorem miX10_element : Cond.code yX10_element cX10_element 3 (some .long) ∈ pw_LG ∧ Cond.initialized yX10_element.cls ∈ pw_LG ∧ (yX10_element.cls ≠ "java/lang/invoke/MethodHandle" ∧ yX10_element.cls ≠ "java/lang/invoke/VarHandle") ∧ (parseMethodDescriptor yX10_element.desc).map (fun d => d.parameters.length) = some 2 ∧ Cond.instanceMethod yX10_element ∈ pw_LG ∧ Cond.selects yX10_element.cls yX10_element yX10_element ∈ pw_LG := ⟨pw_inT 1095 (by decide +kernel) (by decide +kernel), pw_inT 1 (by decide +kernel) (by decide +kernel), ⟨by decide +kernel, by decide +kernel⟩, by decide +kernel, pw_inT 1093 (by decide +kernel) (by decide +kernel), pw_inT 1094 (by decide +kernel) (by decide +kernel)⟩
set_option maxHeartbeats 4000000 in
theorem tX10_element (l : Launch) (hl : l.stackTraces = false) (G : pw_G) (a1 a2 : Int32) (m0 : pw_Mem) : XMet l G yX10_element (.code yX10_element cX10_element 3 (some .long)) 6 [.ref (pw_ad G 0), .int a1, .int a2] m0 (px_El m0) (fX10_element a1 a2 m0) :=
  px_met (own := RX10) (l0 := [(0, .ref (pw_ad G 0)), (1, .int a1), (2, .int a2)]) rfl (by decide) rfl (Nat.le_of_ble_eq_true rfl) hl fun K hK hX hT => by
  delta fX10_element
  have hn : K.2.2.2.2.2.2.2.2.2.2.1 ≤ 1 ∧ K.2.2.2.2.2.2.2.2.2.2.2.1 ≤ 6 := by rw [hX.2.2.1.1, hX.2.2.1.2]; exact ⟨Nat.zero_le _, Nat.zero_le _⟩
  have t2 : PW K G RX10 cX10_element 3 (some .long) 6 (px_MQ K G (px_El m0)) (some (2, 0)) 44 [(0, .ref (pw_ad G 0)), (1, .int a1), (2, .int a2)] [] m0 := px_thrW hX px_f3 hX.2.1.2.2.2.2.2.2.2.1 px_clT3 px_i3 px_w4 px_o4 rfl dX10_element_44 dX10_element_47 dX10_element_48 dX10_element_51 dX10_element_54 (fun z hz => (hT z hz).elim) (by decide) (by decide)
  exact (pw_iload_n (pc := 0) dX10_element_0 1 rfl <|
pw_callS_rz (n := 1) (rest := []) (tX10_isShelf K.2.1 G a1 m0) miX10_isShelf mlX10_164 (pc := 1) dX10_element_1 rfl rfl (by decide) (Nat.le_of_ble_eq_true rfl) fun y1 =>
pw_ifz_ne (tgt := 18) (pc := 4) dX10_element_4 (by decide) (fun h1 =>
pw_aload_n (pc := 18) dX10_element_18 0 rfl <|
pw_getR (o := 0) (k := 9) (t := 54) (pw_sh_0) cfX10 rfl (by decide) flX10_70 (pc := 19) dX10_element_19 <|
pw_iload_n (pc := 22) dX10_element_22 1 rfl <|
pw_aaldS (pc := 23) dX10_element_23 fun hs2 =>
pw_getI (o := (55 + 2 * (a1).toNatClampNeg)) (k := 1) (pw_shShelf hs2) cfX5 rfl (by decide) flX10_329 (pc := 24) dX10_element_24 <|
pw_iconst (v := 2) (pc := 27) dX10_element_27 (by decide) <|
pw_icmp_ne (tgt := 44) (pc := 28) dX10_element_28 (by decide) (fun h2 => t2) (fun h3 =>
pw_aload_n (pc := 31) dX10_element_31 0 rfl <|
pw_getR (o := 0) (k := 9) (t := 54) (pw_sh_0) cfX10 rfl (by decide) flX10_70 (pc := 32) dX10_element_32 <|
pw_iload_n (pc := 35) dX10_element_35 1 rfl <|
pw_aaldS (pc := 36) dX10_element_36 fun hs3 =>
pw_iload_n (pc := 37) dX10_element_37 2 rfl <|
pw_callV_rz (n := 1) (rest := []) (tX5_hasPlace K.2.1 G hs3 a2 m0) (pw_shShelf hs3) cfX5 rfl miX5_hasPlace mlX10_341 (pc := 38) dX10_element_38 rfl rfl (by decide) (Nat.le_of_ble_eq_true rfl) fun y3 =>
pw_ifz_ne (tgt := 55) (pc := 41) dX10_element_41 (by decide) (fun h4 =>
pw_aload_n (pc := 55) dX10_element_55 0 rfl <|
pw_getR (o := 0) (k := 9) (t := 54) (pw_sh_0) cfX10 rfl (by decide) flX10_70 (pc := 56) dX10_element_56 <|
pw_iload_n (pc := 59) dX10_element_59 1 rfl <|
pw_aaldS (pc := 60) dX10_element_60 fun hs4 =>
pw_iload_n (pc := 61) dX10_element_61 2 rfl <|
pw_callV_ri (n := 1) (rest := []) (tX5_at K.2.1 G hs4 a2 m0) (pw_shShelf hs4) cfX5 rfl miX5_at mlX10_95 (pc := 62) dX10_element_62 rfl rfl (by decide) (Nat.le_of_ble_eq_true rfl) fun y4 =>
pw_i2l (pc := 65) dX10_element_65 <|
px_lret (a := y4.toInt64) (v := (0, y4.toInt64)) hX.1 hn rfl (pc := 66) dX10_element_66) (fun h5 => t2))) (fun h6 =>
px_thrW hX px_f2 hX.2.1.2.2.2.2.2.2.1 px_clT2 px_i2 px_w3 px_o3 rfl dX10_element_7 dX10_element_10 dX10_element_11 dX10_element_14 dX10_element_17 (fun z hz => (hT z hz).elim) (by decide) (by decide)))
