set_option maxRecDepth 100000
set_option maxHeartbeats 4000000 in
theorem tX11_isIn (l : Launch) (G : pw_G) (a1 : Int32) (a2 : Int32) (a3 : Int32) (m0 : pw_Mem) : PMet l G yX11_isIn cX11_isIn 3 (some .boolean) 0 [.int a1, .int a2, .int a3] m0 (pw_Rz m0) (fX11_isIn a1 a2 a3 m0) :=
  pw_met (own := RX11) (l0 := [(0, .int a1), (1, .int a2), (2, .int a3)]) rfl (by decide) rfl (Nat.le_of_ble_eq_true rfl) fun K hK hH => by
  delta fX11_isIn
  exact (pw_iload_n (pc := 0) dX11_isIn_0 0 rfl <|
pw_iload_n (pc := 1) dX11_isIn_1 1 rfl <|
pw_icmp_lt  (tgt := 14) (pc := 2) dX11_isIn_2 (by decide) (fun h3 => pw_iconst (v := 0) (pc := 14) dX11_isIn_14 (by decide) <|
pw_zret (b := false) hH rfl (pc := 15) dX11_isIn_15) (fun h4 => pw_iload_n (pc := 5) dX11_isIn_5 0 rfl <|
pw_iload_n (pc := 6) dX11_isIn_6 2 rfl <|
pw_icmp_gt  (tgt := 14) (pc := 7) dX11_isIn_7 (by decide) (fun h1 => pw_iconst (v := 0) (pc := 14) dX11_isIn_14 (by decide) <|
pw_zret (b := false) hH rfl (pc := 15) dX11_isIn_15) (fun h2 => pw_iconst (v := 1) (pc := 10) dX11_isIn_10 (by decide) <|
pw_goto (tgt := 15) (pc := 11) dX11_isIn_11 (by decide) <|
pw_zret (b := true) hH rfl (pc := 15) dX11_isIn_15)))
set_option maxHeartbeats 4000000 in
theorem tX11_least (l : Launch) (G : pw_G) (a1 : Int32) (a2 : Int32) (m0 : pw_Mem) : PMet l G yX11_least cX11_least 2 (some .int) 0 [.int a1, .int a2] m0 (pw_Ri m0) (fX11_least a1 a2 m0) :=
  pw_met (own := RX11) (l0 := [(0, .int a1), (1, .int a2)]) rfl (by decide) rfl (Nat.le_of_ble_eq_true rfl) fun K hK hH => by
  delta fX11_least
  exact (pw_iload_n (pc := 0) dX11_least_0 0 rfl <|
pw_iload_n (pc := 1) dX11_least_1 1 rfl <|
pw_icmp_ge  (tgt := 9) (pc := 2) dX11_least_2 (by decide) (fun h1 => pw_iload_n (pc := 9) dX11_least_9 1 rfl <|
pw_iret (a := a2) (v := a2) hH rfl (pc := 10) dX11_least_10) (fun h2 => pw_iload_n (pc := 5) dX11_least_5 0 rfl <|
pw_goto (tgt := 10) (pc := 6) dX11_least_6 (by decide) <|
pw_iret (a := a1) (v := a1) hH rfl (pc := 10) dX11_least_10))
set_option maxHeartbeats 4000000 in
theorem tX11_most (l : Launch) (G : pw_G) (a1 : Int32) (a2 : Int32) (m0 : pw_Mem) : PMet l G yX11_most cX11_most 2 (some .int) 0 [.int a1, .int a2] m0 (pw_Ri m0) (fX11_most a1 a2 m0) :=
  pw_met (own := RX11) (l0 := [(0, .int a1), (1, .int a2)]) rfl (by decide) rfl (Nat.le_of_ble_eq_true rfl) fun K hK hH => by
  delta fX11_most
  exact (pw_iload_n (pc := 0) dX11_most_0 0 rfl <|
pw_iload_n (pc := 1) dX11_most_1 1 rfl <|
pw_icmp_le  (tgt := 9) (pc := 2) dX11_most_2 (by decide) (fun h1 => pw_iload_n (pc := 9) dX11_most_9 1 rfl <|
pw_iret (a := a2) (v := a2) hH rfl (pc := 10) dX11_most_10) (fun h2 => pw_iload_n (pc := 5) dX11_most_5 0 rfl <|
pw_goto (tgt := 10) (pc := 6) dX11_most_6 (by decide) <|
pw_iret (a := a1) (v := a1) hH rfl (pc := 10) dX11_most_10))
set_option maxHeartbeats 4000000 in
theorem tX11_copies (l : Launch) (G : pw_G) {o1 : Nat} {o2 : Nat} (ho1 : pw_isRow o1) (ho2 : pw_isRow o2) (m0 : pw_Mem) : PMet l G yX11_copies cX11_copies 3 (none) 0 [.ref (pw_ad G o1), .ref (pw_ad G o2)] m0 pw_Wv (fX11_copies o1 o2 m0) :=
  pw_met (own := RX11) (l0 := [(0, .ref (pw_ad G o1)), (1, .ref (pw_ad G o2))]) rfl (by decide) rfl (Nat.le_of_ble_eq_true rfl) fun K hK hH => by
  delta fX11_copies
  exact (pw_iconst (v := 0) (pc := 0) dX11_copies_0 (by decide) <|
pw_istore_n [(2, .int (0 : Int32)), (0, .ref (pw_ad G o1)), (1, .ref (pw_ad G o2))] (pc := 1) dX11_copies_1 (by decide) rfl <|
pw_lp (fun (kk9 : Int32 → pw_Mem → Option pw_Mem) => ∀ (v1 : Int32) (m2 : pw_Mem), PW K G RX11 cX11_copies 3 (none) 0 (pw_MQ K G pw_Wv) (kk9 v1 m2) 2 [(2, .int v1), (0, .ref (pw_ad G o1)), (1, .ref (pw_ad G o2))] [] m2) (fun _ _ => pw_none) (fun nx3 hn4 v1 m2 => pw_iload_n (pc := 2) dX11_copies_2 0 rfl <|
pw_bipush (v := 78) (pc := 3) dX11_copies_3 (by decide) <|
pw_icmp_ge  (tgt := 20) (pc := 5) dX11_copies_5 (by decide) (fun h7 => pw_vret hH rfl (pc := 20) dX11_copies_20) (fun h8 => pw_aload_n (pc := 8) dX11_copies_8 2 rfl <|
pw_iload_n (pc := 9) dX11_copies_9 0 rfl <|
pw_aload_n (pc := 10) dX11_copies_10 1 rfl <|
pw_iload_n (pc := 11) dX11_copies_11 0 rfl <|
pw_iald (pw_shRow ho1) (pc := 12) dX11_copies_12 <|
pw_iast (pw_shRow ho2) (pc := 13) dX11_copies_13 <| pw_ltM fun m5 =>
pw_ltA fun x6 hxx6 => pw_iinc (v := x6) [(2, .int x6), (0, .ref (pw_ad G o1)), (1, .ref (pw_ad G o2))] (pc := 14) dX11_copies_14 0 rfl (by rw [hxx6]; rfl) (by decide) rfl <|
pw_goto (tgt := 2) (pc := 17) dX11_copies_17 (by decide) <|
hn4 x6 m5)) FU (0 : Int32) m0)
set_option maxHeartbeats 4000000 in
theorem tX11_of (l : Launch) (G : pw_G) (a1 : Int32) (a2 : Int32) (m0 : pw_Mem) : PMet l G yX11_of cX11_of 2 (some .int) 0 [.int a1, .int a2] m0 (pw_Ri m0) (fX11_of a1 a2 m0) :=
  pw_met (own := RX11) (l0 := [(0, .int a1), (1, .int a2)]) rfl (by decide) rfl (Nat.le_of_ble_eq_true rfl) fun K hK hH => by
  delta fX11_of
  exact (pw_bipush (v := 18) (pc := 0) dX11_of_0 (by decide) <|
pw_bipush (v := 6) (pc := 2) dX11_of_2 (by decide) <|
pw_iload_n (pc := 4) dX11_of_4 0 rfl <|
pw_imul (pc := 5) dX11_of_5 <|
pw_iadd (pc := 6) dX11_of_6 <|
pw_iload_n (pc := 7) dX11_of_7 1 rfl <|
pw_iadd (pc := 8) dX11_of_8 <|
pw_iret (a := (((18 : Int32) + ((6 : Int32) * a1)) + a2)) (v := (((18 : Int32) + ((6 : Int32) * a1)) + a2)) hH rfl (pc := 9) dX11_of_9)
set_option maxHeartbeats 4000000 in
theorem tX11_isPerson (l : Launch) (G : pw_G) (a1 : Int32) (m0 : pw_Mem) : PMet l G yX11_isPerson cX11_isPerson 2 (some .boolean) 1 [.ref (pw_ad G 71), .int a1] m0 (pw_Rz m0) (fX11_isPerson a1 m0) :=
  pw_met (own := RX11) (l0 := [(0, .ref (pw_ad G 71)), (1, .int a1)]) rfl (by decide) rfl (Nat.le_of_ble_eq_true rfl) fun K hK hH => by
  delta fX11_isPerson
  exact (pw_iload_n (pc := 0) dX11_isPerson_0 1 rfl <|
pw_iconst (v := 0) (pc := 1) dX11_isPerson_1 (by decide) <|
pw_aload_n (pc := 2) dX11_isPerson_2 0 rfl <|
pw_getR (o := 71) (k := 0) (t := 72) (pw_sh_71) cfX11 rfl (by decide) flX11_9 (pc := 3) dX11_isPerson_3 <|
pw_iconst (v := 0) (pc := 6) dX11_isPerson_6 (by decide) <|
pw_iald (pw_shRow pw_r72) (pc := 7) dX11_isPerson_7 <|
pw_iconst (v := 1) (pc := 8) dX11_isPerson_8 (by decide) <|
pw_isub (pc := 9) dX11_isPerson_9 <|
pw_callS_rz (n := 3) (rest := []) (tX11_isIn K.2.1 G a1 (0 : Int32) ((m0 72 ((0 : Int32)).toNatClampNeg) - (1 : Int32)) m0) miX11_isIn mlX11_52 (pc := 10) dX11_isPerson_10 rfl rfl (by decide) (Nat.le_of_ble_eq_true rfl) fun y1 =>
pw_zret (b := y1) hH rfl (pc := 13) dX11_isPerson_13)
set_option maxHeartbeats 4000000 in
theorem tX11_isBand (l : Launch) (G : pw_G) (a1 : Int32) (m0 : pw_Mem) : PMet l G yX11_isBand cX11_isBand 2 (some .boolean) 1 [.ref (pw_ad G 71), .int a1] m0 (pw_Rz m0) (fX11_isBand a1 m0) :=
  pw_met (own := RX11) (l0 := [(0, .ref (pw_ad G 71)), (1, .int a1)]) rfl (by decide) rfl (Nat.le_of_ble_eq_true rfl) fun K hK hH => by
  delta fX11_isBand
  exact (pw_iload_n (pc := 0) dX11_isBand_0 1 rfl <|
pw_iconst (v := 0) (pc := 1) dX11_isBand_1 (by decide) <|
pw_aload_n (pc := 2) dX11_isBand_2 0 rfl <|
pw_getR (o := 71) (k := 0) (t := 72) (pw_sh_71) cfX11 rfl (by decide) flX11_9 (pc := 3) dX11_isBand_3 <|
pw_iconst (v := 1) (pc := 6) dX11_isBand_6 (by decide) <|
pw_iald (pw_shRow pw_r72) (pc := 7) dX11_isBand_7 <|
pw_iconst (v := 1) (pc := 8) dX11_isBand_8 (by decide) <|
pw_isub (pc := 9) dX11_isBand_9 <|
pw_callS_rz (n := 3) (rest := []) (tX11_isIn K.2.1 G a1 (0 : Int32) ((m0 72 ((1 : Int32)).toNatClampNeg) - (1 : Int32)) m0) miX11_isIn mlX11_52 (pc := 10) dX11_isBand_10 rfl rfl (by decide) (Nat.le_of_ble_eq_true rfl) fun y1 =>
pw_zret (b := y1) hH rfl (pc := 13) dX11_isBand_13)
set_option maxHeartbeats 4000000 in
theorem tX11_isPlace (l : Launch) (G : pw_G) (a1 : Int32) (m0 : pw_Mem) : PMet l G yX11_isPlace cX11_isPlace 1 (some .boolean) 1 [.int a1] m0 (pw_Rz m0) (fX11_isPlace a1 m0) :=
  pw_met (own := RX11) (l0 := [(0, .int a1)]) rfl (by decide) rfl (Nat.le_of_ble_eq_true rfl) fun K hK hH => by
  delta fX11_isPlace
  exact (pw_iload_n (pc := 0) dX11_isPlace_0 0 rfl <|
pw_iconst (v := 0) (pc := 1) dX11_isPlace_1 (by decide) <|
pw_bipush (v := 30) (pc := 2) dX11_isPlace_2 (by decide) <|
pw_callS_rz (n := 3) (rest := []) (tX11_isIn K.2.1 G a1 (0 : Int32) (30 : Int32) m0) miX11_isIn mlX11_52 (pc := 4) dX11_isPlace_4 rfl rfl (by decide) (Nat.le_of_ble_eq_true rfl) fun y1 =>
pw_zret (b := y1) hH rfl (pc := 7) dX11_isPlace_7)
set_option maxHeartbeats 4000000 in
theorem tX11_far (l : Launch) (G : pw_G) (a1 : Int32) (a2 : Int32) (m0 : pw_Mem) : PMet l G yX11_far cX11_far 2 (some .int) 0 [.int a1, .int a2] m0 (pw_Ri m0) (fX11_far a1 a2 m0) :=
  pw_met (own := RX11) (l0 := [(0, .int a1), (1, .int a2)]) rfl (by decide) rfl (Nat.le_of_ble_eq_true rfl) fun K hK hH => by
  delta fX11_far
  exact (pw_iload_n (pc := 0) dX11_far_0 0 rfl <|
pw_iload_n (pc := 1) dX11_far_1 1 rfl <|
pw_icmp_le  (tgt := 11) (pc := 2) dX11_far_2 (by decide) (fun h1 => pw_iload_n (pc := 11) dX11_far_11 1 rfl <|
pw_iload_n (pc := 12) dX11_far_12 0 rfl <|
pw_isub (pc := 13) dX11_far_13 <|
pw_iret (a := (a2 - a1)) (v := (a2 - a1)) hH rfl (pc := 14) dX11_far_14) (fun h2 => pw_iload_n (pc := 5) dX11_far_5 0 rfl <|
pw_iload_n (pc := 6) dX11_far_6 1 rfl <|
pw_isub (pc := 7) dX11_far_7 <|
pw_goto (tgt := 14) (pc := 8) dX11_far_8 (by decide) <|
pw_iret (a := (a1 - a2)) (v := (a1 - a2)) hH rfl (pc := 14) dX11_far_14))
set_option maxHeartbeats 4000000 in
theorem tX11_has (l : Launch) (G : pw_G) (a1 : Int32) (a2 : Int32) (m0 : pw_Mem) : PMet l G yX11_has cX11_has 2 (some .boolean) 0 [.int a1, .int a2] m0 (pw_Rz m0) (fX11_has a1 a2 m0) :=
  pw_met (own := RX11) (l0 := [(0, .int a1), (1, .int a2)]) rfl (by decide) rfl (Nat.le_of_ble_eq_true rfl) fun K hK hH => by
  delta fX11_has
  exact (pw_iload_n (pc := 0) dX11_has_0 0 rfl <|
pw_iload_n (pc := 1) dX11_has_1 1 rfl <|
pw_ishr (pc := 2) dX11_has_2 <|
pw_iconst (v := 1) (pc := 3) dX11_has_3 (by decide) <|
pw_iand (pc := 4) dX11_has_4 <|
pw_iconst (v := 1) (pc := 5) dX11_has_5 (by decide) <|
pw_icmp_ne  (tgt := 13) (pc := 6) dX11_has_6 (by decide) (fun h1 => pw_iconst (v := 0) (pc := 13) dX11_has_13 (by decide) <|
pw_zret (b := false) hH rfl (pc := 14) dX11_has_14) (fun h2 => pw_iconst (v := 1) (pc := 9) dX11_has_9 (by decide) <|
pw_goto (tgt := 14) (pc := 10) dX11_has_10 (by decide) <|
pw_zret (b := true) hH rfl (pc := 14) dX11_has_14))
set_option maxHeartbeats 4000000 in
theorem tX11_bits (l : Launch) (G : pw_G) (a1 : Int32) (m0 : pw_Mem) : PMet l G yX11_bits cX11_bits 3 (some .int) 0 [.int a1] m0 (pw_Ri m0) (fX11_bits a1 m0) :=
  pw_met (own := RX11) (l0 := [(0, .int a1)]) rfl (by decide) rfl (Nat.le_of_ble_eq_true rfl) fun K hK hH => by
  delta fX11_bits
  exact (pw_iconst (v := 0) (pc := 0) dX11_bits_0 (by decide) <|
pw_istore_n [(1, .int (0 : Int32)), (0, .int a1)] (pc := 1) dX11_bits_1 (by decide) rfl <|
pw_iconst (v := 0) (pc := 2) dX11_bits_2 (by decide) <|
pw_istore_n [(2, .int (0 : Int32)), (1, .int (0 : Int32)), (0, .int a1)] (pc := 3) dX11_bits_3 (by decide) rfl <|
pw_lp (fun (kk9 : Int32 → Int32 → Option Int32) => ∀ (v1 : Int32) (v2 : Int32), PW K G RX11 cX11_bits 3 (some .int) 0 (pw_MQ K G (pw_Ri m0)) (kk9 v1 v2) 4 [(2, .int v2), (1, .int v1), (0, .int a1)] [] m0) (fun _ _ => pw_none) (fun nx3 hn4 v1 v2 => pw_iload_n (pc := 4) dX11_bits_4 0 rfl <|
pw_bipush (v := 10) (pc := 5) dX11_bits_5 (by decide) <|
pw_icmp_ge  (tgt := 24) (pc := 7) dX11_bits_7 (by decide) (fun h7 => pw_iload_n (pc := 24) dX11_bits_24 1 rfl <|
pw_iret (a := v1) (v := v1) hH rfl (pc := 25) dX11_bits_25) (fun h8 => pw_iload_n (pc := 10) dX11_bits_10 1 rfl <|
pw_iload_n (pc := 11) dX11_bits_11 2 rfl <|
pw_iload_n (pc := 12) dX11_bits_12 0 rfl <|
pw_ishr (pc := 13) dX11_bits_13 <|
pw_iconst (v := 1) (pc := 14) dX11_bits_14 (by decide) <|
pw_iand (pc := 15) dX11_bits_15 <|
pw_iadd (pc := 16) dX11_bits_16 <|
pw_ltI fun x5 => pw_istore_n [(1, .int x5), (2, .int v2), (0, .int a1)] (pc := 17) dX11_bits_17 (by decide) rfl <|
pw_ltA fun x6 hxx6 => pw_iinc (v := x6) [(2, .int x6), (1, .int x5), (0, .int a1)] (pc := 18) dX11_bits_18 1 rfl (by rw [hxx6]; rfl) (by decide) rfl <|
pw_goto (tgt := 4) (pc := 21) dX11_bits_21 (by decide) <|
hn4 x5 x6)) FU (0 : Int32) (0 : Int32))
set_option maxHeartbeats 4000000 in
theorem tX11_slack (l : Launch) (G : pw_G) (a1 : Int32) (a2 : Int32) (m0 : pw_Mem) : PMet l G yX11_slack cX11_slack 2 (some .int) 0 [.int a1, .int a2] m0 (pw_Ri m0) (fX11_slack a1 a2 m0) :=
  pw_met (own := RX11) (l0 := [(0, .int a1), (1, .int a2)]) rfl (by decide) rfl (Nat.le_of_ble_eq_true rfl) fun K hK hH => by
  delta fX11_slack
  exact (pw_iload_n (pc := 0) dX11_slack_0 0 rfl <|
pw_if (fun h1 => pw_tIn (tgt := 44) (pc := 1) dX11_slack_1 h1 (by decide) (by decide) rfl (by decide) <|
pw_iload_n (pc := 44) dX11_slack_44 1 rfl <|
pw_iconst (v := 2) (pc := 45) dX11_slack_45 (by decide) <|
pw_iadd (pc := 46) dX11_slack_46 <|
pw_iconst (v := 2) (pc := 47) dX11_slack_47 (by decide) <|
pw_idiv (pc := 48) dX11_slack_48 (by decide) <|
pw_iret (a := ((a2 + (2 : Int32)) / (2 : Int32))) (v := ((a2 + (2 : Int32)) / (2 : Int32))) hH rfl (pc := 49) dX11_slack_49) (fun h1 => pw_if (fun h2 => pw_tIn (tgt := 50) (pc := 1) dX11_slack_1 h2 (by decide) (by decide) rfl (by decide) <|
pw_iload_n (pc := 50) dX11_slack_50 1 rfl <|
pw_iconst (v := 2) (pc := 51) dX11_slack_51 (by decide) <|
pw_iadd (pc := 52) dX11_slack_52 <|
pw_iconst (v := 2) (pc := 53) dX11_slack_53 (by decide) <|
pw_idiv (pc := 54) dX11_slack_54 (by decide) <|
pw_iconst (v := 1) (pc := 55) dX11_slack_55 (by decide) <|
pw_iadd (pc := 56) dX11_slack_56 <|
pw_iret (a := (((a2 + (2 : Int32)) / (2 : Int32)) + (1 : Int32))) (v := (((a2 + (2 : Int32)) / (2 : Int32)) + (1 : Int32))) hH rfl (pc := 57) dX11_slack_57) (fun h2 => pw_if (fun h3 => pw_tIn (tgt := 58) (pc := 1) dX11_slack_1 h3 (by decide) (by decide) rfl (by decide) <|
pw_iload_n (pc := 58) dX11_slack_58 1 rfl <|
pw_iret (a := a2) (v := a2) hH rfl (pc := 59) dX11_slack_59) (fun h3 => pw_if (fun h4 => pw_tIn (tgt := 60) (pc := 1) dX11_slack_1 h4 (by decide) (by decide) rfl (by decide) <|
pw_iload_n (pc := 60) dX11_slack_60 1 rfl <|
pw_iconst (v := 1) (pc := 61) dX11_slack_61 (by decide) <|
pw_iadd (pc := 62) dX11_slack_62 <|
pw_iret (a := (a2 + (1 : Int32))) (v := (a2 + (1 : Int32))) hH rfl (pc := 63) dX11_slack_63) (fun h4 => pw_if (fun h5 => pw_tIn (tgt := 64) (pc := 1) dX11_slack_1 h5 (by decide) (by decide) rfl (by decide) <|
pw_iconst (v := 0) (pc := 64) dX11_slack_64 (by decide) <|
pw_iret (a := (0 : Int32)) (v := (0 : Int32)) hH rfl (pc := 65) dX11_slack_65) (fun h5 => pw_if (fun h6 => pw_tIn (tgt := 66) (pc := 1) dX11_slack_1 h6 (by decide) (by decide) rfl (by decide) <|
pw_iload_n (pc := 66) dX11_slack_66 1 rfl <|
pw_bipush (v := 6) (pc := 67) dX11_slack_67 (by decide) <|
pw_iadd (pc := 69) dX11_slack_69 <|
pw_iret (a := (a2 + (6 : Int32))) (v := (a2 + (6 : Int32))) hH rfl (pc := 70) dX11_slack_70) (fun h6 => pw_if (fun h7 => pw_tIn (tgt := 71) (pc := 1) dX11_slack_1 h7 (by decide) (by decide) rfl (by decide) <|
pw_iconst (v := 2) (pc := 71) dX11_slack_71 (by decide) <|
pw_iload_n (pc := 72) dX11_slack_72 1 rfl <|
pw_imul (pc := 73) dX11_slack_73 <|
pw_iret (a := ((2 : Int32) * a2)) (v := ((2 : Int32) * a2)) hH rfl (pc := 74) dX11_slack_74) (fun h7 => pw_tOut (tgt := 75) (pc := 1) dX11_slack_1 (by have q0 := lv_neT h1 (a := 1) rfl; have q1 := lv_neT h2 (a := 2) rfl; have q2 := lv_neT h3 (a := 3) rfl; have q3 := lv_neT h4 (a := 4) rfl; have q4 := lv_neT h5 (a := 5) rfl; have q5 := lv_neT h6 (a := 6) rfl; have q6 := lv_neT h7 (a := 7) rfl; omega) (by decide) <|
pw_iload_n (pc := 75) dX11_slack_75 1 rfl <|
pw_iconst (v := 2) (pc := 76) dX11_slack_76 (by decide) <|
pw_iadd (pc := 77) dX11_slack_77 <|
pw_iret (a := (a2 + (2 : Int32))) (v := (a2 + (2 : Int32))) hH rfl (pc := 78) dX11_slack_78))))))))
set_option maxHeartbeats 4000000 in
theorem tX11_gauge (l : Launch) (G : pw_G) (a1 : Int32) (m0 : pw_Mem) : PMet l G yX11_gauge cX11_gauge 1 (some .int) 0 [.int a1] m0 (pw_Ri m0) (fX11_gauge a1 m0) :=
  pw_met (own := RX11) (l0 := [(0, .int a1)]) rfl (by decide) rfl (Nat.le_of_ble_eq_true rfl) fun K hK hH => by
  delta fX11_gauge
  exact (pw_iload_n (pc := 0) dX11_gauge_0 0 rfl <|
pw_jn (fun (k1 : Option Int32) => PW K G RX11 cX11_gauge 1 (some .int) 0 (pw_MQ K G (pw_Ri m0)) k1 50 [] [] m0) (pw_iconst (v := 1) (pc := 50) dX11_gauge_50 (by decide) <|
pw_iret (a := (1 : Int32)) (v := (1 : Int32)) hH rfl (pc := 51) dX11_gauge_51) (fun k1 hk2 => pw_jn (fun (k3 : Option Int32) => PW K G RX11 cX11_gauge 1 (some .int) 0 (pw_MQ K G (pw_Ri m0)) k3 44 [] [] m0) (pw_iconst (v := 2) (pc := 44) dX11_gauge_44 (by decide) <|
pw_iret (a := (2 : Int32)) (v := (2 : Int32)) hH rfl (pc := 45) dX11_gauge_45) (fun k3 hk4 => pw_jn (fun (k5 : Option Int32) => PW K G RX11 cX11_gauge 1 (some .int) 0 (pw_MQ K G (pw_Ri m0)) k5 46 [] [] m0) (pw_iconst (v := 3) (pc := 46) dX11_gauge_46 (by decide) <|
pw_iret (a := (3 : Int32)) (v := (3 : Int32)) hH rfl (pc := 47) dX11_gauge_47) (fun k5 hk6 => pw_if (fun h7 => pw_tIn (tgt := 44) (pc := 1) dX11_gauge_1 h7 (by decide) (by decide) rfl (by decide) <|
pw_sub [] rfl <| hk4) (fun h7 => pw_if (fun h8 => pw_tIn (tgt := 46) (pc := 1) dX11_gauge_1 h8 (by decide) (by decide) rfl (by decide) <|
pw_sub [] rfl <| hk6) (fun h8 => pw_if (fun h9 => pw_tIn (tgt := 50) (pc := 1) dX11_gauge_1 h9 (by decide) (by decide) rfl (by decide) <|
pw_sub [] rfl <| hk2) (fun h9 => pw_if (fun h10 => pw_tIn (tgt := 46) (pc := 1) dX11_gauge_1 h10 (by decide) (by decide) rfl (by decide) <|
pw_sub [] rfl <| hk6) (fun h10 => pw_if (fun h11 => pw_tIn (tgt := 44) (pc := 1) dX11_gauge_1 h11 (by decide) (by decide) rfl (by decide) <|
pw_sub [] rfl <| hk4) (fun h11 => pw_if (fun h12 => pw_tIn (tgt := 50) (pc := 1) dX11_gauge_1 h12 (by decide) (by decide) rfl (by decide) <|
pw_sub [] rfl <| hk2) (fun h12 => pw_if (fun h13 => pw_tIn (tgt := 48) (pc := 1) dX11_gauge_1 h13 (by decide) (by decide) rfl (by decide) <|
pw_iconst (v := 4) (pc := 48) dX11_gauge_48 (by decide) <|
pw_iret (a := (4 : Int32)) (v := (4 : Int32)) hH rfl (pc := 49) dX11_gauge_49) (fun h13 => pw_tOut (tgt := 50) (pc := 1) dX11_gauge_1 (by have q0 := lv_neT h7 (a := 1) rfl; have q1 := lv_neT h8 (a := 2) rfl; have q2 := lv_neT h9 (a := 3) rfl; have q3 := lv_neT h10 (a := 4) rfl; have q4 := lv_neT h11 (a := 5) rfl; have q5 := lv_neT h12 (a := 6) rfl; have q6 := lv_neT h13 (a := 7) rfl; omega) (by decide) <|
pw_sub [] rfl <| hk2)))))))))))
set_option maxHeartbeats 4000000 in
theorem tX11_holds (l : Launch) (G : pw_G) (a1 : Int32) (a2 : Int32) (m0 : pw_Mem) : PMet l G yX11_holds cX11_holds 2 (some .int) 0 [.int a1, .int a2] m0 (pw_Ri m0) (fX11_holds a1 a2 m0) :=
  pw_met (own := RX11) (l0 := [(0, .int a1), (1, .int a2)]) rfl (by decide) rfl (Nat.le_of_ble_eq_true rfl) fun K hK hH => by
  delta fX11_holds
  exact (pw_iload_n (pc := 0) dX11_holds_0 0 rfl <|
pw_jn (fun (k1 : Option Int32) => PW K G RX11 cX11_holds 2 (some .int) 0 (pw_MQ K G (pw_Ri m0)) k1 70 [(1, .int a2)] [] m0) (pw_iload_n (pc := 70) dX11_holds_70 0 rfl <|
pw_bipush (v := 8) (pc := 71) dX11_holds_71 (by decide) <|
pw_iadd (pc := 73) dX11_holds_73 <|
pw_iret (a := (a2 + (8 : Int32))) (v := (a2 + (8 : Int32))) hH rfl (pc := 74) dX11_holds_74) (fun k1 hk2 => pw_if (fun h3 => pw_tIn (tgt := 44) (pc := 1) dX11_holds_1 h3 (by decide) (by decide) rfl (by decide) <|
pw_iload_n (pc := 44) dX11_holds_44 1 rfl <|
pw_bipush (v := 12) (pc := 45) dX11_holds_45 (by decide) <|
pw_iadd (pc := 47) dX11_holds_47 <|
pw_iret (a := (a2 + (12 : Int32))) (v := (a2 + (12 : Int32))) hH rfl (pc := 48) dX11_holds_48) (fun h3 => pw_if (fun h4 => pw_tIn (tgt := 49) (pc := 1) dX11_holds_1 h4 (by decide) (by decide) rfl (by decide) <|
pw_iconst (v := 2) (pc := 49) dX11_holds_49 (by decide) <|
pw_iload_n (pc := 50) dX11_holds_50 1 rfl <|
pw_bipush (v := 12) (pc := 51) dX11_holds_51 (by decide) <|
pw_iadd (pc := 53) dX11_holds_53 <|
pw_imul (pc := 54) dX11_holds_54 <|
pw_iret (a := ((2 : Int32) * (a2 + (12 : Int32)))) (v := ((2 : Int32) * (a2 + (12 : Int32)))) hH rfl (pc := 55) dX11_holds_55) (fun h4 => pw_if (fun h5 => pw_tIn (tgt := 56) (pc := 1) dX11_holds_1 h5 (by decide) (by decide) rfl (by decide) <|
pw_iconst (v := 3) (pc := 56) dX11_holds_56 (by decide) <|
pw_iret (a := (3 : Int32)) (v := (3 : Int32)) hH rfl (pc := 57) dX11_holds_57) (fun h5 => pw_if (fun h6 => pw_tIn (tgt := 58) (pc := 1) dX11_holds_1 h6 (by decide) (by decide) rfl (by decide) <|
pw_iload_n (pc := 58) dX11_holds_58 1 rfl <|
pw_bipush (v := 8) (pc := 59) dX11_holds_59 (by decide) <|
pw_iadd (pc := 61) dX11_holds_61 <|
pw_iconst (v := 2) (pc := 62) dX11_holds_62 (by decide) <|
pw_idiv (pc := 63) dX11_holds_63 (by decide) <|
pw_iret (a := ((a2 + (8 : Int32)) / (2 : Int32))) (v := ((a2 + (8 : Int32)) / (2 : Int32))) hH rfl (pc := 64) dX11_holds_64) (fun h6 => pw_if (fun h7 => pw_tIn (tgt := 65) (pc := 1) dX11_holds_1 h7 (by decide) (by decide) rfl (by decide) <|
pw_bipush (v := 30) (pc := 65) dX11_holds_65 (by decide) <|
pw_iret (a := (30 : Int32)) (v := (30 : Int32)) hH rfl (pc := 67) dX11_holds_67) (fun h7 => pw_if (fun h8 => pw_tIn (tgt := 70) (pc := 1) dX11_holds_1 h8 (by decide) (by decide) rfl (by decide) <|
pw_sub [1] rfl <| hk2) (fun h8 => pw_if (fun h9 => pw_tIn (tgt := 68) (pc := 1) dX11_holds_1 h9 (by decide) (by decide) rfl (by decide) <|
pw_iconst (v := 5) (pc := 68) dX11_holds_68 (by decide) <|
pw_iret (a := (5 : Int32)) (v := (5 : Int32)) hH rfl (pc := 69) dX11_holds_69) (fun h9 => pw_tOut (tgt := 70) (pc := 1) dX11_holds_1 (by have q0 := lv_neT h3 (a := 1) rfl; have q1 := lv_neT h4 (a := 2) rfl; have q2 := lv_neT h5 (a := 3) rfl; have q3 := lv_neT h6 (a := 4) rfl; have q4 := lv_neT h7 (a := 5) rfl; have q5 := lv_neT h8 (a := 6) rfl; have q6 := lv_neT h9 (a := 7) rfl; omega) (by decide) <|
pw_sub [1] rfl <| hk2)))))))))
set_option maxHeartbeats 4000000 in
theorem tX11_isWhole (l : Launch) (G : pw_G) {o1 : Nat} (ho1 : pw_isRow o1) (a2 : Int32) (m0 : pw_Mem) : PMet l G yX11_isWhole cX11_isWhole 2 (some .boolean) 1 [.ref (pw_ad G o1), .int a2] m0 (pw_Rz m0) (fX11_isWhole o1 a2 m0) :=
  pw_met (own := RX11) (l0 := [(0, .ref (pw_ad G o1)), (1, .int a2)]) rfl (by decide) rfl (Nat.le_of_ble_eq_true rfl) fun K hK hH => by
  delta fX11_isWhole
  exact (pw_aload_n (pc := 0) dX11_isWhole_0 0 rfl <|
pw_iload_n (pc := 1) dX11_isWhole_1 1 rfl <|
pw_iconst (v := 5) (pc := 2) dX11_isWhole_2 (by decide) <|
pw_callS_ri (n := 2) (rest := [.ref (pw_ad G o1)]) (tX11_of K.2.1 G a2 (5 : Int32) m0) miX11_of mlX11_56 (pc := 3) dX11_isWhole_3 rfl rfl (by decide) (Nat.le_of_ble_eq_true rfl) fun y1 =>
pw_iald (pw_shRow ho1) (pc := 6) dX11_isWhole_6 <|
pw_if_ne (a := (m0 o1 (y1).toNatClampNeg)) (b := 0) (tgt := 14) (pc := 7) dX11_isWhole_7 (by decide) (fun h2 => pw_iconst (v := 0) (pc := 14) dX11_isWhole_14 (by decide) <|
pw_zret (b := false) hH rfl (pc := 15) dX11_isWhole_15) (fun h3 => pw_iconst (v := 1) (pc := 10) dX11_isWhole_10 (by decide) <|
pw_goto (tgt := 15) (pc := 11) dX11_isWhole_11 (by decide) <|
pw_zret (b := true) hH rfl (pc := 15) dX11_isWhole_15))
set_option maxHeartbeats 4000000 in
theorem tX11_isRound (l : Launch) (G : pw_G) {o1 : Nat} (ho1 : pw_isRow o1) (a2 : Int32) (a3 : Int32) (m0 : pw_Mem) : PMet l G yX11_isRound cX11_isRound 3 (some .boolean) 1 [.ref (pw_ad G o1), .int a2, .int a3] m0 (pw_Rz m0) (fX11_isRound o1 a2 a3 m0) :=
  pw_met (own := RX11) (l0 := [(0, .ref (pw_ad G o1)), (1, .int a2), (2, .int a3)]) rfl (by decide) rfl (Nat.le_of_ble_eq_true rfl) fun K hK hH => by
  delta fX11_isRound
  exact (pw_aload_n (pc := 0) dX11_isRound_0 0 rfl <|
pw_iload_n (pc := 1) dX11_isRound_1 1 rfl <|
pw_iconst (v := 2) (pc := 2) dX11_isRound_2 (by decide) <|
pw_callS_ri (n := 2) (rest := [.ref (pw_ad G o1)]) (tX11_of K.2.1 G a2 (2 : Int32) m0) miX11_of mlX11_56 (pc := 3) dX11_isRound_3 rfl rfl (by decide) (Nat.le_of_ble_eq_true rfl) fun y1 =>
pw_iald (pw_shRow ho1) (pc := 6) dX11_isRound_6 <|
pw_iload_n (pc := 7) dX11_isRound_7 2 rfl <|
pw_icmp_eq  (tgt := 22) (pc := 8) dX11_isRound_8 (by decide) (fun h5 => pw_iconst (v := 1) (pc := 22) dX11_isRound_22 (by decide) <|
pw_goto (tgt := 27) (pc := 23) dX11_isRound_23 (by decide) <|
pw_zret (b := true) hH rfl (pc := 27) dX11_isRound_27) (fun h6 => pw_aload_n (pc := 11) dX11_isRound_11 0 rfl <|
pw_iload_n (pc := 12) dX11_isRound_12 1 rfl <|
pw_iconst (v := 3) (pc := 13) dX11_isRound_13 (by decide) <|
pw_callS_ri (n := 2) (rest := [.ref (pw_ad G o1)]) (tX11_of K.2.1 G a2 (3 : Int32) m0) miX11_of mlX11_56 (pc := 14) dX11_isRound_14 rfl rfl (by decide) (Nat.le_of_ble_eq_true rfl) fun y2 =>
pw_iald (pw_shRow ho1) (pc := 17) dX11_isRound_17 <|
pw_iload_n (pc := 18) dX11_isRound_18 2 rfl <|
pw_icmp_ne  (tgt := 26) (pc := 19) dX11_isRound_19 (by decide) (fun h3 => pw_iconst (v := 0) (pc := 26) dX11_isRound_26 (by decide) <|
pw_zret (b := false) hH rfl (pc := 27) dX11_isRound_27) (fun h4 => pw_iconst (v := 1) (pc := 22) dX11_isRound_22 (by decide) <|
pw_goto (tgt := 27) (pc := 23) dX11_isRound_23 (by decide) <|
pw_zret (b := true) hH rfl (pc := 27) dX11_isRound_27)))
set_option maxHeartbeats 4000000 in
theorem tX11_stretch (l : Launch) (G : pw_G) {o1 : Nat} (ho1 : pw_isRow o1) (a2 : Int32) (m0 : pw_Mem) : PMet l G yX11_stretch cX11_stretch 3 (some .int) 1 [.ref (pw_ad G o1), .int a2] m0 (pw_Ri m0) (fX11_stretch o1 a2 m0) :=
  pw_met (own := RX11) (l0 := [(0, .ref (pw_ad G o1)), (1, .int a2)]) rfl (by decide) rfl (Nat.le_of_ble_eq_true rfl) fun K hK hH => by
  delta fX11_stretch
  exact (pw_aload_n (pc := 0) dX11_stretch_0 0 rfl <|
pw_iconst (v := 4) (pc := 1) dX11_stretch_1 (by decide) <|
pw_aload_n (pc := 2) dX11_stretch_2 0 rfl <|
pw_iload_n (pc := 3) dX11_stretch_3 1 rfl <|
pw_iconst (v := 2) (pc := 4) dX11_stretch_4 (by decide) <|
pw_callS_ri (n := 2) (rest := [.ref (pw_ad G o1), .int (4 : Int32), .ref (pw_ad G o1)]) (tX11_of K.2.1 G a2 (2 : Int32) m0) miX11_of mlX11_56 (pc := 5) dX11_stretch_5 rfl rfl (by decide) (Nat.le_of_ble_eq_true rfl) fun y1 =>
pw_iald (pw_shRow ho1) (pc := 8) dX11_stretch_8 <|
pw_iadd (pc := 9) dX11_stretch_9 <|
pw_iald (pw_shRow ho1) (pc := 10) dX11_stretch_10 <|
pw_aload_n (pc := 11) dX11_stretch_11 0 rfl <|
pw_iconst (v := 4) (pc := 12) dX11_stretch_12 (by decide) <|
pw_aload_n (pc := 13) dX11_stretch_13 0 rfl <|
pw_iload_n (pc := 14) dX11_stretch_14 1 rfl <|
pw_iconst (v := 3) (pc := 15) dX11_stretch_15 (by decide) <|
pw_callS_ri (n := 2) (rest := [.ref (pw_ad G o1), .int (4 : Int32), .ref (pw_ad G o1), .int (m0 o1 ((4 : Int32) + (m0 o1 (y1).toNatClampNeg)).toNatClampNeg)]) (tX11_of K.2.1 G a2 (3 : Int32) m0) miX11_of mlX11_56 (pc := 16) dX11_stretch_16 rfl rfl (by decide) (Nat.le_of_ble_eq_true rfl) fun y2 =>
pw_iald (pw_shRow ho1) (pc := 19) dX11_stretch_19 <|
pw_iadd (pc := 20) dX11_stretch_20 <|
pw_iald (pw_shRow ho1) (pc := 21) dX11_stretch_21 <|
pw_callS_ri (n := 2) (rest := []) (tX11_far K.2.1 G (m0 o1 ((4 : Int32) + (m0 o1 (y1).toNatClampNeg)).toNatClampNeg) (m0 o1 ((4 : Int32) + (m0 o1 (y2).toNatClampNeg)).toNatClampNeg) m0) miX11_far mlX11_60 (pc := 22) dX11_stretch_22 rfl rfl (by decide) (Nat.le_of_ble_eq_true rfl) fun y3 =>
pw_istore_n [(2, .int y3), (0, .ref (pw_ad G o1)), (1, .int a2)] (pc := 25) dX11_stretch_25 (by decide) rfl <|
pw_iconst (v := 0) (pc := 26) dX11_stretch_26 (by decide) <|
pw_iload_n (pc := 27) dX11_stretch_27 0 rfl <|
pw_aload_n (pc := 28) dX11_stretch_28 1 rfl <|
pw_iload_n (pc := 29) dX11_stretch_29 2 rfl <|
pw_iconst (v := 0) (pc := 30) dX11_stretch_30 (by decide) <|
pw_callS_ri (n := 2) (rest := [.ref (pw_ad G o1), .int y3, .int (0 : Int32)]) (tX11_of K.2.1 G a2 (0 : Int32) m0) miX11_of mlX11_56 (pc := 31) dX11_stretch_31 rfl rfl (by decide) (Nat.le_of_ble_eq_true rfl) fun y4 =>
pw_iald (pw_shRow ho1) (pc := 34) dX11_stretch_34 <|
pw_aload_n (pc := 35) dX11_stretch_35 1 rfl <|
pw_iload_n (pc := 36) dX11_stretch_36 2 rfl <|
pw_iconst (v := 1) (pc := 37) dX11_stretch_37 (by decide) <|
pw_callS_ri (n := 2) (rest := [.ref (pw_ad G o1), .int (m0 o1 (y4).toNatClampNeg), .int y3, .int (0 : Int32)]) (tX11_of K.2.1 G a2 (1 : Int32) m0) miX11_of mlX11_56 (pc := 38) dX11_stretch_38 rfl rfl (by decide) (Nat.le_of_ble_eq_true rfl) fun y5 =>
pw_iald (pw_shRow ho1) (pc := 41) dX11_stretch_41 <|
pw_callS_ri (n := 2) (rest := [.int y3, .int (0 : Int32)]) (tX11_slack K.2.1 G (m0 o1 (y4).toNatClampNeg) (m0 o1 (y5).toNatClampNeg) m0) miX11_slack mlX11_63 (pc := 42) dX11_stretch_42 rfl rfl (by decide) (Nat.le_of_ble_eq_true rfl) fun y6 =>
pw_isub (pc := 45) dX11_stretch_45 <|
pw_callS_ri (n := 2) (rest := []) (tX11_most K.2.1 G (0 : Int32) (y3 - y6) m0) miX11_most mlX11_66 (pc := 46) dX11_stretch_46 rfl rfl (by decide) (Nat.le_of_ble_eq_true rfl) fun y7 =>
pw_iret (a := y7) (v := y7) hH rfl (pc := 49) dX11_stretch_49)
set_option maxHeartbeats 4000000 in
theorem tX11_pull (l : Launch) (G : pw_G) {o1 : Nat} (ho1 : pw_isRow o1) (a2 : Int32) (m0 : pw_Mem) : PMet l G yX11_pull cX11_pull 2 (some .int) 2 [.ref (pw_ad G o1), .int a2] m0 (pw_Ri m0) (fX11_pull o1 a2 m0) :=
  pw_met (own := RX11) (l0 := [(0, .ref (pw_ad G o1)), (1, .int a2)]) rfl (by decide) rfl (Nat.le_of_ble_eq_true rfl) fun K hK hH => by
  delta fX11_pull
  exact (pw_aload_n (pc := 0) dX11_pull_0 0 rfl <|
pw_iload_n (pc := 1) dX11_pull_1 1 rfl <|
pw_callS_rz (n := 2) (rest := []) (tX11_isWhole K.2.1 G ho1 a2 m0) miX11_isWhole mlX11_69 (pc := 2) dX11_pull_2 rfl rfl (by decide) (Nat.le_of_ble_eq_true rfl) fun y1 =>
pw_ifz_eq (tgt := 27) (pc := 5) dX11_pull_5 (by decide) (fun h5 => pw_aload_n (pc := 8) dX11_pull_8 0 rfl <|
pw_iload_n (pc := 9) dX11_pull_9 1 rfl <|
pw_callS_ri (n := 2) (rest := []) (tX11_stretch K.2.1 G ho1 a2 m0) miX11_stretch mlX11_73 (pc := 10) dX11_pull_10 rfl rfl (by decide) (Nat.le_of_ble_eq_true rfl) fun y2 =>
pw_aload_n (pc := 13) dX11_pull_13 0 rfl <|
pw_iload_n (pc := 14) dX11_pull_14 1 rfl <|
pw_iconst (v := 0) (pc := 15) dX11_pull_15 (by decide) <|
pw_callS_ri (n := 2) (rest := [.ref (pw_ad G o1), .int y2]) (tX11_of K.2.1 G a2 (0 : Int32) m0) miX11_of mlX11_56 (pc := 16) dX11_pull_16 rfl rfl (by decide) (Nat.le_of_ble_eq_true rfl) fun y3 =>
pw_iald (pw_shRow ho1) (pc := 19) dX11_pull_19 <|
pw_callS_ri (n := 1) (rest := [.int y2]) (tX11_gauge K.2.1 G (m0 o1 (y3).toNatClampNeg) m0) miX11_gauge mlX11_77 (pc := 20) dX11_pull_20 rfl rfl (by decide) (Nat.le_of_ble_eq_true rfl) fun y4 =>
pw_imul (pc := 23) dX11_pull_23 <|
pw_goto (tgt := 28) (pc := 24) dX11_pull_24 (by decide) <|
pw_iret (a := (y2 * y4)) (v := (y2 * y4)) hH rfl (pc := 28) dX11_pull_28) (fun h6 => pw_iconst (v := 0) (pc := 27) dX11_pull_27 (by decide) <|
pw_iret (a := (0 : Int32)) (v := (0 : Int32)) hH rfl (pc := 28) dX11_pull_28))
set_option maxHeartbeats 4000000 in
theorem tX11_holdsNow (l : Launch) (G : pw_G) {o1 : Nat} (ho1 : pw_isRow o1) (a2 : Int32) (m0 : pw_Mem) : PMet l G yX11_holdsNow cX11_holdsNow 2 (some .int) 1 [.ref (pw_ad G o1), .int a2] m0 (pw_Ri m0) (fX11_holdsNow o1 a2 m0) :=
  pw_met (own := RX11) (l0 := [(0, .ref (pw_ad G o1)), (1, .int a2)]) rfl (by decide) rfl (Nat.le_of_ble_eq_true rfl) fun K hK hH => by
  delta fX11_holdsNow
  exact (pw_iconst (v := 0) (pc := 0) dX11_holdsNow_0 (by decide) <|
pw_aload_n (pc := 1) dX11_holdsNow_1 0 rfl <|
pw_iload_n (pc := 2) dX11_holdsNow_2 1 rfl <|
pw_iconst (v := 0) (pc := 3) dX11_holdsNow_3 (by decide) <|
pw_callS_ri (n := 2) (rest := [.ref (pw_ad G o1), .int (0 : Int32)]) (tX11_of K.2.1 G a2 (0 : Int32) m0) miX11_of mlX11_56 (pc := 4) dX11_holdsNow_4 rfl rfl (by decide) (Nat.le_of_ble_eq_true rfl) fun y1 =>
pw_iald (pw_shRow ho1) (pc := 7) dX11_holdsNow_7 <|
pw_aload_n (pc := 8) dX11_holdsNow_8 0 rfl <|
pw_iload_n (pc := 9) dX11_holdsNow_9 1 rfl <|
pw_iconst (v := 1) (pc := 10) dX11_holdsNow_10 (by decide) <|
pw_callS_ri (n := 2) (rest := [.ref (pw_ad G o1), .int (m0 o1 (y1).toNatClampNeg), .int (0 : Int32)]) (tX11_of K.2.1 G a2 (1 : Int32) m0) miX11_of mlX11_56 (pc := 11) dX11_holdsNow_11 rfl rfl (by decide) (Nat.le_of_ble_eq_true rfl) fun y2 =>
pw_iald (pw_shRow ho1) (pc := 14) dX11_holdsNow_14 <|
pw_callS_ri (n := 2) (rest := [.int (0 : Int32)]) (tX11_holds K.2.1 G (m0 o1 (y1).toNatClampNeg) (m0 o1 (y2).toNatClampNeg) m0) miX11_holds mlX11_81 (pc := 15) dX11_holdsNow_15 rfl rfl (by decide) (Nat.le_of_ble_eq_true rfl) fun y3 =>
pw_aload_n (pc := 18) dX11_holdsNow_18 0 rfl <|
pw_iload_n (pc := 19) dX11_holdsNow_19 1 rfl <|
pw_iconst (v := 4) (pc := 20) dX11_holdsNow_20 (by decide) <|
pw_callS_ri (n := 2) (rest := [.ref (pw_ad G o1), .int y3, .int (0 : Int32)]) (tX11_of K.2.1 G a2 (4 : Int32) m0) miX11_of mlX11_56 (pc := 21) dX11_holdsNow_21 rfl rfl (by decide) (Nat.le_of_ble_eq_true rfl) fun y4 =>
pw_iald (pw_shRow ho1) (pc := 24) dX11_holdsNow_24 <|
pw_iconst (v := 5) (pc := 25) dX11_holdsNow_25 (by decide) <|
pw_idiv (pc := 26) dX11_holdsNow_26 (by decide) <|
pw_isub (pc := 27) dX11_holdsNow_27 <|
pw_aload_n (pc := 28) dX11_holdsNow_28 0 rfl <|
pw_iconst (v := 3) (pc := 29) dX11_holdsNow_29 (by decide) <|
pw_iald (pw_shRow ho1) (pc := 30) dX11_holdsNow_30 <|
pw_iconst (v := 2) (pc := 31) dX11_holdsNow_31 (by decide) <|
pw_idiv (pc := 32) dX11_holdsNow_32 (by decide) <|
pw_isub (pc := 33) dX11_holdsNow_33 <|
pw_callS_ri (n := 2) (rest := []) (tX11_most K.2.1 G (0 : Int32) ((y3 - ((m0 o1 (y4).toNatClampNeg) / (5 : Int32))) - ((m0 o1 ((3 : Int32)).toNatClampNeg) / (2 : Int32))) m0) miX11_most mlX11_66 (pc := 34) dX11_holdsNow_34 rfl rfl (by decide) (Nat.le_of_ble_eq_true rfl) fun y5 =>
pw_iret (a := y5) (v := y5) hH rfl (pc := 37) dX11_holdsNow_37)
set_option maxHeartbeats 4000000 in
theorem tX11_isOver (l : Launch) (G : pw_G) {o1 : Nat} (ho1 : pw_isRow o1) (a2 : Int32) (m0 : pw_Mem) : PMet l G yX11_isOver cX11_isOver 2 (some .boolean) 2 [.ref (pw_ad G o1), .int a2] m0 (pw_Rz m0) (fX11_isOver o1 a2 m0) :=
  pw_met (own := RX11) (l0 := [(0, .ref (pw_ad G o1)), (1, .int a2)]) rfl (by decide) rfl (Nat.le_of_ble_eq_true rfl) fun K hK hH => by
  delta fX11_isOver
  exact (pw_aload_n (pc := 0) dX11_isOver_0 0 rfl <|
pw_iload_n (pc := 1) dX11_isOver_1 1 rfl <|
pw_callS_rz (n := 2) (rest := []) (tX11_isWhole K.2.1 G ho1 a2 m0) miX11_isWhole mlX11_69 (pc := 2) dX11_isOver_2 rfl rfl (by decide) (Nat.le_of_ble_eq_true rfl) fun y1 =>
pw_ifz_eq (tgt := 25) (pc := 5) dX11_isOver_5 (by decide) (fun h6 => pw_aload_n (pc := 8) dX11_isOver_8 0 rfl <|
pw_iload_n (pc := 9) dX11_isOver_9 1 rfl <|
pw_callS_ri (n := 2) (rest := []) (tX11_stretch K.2.1 G ho1 a2 m0) miX11_stretch mlX11_73 (pc := 10) dX11_isOver_10 rfl rfl (by decide) (Nat.le_of_ble_eq_true rfl) fun y2 =>
pw_aload_n (pc := 13) dX11_isOver_13 0 rfl <|
pw_iload_n (pc := 14) dX11_isOver_14 1 rfl <|
pw_callS_ri (n := 2) (rest := [.int y2]) (tX11_holdsNow K.2.1 G ho1 a2 m0) miX11_holdsNow mlX11_84 (pc := 15) dX11_isOver_15 rfl rfl (by decide) (Nat.le_of_ble_eq_true rfl) fun y3 =>
pw_icmp_le  (tgt := 25) (pc := 18) dX11_isOver_18 (by decide) (fun h4 => pw_iconst (v := 0) (pc := 25) dX11_isOver_25 (by decide) <|
pw_zret (b := false) hH rfl (pc := 26) dX11_isOver_26) (fun h5 => pw_iconst (v := 1) (pc := 21) dX11_isOver_21 (by decide) <|
pw_goto (tgt := 26) (pc := 22) dX11_isOver_22 (by decide) <|
pw_zret (b := true) hH rfl (pc := 26) dX11_isOver_26)) (fun h7 => pw_iconst (v := 0) (pc := 25) dX11_isOver_25 (by decide) <|
pw_zret (b := false) hH rfl (pc := 26) dX11_isOver_26))
set_option maxHeartbeats 4000000 in
theorem tX11_stings (l : Launch) (G : pw_G) {o1 : Nat} (ho1 : pw_isRow o1) (a2 : Int32) (m0 : pw_Mem) : PMet l G yX11_stings cX11_stings 2 (none) 1 [.ref (pw_ad G o1), .int a2] m0 pw_Wv (fX11_stings o1 a2 m0) :=
  pw_met (own := RX11) (l0 := [(0, .ref (pw_ad G o1)), (1, .int a2)]) rfl (by decide) rfl (Nat.le_of_ble_eq_true rfl) fun K hK hH => by
  delta fX11_stings
  exact (pw_aload_n (pc := 0) dX11_stings_0 0 rfl <|
pw_bipush (v := 11) (pc := 1) dX11_stings_1 (by decide) <|
pw_iload_n (pc := 3) dX11_stings_3 1 rfl <|
pw_iadd (pc := 4) dX11_stings_4 <|
pw_bipush (v := 99) (pc := 5) dX11_stings_5 (by decide) <|
pw_aload_n (pc := 7) dX11_stings_7 0 rfl <|
pw_bipush (v := 11) (pc := 8) dX11_stings_8 (by decide) <|
pw_iload_n (pc := 10) dX11_stings_10 1 rfl <|
pw_iadd (pc := 11) dX11_stings_11 <|
pw_iald (pw_shRow ho1) (pc := 12) dX11_stings_12 <|
pw_iconst (v := 1) (pc := 13) dX11_stings_13 (by decide) <|
pw_iadd (pc := 14) dX11_stings_14 <|
pw_callS_ri (n := 2) (rest := [.int ((11 : Int32) + a2), .ref (pw_ad G o1)]) (tX11_least K.2.1 G (99 : Int32) ((m0 o1 ((11 : Int32) + a2).toNatClampNeg) + (1 : Int32)) m0) miX11_least mlX11_87 (pc := 15) dX11_stings_15 rfl rfl (by decide) (Nat.le_of_ble_eq_true rfl) fun y1 =>
pw_iast (pw_shRow ho1) (pc := 18) dX11_stings_18 <| pw_ltM fun m2 =>
pw_vret hH rfl (pc := 19) dX11_stings_19)
set_option maxHeartbeats 4000000 in
theorem tX11_tries (l : Launch) (G : pw_G) {o1 : Nat} (ho1 : pw_isRow o1) (m0 : pw_Mem) : PMet l G yX11_tries cX11_tries 3 (some .int) 3 [.ref (pw_ad G o1)] m0 pw_Wi (fX11_tries o1 m0) :=
  pw_met (own := RX11) (l0 := [(0, .ref (pw_ad G o1))]) rfl (by decide) rfl (Nat.le_of_ble_eq_true rfl) fun K hK hH => by
  delta fX11_tries
  exact (pw_iconst (v := 0) (pc := 0) dX11_tries_0 (by decide) <|
pw_istore_n [(1, .int (0 : Int32)), (0, .ref (pw_ad G o1))] (pc := 1) dX11_tries_1 (by decide) rfl <|
pw_iconst (v := 0) (pc := 2) dX11_tries_2 (by decide) <|
pw_istore_n [(2, .int (0 : Int32)), (1, .int (0 : Int32)), (0, .ref (pw_ad G o1))] (pc := 3) dX11_tries_3 (by decide) rfl <|
pw_lp (fun (kk35 : Int32 → Int32 → Option (Int32 × pw_Mem)) => ∀ (v1 : Int32) (v2 : Int32), PW K G RX11 cX11_tries 3 (some .int) 3 (pw_MQ K G pw_Wi) (kk35 v1 v2) 4 [(2, .int v2), (1, .int v1), (0, .ref (pw_ad G o1))] [] m0) (fun _ _ => pw_none) (fun nx3 hn4 v1 v2 => pw_iload_n (pc := 4) dX11_tries_4 0 rfl <|
pw_aload_n (pc := 5) dX11_tries_5 2 rfl <|
pw_iconst (v := 1) (pc := 6) dX11_tries_6 (by decide) <|
pw_iald (pw_shRow ho1) (pc := 7) dX11_tries_7 <|
pw_icmp_ge  (tgt := 35) (pc := 8) dX11_tries_8 (by decide) (fun h33 => pw_iconst (v := 0) (pc := 35) dX11_tries_35 (by decide) <|
pw_istore_n [(2, .int (0 : Int32)), (1, .int v1), (0, .ref (pw_ad G o1))] (pc := 36) dX11_tries_36 (by decide) rfl <|
pw_lp (fun (kk24 : Int32 → pw_Mem → Option (Int32 × pw_Mem)) => ∀ (v5 : Int32) (m6 : pw_Mem), PW K G RX11 cX11_tries 3 (some .int) 3 (pw_MQ K G pw_Wi) (kk24 v5 m6) 37 [(2, .int v5), (1, .int v1), (0, .ref (pw_ad G o1))] [] m6) (fun _ _ => pw_none) (fun nx7 hn8 v5 m6 => pw_iload_n (pc := 37) dX11_tries_37 0 rfl <|
pw_aload_n (pc := 38) dX11_tries_38 2 rfl <|
pw_iconst (v := 1) (pc := 39) dX11_tries_39 (by decide) <|
pw_iald (pw_shRow ho1) (pc := 40) dX11_tries_40 <|
pw_icmp_ge  (tgt := 91) (pc := 41) dX11_tries_41 (by decide) (fun h22 => pw_iload_n (pc := 91) dX11_tries_91 1 rfl <|
pw_iret (a := v1) (v := (v1, m6)) hH rfl (pc := 92) dX11_tries_92) (fun h23 => pw_iload_n (pc := 44) dX11_tries_44 1 rfl <|
pw_iload_n (pc := 45) dX11_tries_45 0 rfl <|
pw_callS_rz (n := 2) (rest := []) (tX11_has K.2.1 G v1 v5 m6) miX11_has mlX11_93 (pc := 46) dX11_tries_46 rfl rfl (by decide) (Nat.le_of_ble_eq_true rfl) fun y9 =>
pw_jn (fun (k12 : pw_Mem → Option (Int32 × pw_Mem)) => ∀ (m10 : pw_Mem), PW K G RX11 cX11_tries 3 (some .int) 3 (pw_MQ K G pw_Wi) (k12 m10) 85 [(2, .int v5), (1, .int v1), (0, .ref (pw_ad G o1))] [] m10) (fun m10 => pw_ltA fun x11 hxx11 => pw_iinc (v := x11) [(2, .int x11), (1, .int v1), (0, .ref (pw_ad G o1))] (pc := 85) dX11_tries_85 0 rfl (by rw [hxx11]; rfl) (by decide) rfl <|
pw_goto (tgt := 37) (pc := 88) dX11_tries_88 (by decide) <|
hn8 x11 m10) (fun k12 hk13 => pw_ifz_ne (tgt := 55) (pc := 49) dX11_tries_49 (by decide) (fun h20 => pw_aload_n (pc := 55) dX11_tries_55 2 rfl <|
pw_iload_n (pc := 56) dX11_tries_56 0 rfl <|
pw_iconst (v := 5) (pc := 57) dX11_tries_57 (by decide) <|
pw_callS_ri (n := 2) (rest := [.ref (pw_ad G o1)]) (tX11_of K.2.1 G v5 (5 : Int32) m6) miX11_of mlX11_56 (pc := 58) dX11_tries_58 rfl rfl (by decide) (Nat.le_of_ble_eq_true rfl) fun y14 =>
pw_iconst (v := 1) (pc := 61) dX11_tries_61 (by decide) <|
pw_iast (pw_shRow ho1) (pc := 62) dX11_tries_62 <| pw_ltM fun m15 =>
pw_aload_n (pc := 63) dX11_tries_63 2 rfl <|
pw_aload_n (pc := 64) dX11_tries_64 2 rfl <|
pw_iload_n (pc := 65) dX11_tries_65 0 rfl <|
pw_iconst (v := 2) (pc := 66) dX11_tries_66 (by decide) <|
pw_callS_ri (n := 2) (rest := [.ref (pw_ad G o1), .ref (pw_ad G o1)]) (tX11_of K.2.1 G v5 (2 : Int32) m15) miX11_of mlX11_56 (pc := 67) dX11_tries_67 rfl rfl (by decide) (Nat.le_of_ble_eq_true rfl) fun y16 =>
pw_iald (pw_shRow ho1) (pc := 70) dX11_tries_70 <|
pw_callS_wv (n := 2) (rest := []) (tX11_stings K.2.1 G ho1 (m15 o1 (y16).toNatClampNeg) m15) miX11_stings mlX11_97 (pc := 71) dX11_tries_71 rfl rfl (by decide) (Nat.le_of_ble_eq_true rfl) fun m17 =>
pw_aload_n (pc := 74) dX11_tries_74 2 rfl <|
pw_aload_n (pc := 75) dX11_tries_75 2 rfl <|
pw_iload_n (pc := 76) dX11_tries_76 0 rfl <|
pw_iconst (v := 3) (pc := 77) dX11_tries_77 (by decide) <|
pw_callS_ri (n := 2) (rest := [.ref (pw_ad G o1), .ref (pw_ad G o1)]) (tX11_of K.2.1 G v5 (3 : Int32) m17) miX11_of mlX11_56 (pc := 78) dX11_tries_78 rfl rfl (by decide) (Nat.le_of_ble_eq_true rfl) fun y18 =>
pw_iald (pw_shRow ho1) (pc := 81) dX11_tries_81 <|
pw_callS_wv (n := 2) (rest := []) (tX11_stings K.2.1 G ho1 (m17 o1 (y18).toNatClampNeg) m17) miX11_stings mlX11_97 (pc := 82) dX11_tries_82 rfl rfl (by decide) (Nat.le_of_ble_eq_true rfl) fun m19 =>
hk13 m19) (fun h21 => pw_goto (tgt := 85) (pc := 52) dX11_tries_52 (by decide) <|
hk13 m6)))) FU (0 : Int32) m0) (fun h34 => pw_iload_n (pc := 11) dX11_tries_11 1 rfl <|
pw_aload_n (pc := 12) dX11_tries_12 2 rfl <|
pw_iload_n (pc := 13) dX11_tries_13 0 rfl <|
pw_callS_rz (n := 2) (rest := [.int v1]) (tX11_isOver K.2.1 G ho1 v2 m0) miX11_isOver mlX11_90 (pc := 14) dX11_tries_14 rfl rfl (by decide) (Nat.le_of_ble_eq_true rfl) fun y25 =>
pw_jn (fun (k29 : Int32 → Option (Int32 × pw_Mem)) => ∀ (w26 : Int32), PW K G RX11 cX11_tries 3 (some .int) 3 (pw_MQ K G pw_Wi) (k29 w26) 27 [(2, .int v2), (0, .ref (pw_ad G o1))] [.int w26, .int v1] m0) (fun w26 => pw_ior (pc := 27) dX11_tries_27 <|
pw_ltI fun x27 => pw_istore_n [(1, .int x27), (2, .int v2), (0, .ref (pw_ad G o1))] (pc := 28) dX11_tries_28 (by decide) rfl <|
pw_ltA fun x28 hxx28 => pw_iinc (v := x28) [(2, .int x28), (1, .int x27), (0, .ref (pw_ad G o1))] (pc := 29) dX11_tries_29 1 rfl (by rw [hxx28]; rfl) (by decide) rfl <|
pw_goto (tgt := 4) (pc := 32) dX11_tries_32 (by decide) <|
hn4 x27 x28) (fun k29 hk30 => pw_ifz_eq (tgt := 26) (pc := 17) dX11_tries_17 (by decide) (fun h31 => pw_iconst (v := 1) (pc := 20) dX11_tries_20 (by decide) <|
pw_iload_n (pc := 21) dX11_tries_21 0 rfl <|
pw_ishl (pc := 22) dX11_tries_22 <|
pw_goto (tgt := 27) (pc := 23) dX11_tries_23 (by decide) <|
pw_sub [0, 2] rfl <| hk30 ((1 : Int32) <<< (v2 &&& 31))) (fun h32 => pw_iconst (v := 0) (pc := 26) dX11_tries_26 (by decide) <|
pw_sub [0, 2] rfl <| hk30 (0 : Int32))))) FU (0 : Int32) (0 : Int32))
set_option maxHeartbeats 4000000 in
theorem tX11_pulled (l : Launch) (G : pw_G) {o1 : Nat} (ho1 : pw_isRow o1) (a2 : Int32) (a3 : Int32) (m0 : pw_Mem) : PMet l G yX11_pulled cX11_pulled 6 (some .int) 3 [.ref (pw_ad G o1), .int a2, .int a3] m0 (pw_Ri m0) (fX11_pulled o1 a2 a3 m0) :=
  pw_met (own := RX11) (l0 := [(0, .ref (pw_ad G o1)), (1, .int a2), (2, .int a3)]) rfl (by decide) rfl (Nat.le_of_ble_eq_true rfl) fun K hK hH => by
  delta fX11_pulled
  exact (pw_iconst (v := 0) (pc := 0) dX11_pulled_0 (by decide) <|
pw_istore_n [(3, .int (0 : Int32)), (0, .ref (pw_ad G o1)), (1, .int a2), (2, .int a3)] (pc := 1) dX11_pulled_1 (by decide) rfl <|
pw_iconst (v := 0) (pc := 2) dX11_pulled_2 (by decide) <|
pw_istore [(4, .int (0 : Int32)), (3, .int (0 : Int32)), (0, .ref (pw_ad G o1)), (1, .int a2), (2, .int a3)] (pc := 3) dX11_pulled_3 (by decide) rfl <|
pw_lp (fun (kk29 : Int32 → Int32 → Option Int32) => ∀ (v1 : Int32) (v2 : Int32), PW K G RX11 cX11_pulled 6 (some .int) 3 (pw_MQ K G (pw_Ri m0)) (kk29 v1 v2) 5 [(4, .int v2), (3, .int v1), (0, .ref (pw_ad G o1)), (1, .int a2), (2, .int a3)] [] m0) (fun _ _ => pw_none) (fun nx3 hn4 v1 v2 => pw_iload (pc := 5) dX11_pulled_5 0 rfl <|
pw_aload_n (pc := 7) dX11_pulled_7 2 rfl <|
pw_iconst (v := 1) (pc := 8) dX11_pulled_8 (by decide) <|
pw_iald (pw_shRow ho1) (pc := 9) dX11_pulled_9 <|
pw_icmp_ge  (tgt := 95) (pc := 10) dX11_pulled_10 (by decide) (fun h27 => pw_iload_n (pc := 95) dX11_pulled_95 1 rfl <|
pw_iret (a := v1) (v := v1) hH rfl (pc := 96) dX11_pulled_96) (fun h28 => pw_aload_n (pc := 13) dX11_pulled_13 2 rfl <|
pw_iload (pc := 14) dX11_pulled_14 0 rfl <|
pw_iload_n (pc := 16) dX11_pulled_16 3 rfl <|
pw_callS_rz (n := 3) (rest := []) (tX11_isRound K.2.1 G ho1 v2 a2 m0) miX11_isRound mlX11_101 (pc := 17) dX11_pulled_17 rfl rfl (by decide) (Nat.le_of_ble_eq_true rfl) fun y5 =>
pw_jn (fun (k8 : Int32 → Option Int32) => ∀ (v6 : Int32), PW K G RX11 cX11_pulled 6 (some .int) 3 (pw_MQ K G (pw_Ri m0)) (k8 v6) 89 [(4, .int v2), (3, .int v6), (0, .ref (pw_ad G o1)), (1, .int a2), (2, .int a3)] [] m0) (fun v6 => pw_ltA fun x7 hxx7 => pw_iinc (v := x7) [(4, .int x7), (3, .int v6), (0, .ref (pw_ad G o1)), (1, .int a2), (2, .int a3)] (pc := 89) dX11_pulled_89 0 rfl (by rw [hxx7]; rfl) (by decide) rfl <|
pw_goto (tgt := 5) (pc := 92) dX11_pulled_92 (by decide) <|
hn4 v6 x7) (fun k8 hk9 => pw_ifz_ne (tgt := 26) (pc := 20) dX11_pulled_20 (by decide) (fun h25 => pw_aload_n (pc := 26) dX11_pulled_26 2 rfl <|
pw_iload (pc := 27) dX11_pulled_27 0 rfl <|
pw_iconst (v := 2) (pc := 29) dX11_pulled_29 (by decide) <|
pw_callS_ri (n := 2) (rest := [.ref (pw_ad G o1)]) (tX11_of K.2.1 G v2 (2 : Int32) m0) miX11_of mlX11_56 (pc := 30) dX11_pulled_30 rfl rfl (by decide) (Nat.le_of_ble_eq_true rfl) fun y10 =>
pw_iald (pw_shRow ho1) (pc := 33) dX11_pulled_33 <|
pw_iload_n (pc := 34) dX11_pulled_34 3 rfl <|
pw_jn (fun (k19 : Int32 → Option Int32) => ∀ (w11 : Int32), PW K G RX11 cX11_pulled 6 (some .int) 3 (pw_MQ K G (pw_Ri m0)) (k19 w11) 57 [(4, .int v2), (3, .int v1), (0, .ref (pw_ad G o1)), (1, .int a2), (2, .int a3)] [.int w11] m0) (fun w11 => pw_istore [(5, .int w11), (4, .int v2), (3, .int v1), (0, .ref (pw_ad G o1)), (1, .int a2), (2, .int a3)] (pc := 57) dX11_pulled_57 (by decide) rfl <|
pw_iload_n (pc := 59) dX11_pulled_59 2 rfl <|
pw_aload_n (pc := 60) dX11_pulled_60 3 rfl <|
pw_iconst (v := 4) (pc := 61) dX11_pulled_61 (by decide) <|
pw_iload (pc := 62) dX11_pulled_62 0 rfl <|
pw_iadd (pc := 64) dX11_pulled_64 <|
pw_iald (pw_shRow ho1) (pc := 65) dX11_pulled_65 <|
pw_aload_n (pc := 66) dX11_pulled_66 3 rfl <|
pw_iconst (v := 4) (pc := 67) dX11_pulled_67 (by decide) <|
pw_iload_n (pc := 68) dX11_pulled_68 4 rfl <|
pw_iadd (pc := 69) dX11_pulled_69 <|
pw_iald (pw_shRow ho1) (pc := 70) dX11_pulled_70 <|
pw_isub (pc := 71) dX11_pulled_71 <|
pw_iload_n (pc := 72) dX11_pulled_72 5 rfl <|
pw_imul (pc := 73) dX11_pulled_73 <|
pw_jn (fun (k14 : Int32 → Option Int32) => ∀ (w12 : Int32), PW K G RX11 cX11_pulled 6 (some .int) 3 (pw_MQ K G (pw_Ri m0)) (k14 w12) 87 [(4, .int v2), (0, .ref (pw_ad G o1)), (1, .int a2), (2, .int a3)] [.int w12, .int v1] m0) (fun w12 => pw_iadd (pc := 87) dX11_pulled_87 <|
pw_ltI fun x13 => pw_istore_n [(3, .int x13), (4, .int v2), (0, .ref (pw_ad G o1)), (1, .int a2), (2, .int a3)] (pc := 88) dX11_pulled_88 (by decide) rfl <|
pw_sub [1, 0, 2, 3, 4] rfl <| hk9 x13) (fun k14 hk15 => pw_if_le (a := (((m0 o1 ((4 : Int32) + w11).toNatClampNeg) - (m0 o1 ((4 : Int32) + a2).toNatClampNeg)) * a3)) (b := 0) (tgt := 86) (pc := 74) dX11_pulled_74 (by decide) (fun h17 => pw_iconst (v := 0) (pc := 86) dX11_pulled_86 (by decide) <|
pw_sub [1, 3, 4, 5] rfl <| hk15 (0 : Int32)) (fun h18 => pw_aload_n (pc := 77) dX11_pulled_77 3 rfl <|
pw_iload (pc := 78) dX11_pulled_78 1 rfl <|
pw_callS_ri (n := 2) (rest := [.int v1]) (tX11_pull K.2.1 G ho1 v2 m0) miX11_pull mlX11_105 (pc := 80) dX11_pulled_80 rfl rfl (by decide) (Nat.le_of_ble_eq_true rfl) fun y16 =>
pw_goto (tgt := 87) (pc := 83) dX11_pulled_83 (by decide) <|
pw_sub [1, 3, 4, 5] rfl <| hk15 y16))) (fun k19 hk20 => pw_icmp_ne  (tgt := 49) (pc := 35) dX11_pulled_35 (by decide) (fun h23 => pw_aload_n (pc := 49) dX11_pulled_49 2 rfl <|
pw_iload (pc := 50) dX11_pulled_50 0 rfl <|
pw_iconst (v := 2) (pc := 52) dX11_pulled_52 (by decide) <|
pw_callS_ri (n := 2) (rest := [.ref (pw_ad G o1)]) (tX11_of K.2.1 G v2 (2 : Int32) m0) miX11_of mlX11_56 (pc := 53) dX11_pulled_53 rfl rfl (by decide) (Nat.le_of_ble_eq_true rfl) fun y21 =>
pw_iald (pw_shRow ho1) (pc := 56) dX11_pulled_56 <|
hk20 (m0 o1 (y21).toNatClampNeg)) (fun h24 => pw_aload_n (pc := 38) dX11_pulled_38 2 rfl <|
pw_iload (pc := 39) dX11_pulled_39 0 rfl <|
pw_iconst (v := 3) (pc := 41) dX11_pulled_41 (by decide) <|
pw_callS_ri (n := 2) (rest := [.ref (pw_ad G o1)]) (tX11_of K.2.1 G v2 (3 : Int32) m0) miX11_of mlX11_56 (pc := 42) dX11_pulled_42 rfl rfl (by decide) (Nat.le_of_ble_eq_true rfl) fun y22 =>
pw_iald (pw_shRow ho1) (pc := 45) dX11_pulled_45 <|
pw_goto (tgt := 57) (pc := 46) dX11_pulled_46 (by decide) <|
hk20 (m0 o1 (y22).toNatClampNeg)))) (fun h26 => pw_goto (tgt := 89) (pc := 23) dX11_pulled_23 (by decide) <|
hk9 v1)))) FU (0 : Int32) (0 : Int32))
set_option maxHeartbeats 4000000 in
theorem tX11_goesTo (l : Launch) (G : pw_G) {o1 : Nat} (ho1 : pw_isRow o1) (a2 : Int32) (a3 : Int32) (m0 : pw_Mem) : PMet l G yX11_goesTo cX11_goesTo 3 (some .int) 4 [.ref (pw_ad G o1), .int a2, .int a3] m0 pw_Wi (fX11_goesTo o1 a2 a3 m0) :=
  pw_met (own := RX11) (l0 := [(0, .ref (pw_ad G o1)), (1, .int a2), (2, .int a3)]) rfl (by decide) rfl (Nat.le_of_ble_eq_true rfl) fun K hK hH => by
  delta fX11_goesTo
  exact (pw_aload_n (pc := 0) dX11_goesTo_0 0 rfl <|
pw_iconst (v := 4) (pc := 1) dX11_goesTo_1 (by decide) <|
pw_iload_n (pc := 2) dX11_goesTo_2 1 rfl <|
pw_iadd (pc := 3) dX11_goesTo_3 <|
pw_iload_n (pc := 4) dX11_goesTo_4 2 rfl <|
pw_iast (pw_shRow ho1) (pc := 5) dX11_goesTo_5 <| pw_ltM fun m1 =>
pw_aload_n (pc := 6) dX11_goesTo_6 0 rfl <|
pw_callS_wi (n := 1) (rest := []) (tX11_tries K.2.1 G ho1 m1) miX11_tries mlX11_108 (pc := 7) dX11_goesTo_7 rfl rfl (by decide) (Nat.le_of_ble_eq_true rfl) fun y2 m3 =>
pw_iret (a := y2) (v := (y2, m3)) hH rfl (pc := 10) dX11_goesTo_10)
set_option maxHeartbeats 4000000 in
theorem tX11_year (l : Launch) (G : pw_G) {o1 : Nat} (ho1 : pw_isRow o1) (m0 : pw_Mem) : PMet l G yX11_year cX11_year 5 (some .int) 4 [.ref (pw_ad G 71), .ref (pw_ad G o1)] m0 pw_Wi (fX11_year o1 m0) :=
  pw_met (own := RX11) (l0 := [(0, .ref (pw_ad G 71)), (1, .ref (pw_ad G o1))]) rfl (by decide) rfl (Nat.le_of_ble_eq_true rfl) fun K hK hH => by
  delta fX11_year
  exact (pw_aload_n (pc := 0) dX11_year_0 1 rfl <|
pw_iconst (v := 2) (pc := 1) dX11_year_1 (by decide) <|
pw_dup2 (pc := 2) dX11_year_2 rfl rfl <|
pw_iald (pw_shRow ho1) (pc := 3) dX11_year_3 <|
pw_iconst (v := 1) (pc := 4) dX11_year_4 (by decide) <|
pw_iadd (pc := 5) dX11_year_5 <|
pw_iast (pw_shRow ho1) (pc := 6) dX11_year_6 <| pw_ltM fun m1 =>
pw_iconst (v := 0) (pc := 7) dX11_year_7 (by decide) <|
pw_istore_n [(2, .int (0 : Int32)), (0, .ref (pw_ad G 71)), (1, .ref (pw_ad G o1))] (pc := 8) dX11_year_8 (by decide) rfl <|
pw_lp (fun (kk37 : Int32 → pw_Mem → Option (Int32 × pw_Mem)) => ∀ (v2 : Int32) (m3 : pw_Mem), PW K G RX11 cX11_year 5 (some .int) 4 (pw_MQ K G pw_Wi) (kk37 v2 m3) 9 [(2, .int v2), (0, .ref (pw_ad G 71)), (1, .ref (pw_ad G o1))] [] m3) (fun _ _ => pw_none) (fun nx4 hn5 v2 m3 => pw_iload_n (pc := 9) dX11_year_9 0 rfl <|
pw_aload_n (pc := 10) dX11_year_10 2 rfl <|
pw_iconst (v := 1) (pc := 11) dX11_year_11 (by decide) <|
pw_iald (pw_shRow ho1) (pc := 12) dX11_year_12 <|
pw_icmp_ge  (tgt := 43) (pc := 13) dX11_year_13 (by decide) (fun h35 => pw_aload_n (pc := 43) dX11_year_43 2 rfl <|
pw_callS_wi (n := 1) (rest := []) (tX11_tries K.2.1 G ho1 m3) miX11_tries mlX11_108 (pc := 44) dX11_year_44 rfl rfl (by decide) (Nat.le_of_ble_eq_true rfl) fun y6 m7 =>
pw_istore_n [(2, .int y6), (0, .ref (pw_ad G 71)), (1, .ref (pw_ad G o1))] (pc := 47) dX11_year_47 (by decide) rfl <|
pw_aload_n (pc := 48) dX11_year_48 2 rfl <|
pw_aload_n (pc := 49) dX11_year_49 1 rfl <|
pw_getR (o := 71) (k := 4) (t := 76) (pw_sh_71) cfX11 rfl (by decide) flX11_22 (pc := 50) dX11_year_50 <|
pw_callS_wv (n := 2) (rest := []) (tX11_copies K.2.1 G ho1 pw_r76 m7) miX11_copies mlX11_112 (pc := 53) dX11_year_53 rfl rfl (by decide) (Nat.le_of_ble_eq_true rfl) fun m8 =>
pw_iconst (v := 0) (pc := 56) dX11_year_56 (by decide) <|
pw_istore_n [(3, .int (0 : Int32)), (2, .int y6), (0, .ref (pw_ad G 71)), (1, .ref (pw_ad G o1))] (pc := 57) dX11_year_57 (by decide) rfl <|
pw_lp (fun (kk29 : Int32 → pw_Mem → Option (Int32 × pw_Mem)) => ∀ (v9 : Int32) (m10 : pw_Mem), PW K G RX11 cX11_year 5 (some .int) 4 (pw_MQ K G pw_Wi) (kk29 v9 m10) 58 [(3, .int v9), (2, .int y6), (0, .ref (pw_ad G 71)), (1, .ref (pw_ad G o1))] [] m10) (fun _ _ => pw_none) (fun nx11 hn12 v9 m10 => pw_iload_n (pc := 58) dX11_year_58 0 rfl <|
pw_aload_n (pc := 59) dX11_year_59 3 rfl <|
pw_iconst (v := 0) (pc := 60) dX11_year_60 (by decide) <|
pw_iald (pw_shRow ho1) (pc := 61) dX11_year_61 <|
pw_icmp_ge  (tgt := 119) (pc := 62) dX11_year_62 (by decide) (fun h27 => pw_iload_n (pc := 119) dX11_year_119 1 rfl <|
pw_aload_n (pc := 120) dX11_year_120 3 rfl <|
pw_callS_wi (n := 1) (rest := [.int y6]) (tX11_tries K.2.1 G ho1 m10) miX11_tries mlX11_108 (pc := 121) dX11_year_121 rfl rfl (by decide) (Nat.le_of_ble_eq_true rfl) fun y13 m14 =>
pw_ior (pc := 124) dX11_year_124 <|
pw_iret (a := (y6 ||| y13)) (v := (y6 ||| y13, m14)) hH rfl (pc := 125) dX11_year_125) (fun h28 => pw_aload_n (pc := 65) dX11_year_65 2 rfl <|
pw_getR (o := 71) (k := 4) (t := 76) (pw_sh_71) cfX11 rfl (by decide) flX11_22 (pc := 66) dX11_year_66 <|
pw_iload_n (pc := 69) dX11_year_69 0 rfl <|
pw_iconst (v := 1) (pc := 70) dX11_year_70 (by decide) <|
pw_callS_ri (n := 3) (rest := []) (tX11_pulled K.2.1 G pw_r76 v9 (1 : Int32) m10) miX11_pulled mlX11_116 (pc := 71) dX11_year_71 rfl rfl (by decide) (Nat.le_of_ble_eq_true rfl) fun y15 =>
pw_aload_n (pc := 74) dX11_year_74 2 rfl <|
pw_getR (o := 71) (k := 4) (t := 76) (pw_sh_71) cfX11 rfl (by decide) flX11_22 (pc := 75) dX11_year_75 <|
pw_iload_n (pc := 78) dX11_year_78 0 rfl <|
pw_iconst (v := -1) (pc := 79) dX11_year_79 (by decide) <|
pw_callS_ri (n := 3) (rest := [.int y15]) (tX11_pulled K.2.1 G pw_r76 v9 (-1 : Int32) m10) miX11_pulled mlX11_116 (pc := 80) dX11_year_80 rfl rfl (by decide) (Nat.le_of_ble_eq_true rfl) fun y16 =>
pw_isub (pc := 83) dX11_year_83 <|
pw_ltI fun x17 => pw_istore [(4, .int x17), (3, .int v9), (2, .int y6), (0, .ref (pw_ad G 71)), (1, .ref (pw_ad G o1))] (pc := 84) dX11_year_84 (by decide) rfl <|
pw_aload_n (pc := 86) dX11_year_86 4 rfl <|
pw_iconst (v := 4) (pc := 87) dX11_year_87 (by decide) <|
pw_iload_n (pc := 88) dX11_year_88 1 rfl <|
pw_iadd (pc := 89) dX11_year_89 <|
pw_dup2 (pc := 90) dX11_year_90 rfl rfl <|
pw_iald (pw_shRow ho1) (pc := 91) dX11_year_91 <|
pw_iload (pc := 92) dX11_year_92 0 rfl <|
pw_jn (fun (k21 : Int32 → Option (Int32 × pw_Mem)) => ∀ (w18 : Int32), PW K G RX11 cX11_year 5 (some .int) 4 (pw_MQ K G pw_Wi) (k21 w18) 111 [(3, .int v9), (2, .int y6), (0, .ref (pw_ad G 71)), (1, .ref (pw_ad G o1))] [.int w18, .int (m10 o1 ((4 : Int32) + v9).toNatClampNeg), .int ((4 : Int32) + v9), .ref (pw_ad G o1)] m10) (fun w18 => pw_iadd (pc := 111) dX11_year_111 <|
pw_iast (pw_shRow ho1) (pc := 112) dX11_year_112 <| pw_ltM fun m19 =>
pw_ltA fun x20 hxx20 => pw_iinc (v := x20) [(3, .int x20), (2, .int y6), (0, .ref (pw_ad G 71)), (1, .ref (pw_ad G o1))] (pc := 113) dX11_year_113 0 rfl (by rw [hxx20]; rfl) (by decide) rfl <|
pw_goto (tgt := 58) (pc := 116) dX11_year_116 (by decide) <|
hn12 x20 m19) (fun k21 hk22 => pw_if_le (a := x17) (b := 0) (tgt := 101) (pc := 94) dX11_year_94 (by decide) (fun h25 => pw_iload (pc := 101) dX11_year_101 0 rfl <|
pw_if_ge (a := x17) (b := 0) (tgt := 110) (pc := 103) dX11_year_103 (by decide) (fun h23 => pw_iconst (v := 0) (pc := 110) dX11_year_110 (by decide) <|
pw_sub [1, 2, 3, 4] rfl <| hk22 (0 : Int32)) (fun h24 => pw_iconst (v := -1) (pc := 106) dX11_year_106 (by decide) <|
pw_goto (tgt := 111) (pc := 107) dX11_year_107 (by decide) <|
pw_sub [1, 2, 3, 4] rfl <| hk22 (-1 : Int32))) (fun h26 => pw_iconst (v := 1) (pc := 97) dX11_year_97 (by decide) <|
pw_goto (tgt := 111) (pc := 98) dX11_year_98 (by decide) <|
pw_sub [1, 2, 3, 4] rfl <| hk22 (1 : Int32))))) FU (0 : Int32) m8) (fun h36 => pw_aload_n (pc := 16) dX11_year_16 2 rfl <|
pw_iload_n (pc := 17) dX11_year_17 0 rfl <|
pw_iconst (v := 4) (pc := 18) dX11_year_18 (by decide) <|
pw_callS_ri (n := 2) (rest := [.ref (pw_ad G o1)]) (tX11_of K.2.1 G v2 (4 : Int32) m3) miX11_of mlX11_56 (pc := 19) dX11_year_19 rfl rfl (by decide) (Nat.le_of_ble_eq_true rfl) fun y30 =>
pw_bipush (v := 99) (pc := 22) dX11_year_22 (by decide) <|
pw_aload_n (pc := 24) dX11_year_24 2 rfl <|
pw_iload_n (pc := 25) dX11_year_25 0 rfl <|
pw_iconst (v := 4) (pc := 26) dX11_year_26 (by decide) <|
pw_callS_ri (n := 2) (rest := [.ref (pw_ad G o1), .int (99 : Int32), .int y30, .ref (pw_ad G o1)]) (tX11_of K.2.1 G v2 (4 : Int32) m3) miX11_of mlX11_56 (pc := 27) dX11_year_27 rfl rfl (by decide) (Nat.le_of_ble_eq_true rfl) fun y31 =>
pw_iald (pw_shRow ho1) (pc := 30) dX11_year_30 <|
pw_iconst (v := 1) (pc := 31) dX11_year_31 (by decide) <|
pw_iadd (pc := 32) dX11_year_32 <|
pw_callS_ri (n := 2) (rest := [.int y30, .ref (pw_ad G o1)]) (tX11_least K.2.1 G (99 : Int32) ((m3 o1 (y31).toNatClampNeg) + (1 : Int32)) m3) miX11_least mlX11_87 (pc := 33) dX11_year_33 rfl rfl (by decide) (Nat.le_of_ble_eq_true rfl) fun y32 =>
pw_iast (pw_shRow ho1) (pc := 36) dX11_year_36 <| pw_ltM fun m33 =>
pw_ltA fun x34 hxx34 => pw_iinc (v := x34) [(2, .int x34), (0, .ref (pw_ad G 71)), (1, .ref (pw_ad G o1))] (pc := 37) dX11_year_37 0 rfl (by rw [hxx34]; rfl) (by decide) rfl <|
pw_goto (tgt := 9) (pc := 40) dX11_year_40 (by decide) <|
hn5 x34 m33)) FU (0 : Int32) m1)
set_option maxHeartbeats 4000000 in
theorem tX11_snappedSet (l : Launch) (G : pw_G) {o1 : Nat} (ho1 : pw_isRow o1) (m0 : pw_Mem) : PMet l G yX11_snappedSet cX11_snappedSet 3 (some .int) 2 [.ref (pw_ad G o1)] m0 (pw_Ri m0) (fX11_snappedSet o1 m0) :=
  pw_met (own := RX11) (l0 := [(0, .ref (pw_ad G o1))]) rfl (by decide) rfl (Nat.le_of_ble_eq_true rfl) fun K hK hH => by
  delta fX11_snappedSet
  exact (pw_iconst (v := 0) (pc := 0) dX11_snappedSet_0 (by decide) <|
pw_istore_n [(1, .int (0 : Int32)), (0, .ref (pw_ad G o1))] (pc := 1) dX11_snappedSet_1 (by decide) rfl <|
pw_iconst (v := 0) (pc := 2) dX11_snappedSet_2 (by decide) <|
pw_istore_n [(2, .int (0 : Int32)), (1, .int (0 : Int32)), (0, .ref (pw_ad G o1))] (pc := 3) dX11_snappedSet_3 (by decide) rfl <|
pw_lp (fun (kk15 : Int32 → Int32 → Option Int32) => ∀ (v1 : Int32) (v2 : Int32), PW K G RX11 cX11_snappedSet 3 (some .int) 2 (pw_MQ K G (pw_Ri m0)) (kk15 v1 v2) 4 [(2, .int v2), (1, .int v1), (0, .ref (pw_ad G o1))] [] m0) (fun _ _ => pw_none) (fun nx3 hn4 v1 v2 => pw_iload_n (pc := 4) dX11_snappedSet_4 0 rfl <|
pw_aload_n (pc := 5) dX11_snappedSet_5 2 rfl <|
pw_iconst (v := 1) (pc := 6) dX11_snappedSet_6 (by decide) <|
pw_iald (pw_shRow ho1) (pc := 7) dX11_snappedSet_7 <|
pw_icmp_ge  (tgt := 35) (pc := 8) dX11_snappedSet_8 (by decide) (fun h13 => pw_iload_n (pc := 35) dX11_snappedSet_35 1 rfl <|
pw_iret (a := v1) (v := v1) hH rfl (pc := 36) dX11_snappedSet_36) (fun h14 => pw_iload_n (pc := 11) dX11_snappedSet_11 1 rfl <|
pw_aload_n (pc := 12) dX11_snappedSet_12 2 rfl <|
pw_iload_n (pc := 13) dX11_snappedSet_13 0 rfl <|
pw_callS_rz (n := 2) (rest := [.int v1]) (tX11_isWhole K.2.1 G ho1 v2 m0) miX11_isWhole mlX11_69 (pc := 14) dX11_snappedSet_14 rfl rfl (by decide) (Nat.le_of_ble_eq_true rfl) fun y5 =>
pw_jn (fun (k9 : Int32 → Option Int32) => ∀ (w6 : Int32), PW K G RX11 cX11_snappedSet 3 (some .int) 2 (pw_MQ K G (pw_Ri m0)) (k9 w6) 27 [(2, .int v2), (0, .ref (pw_ad G o1))] [.int w6, .int v1] m0) (fun w6 => pw_ior (pc := 27) dX11_snappedSet_27 <|
pw_ltI fun x7 => pw_istore_n [(1, .int x7), (2, .int v2), (0, .ref (pw_ad G o1))] (pc := 28) dX11_snappedSet_28 (by decide) rfl <|
pw_ltA fun x8 hxx8 => pw_iinc (v := x8) [(2, .int x8), (1, .int x7), (0, .ref (pw_ad G o1))] (pc := 29) dX11_snappedSet_29 1 rfl (by rw [hxx8]; rfl) (by decide) rfl <|
pw_goto (tgt := 4) (pc := 32) dX11_snappedSet_32 (by decide) <|
hn4 x7 x8) (fun k9 hk10 => pw_ifz_eq (tgt := 24) (pc := 17) dX11_snappedSet_17 (by decide) (fun h11 => pw_iconst (v := 0) (pc := 20) dX11_snappedSet_20 (by decide) <|
pw_goto (tgt := 27) (pc := 21) dX11_snappedSet_21 (by decide) <|
pw_sub [0, 2] rfl <| hk10 (0 : Int32)) (fun h12 => pw_iconst (v := 1) (pc := 24) dX11_snappedSet_24 (by decide) <|
pw_iload_n (pc := 25) dX11_snappedSet_25 0 rfl <|
pw_ishl (pc := 26) dX11_snappedSet_26 <|
pw_sub [0, 2] rfl <| hk10 ((1 : Int32) <<< (v2 &&& 31)))))) FU (0 : Int32) (0 : Int32))
set_option maxHeartbeats 4000000 in
theorem tX11_wholeSet (l : Launch) (G : pw_G) {o1 : Nat} (ho1 : pw_isRow o1) (m0 : pw_Mem) : PMet l G yX11_wholeSet cX11_wholeSet 1 (some .int) 3 [.ref (pw_ad G o1)] m0 (pw_Ri m0) (fX11_wholeSet o1 m0) :=
  pw_met (own := RX11) (l0 := [(0, .ref (pw_ad G o1))]) rfl (by decide) rfl (Nat.le_of_ble_eq_true rfl) fun K hK hH => by
  delta fX11_wholeSet
  exact (pw_iconst (v := 1) (pc := 0) dX11_wholeSet_0 (by decide) <|
pw_aload_n (pc := 1) dX11_wholeSet_1 0 rfl <|
pw_iconst (v := 1) (pc := 2) dX11_wholeSet_2 (by decide) <|
pw_iald (pw_shRow ho1) (pc := 3) dX11_wholeSet_3 <|
pw_ishl (pc := 4) dX11_wholeSet_4 <|
pw_iconst (v := 1) (pc := 5) dX11_wholeSet_5 (by decide) <|
pw_isub (pc := 6) dX11_wholeSet_6 <|
pw_aload_n (pc := 7) dX11_wholeSet_7 0 rfl <|
pw_callS_ri (n := 1) (rest := [.int (((1 : Int32) <<< ((m0 o1 ((1 : Int32)).toNatClampNeg) &&& 31)) - (1 : Int32))]) (tX11_snappedSet K.2.1 G ho1 m0) miX11_snappedSet mlX11_120 (pc := 8) dX11_wholeSet_8 rfl rfl (by decide) (Nat.le_of_ble_eq_true rfl) fun y1 =>
pw_iconst (v := -1) (pc := 11) dX11_wholeSet_11 (by decide) <|
pw_ixor (pc := 12) dX11_wholeSet_12 <|
pw_iand (pc := 13) dX11_wholeSet_13 <|
pw_iret (a := ((((1 : Int32) <<< ((m0 o1 ((1 : Int32)).toNatClampNeg) &&& 31)) - (1 : Int32)) &&& (y1 ^^^ (-1 : Int32)))) (v := ((((1 : Int32) <<< ((m0 o1 ((1 : Int32)).toNatClampNeg) &&& 31)) - (1 : Int32)) &&& (y1 ^^^ (-1 : Int32)))) hH rfl (pc := 14) dX11_wholeSet_14)
set_option maxHeartbeats 4000000 in
theorem tX11_here (l : Launch) (G : pw_G)  (m0 : pw_Mem) : PMet l G yX11_here cX11_here 1 (some .int) 0 [.ref (pw_ad G 71)] m0 (pw_Ri m0) (fX11_here m0) :=
  pw_met (own := RX11) (l0 := [(0, .ref (pw_ad G 71))]) rfl (by decide) rfl (Nat.le_of_ble_eq_true rfl) fun K hK hH => by
  delta fX11_here
  exact (pw_aload_n (pc := 0) dX11_here_0 0 rfl <|
pw_getI (o := 71) (k := 6) (pw_sh_71) cfX11 rfl (by decide) flX11_123 (pc := 1) dX11_here_1 <|
pw_aload_n (pc := 4) dX11_here_4 0 rfl <|
pw_getI (o := 71) (k := 8) (pw_sh_71) cfX11 rfl (by decide) flX11_127 (pc := 5) dX11_here_5 <|
pw_icmp_ge  (tgt := 32) (pc := 8) dX11_here_8 (by decide) (fun h1 => pw_iconst (v := -1) (pc := 32) dX11_here_32 (by decide) <|
pw_iret (a := (-1 : Int32)) (v := (-1 : Int32)) hH rfl (pc := 33) dX11_here_33) (fun h2 => pw_aload_n (pc := 11) dX11_here_11 0 rfl <|
pw_getR (o := 71) (k := 20) (t := 85) (pw_sh_71) cfX11 rfl (by decide) flX11_49 (pc := 12) dX11_here_12 <|
pw_aload_n (pc := 15) dX11_here_15 0 rfl <|
pw_getI (o := 71) (k := 7) (pw_sh_71) cfX11 rfl (by decide) flX11_130 (pc := 16) dX11_here_16 <|
pw_aload_n (pc := 19) dX11_here_19 0 rfl <|
pw_getI (o := 71) (k := 6) (pw_sh_71) cfX11 rfl (by decide) flX11_123 (pc := 20) dX11_here_20 <|
pw_iadd (pc := 23) dX11_here_23 <|
pw_iald (pw_sh_85) (pc := 24) dX11_here_24 <|
pw_sipush (v := 255) (pc := 25) dX11_here_25 (by decide) <|
pw_iand (pc := 28) dX11_here_28 <|
pw_goto (tgt := 33) (pc := 29) dX11_here_29 (by decide) <|
pw_iret (a := ((m0 85 ((m0 71 7) + (m0 71 6)).toNatClampNeg) &&& (255 : Int32))) (v := ((m0 85 ((m0 71 7) + (m0 71 6)).toNatClampNeg) &&& (255 : Int32))) hH rfl (pc := 33) dX11_here_33))
set_option maxHeartbeats 4000000 in
theorem tX11_readsNumber (l : Launch) (G : pw_G) (a1 : Int32) (a2 : Int32) (m0 : pw_Mem) : PMet l G yX11_readsNumber cX11_readsNumber 4 (some .boolean) 1 [.ref (pw_ad G 71), .int a1, .int a2] m0 pw_Wz (fX11_readsNumber a1 a2 m0) :=
  pw_met (own := RX11) (l0 := [(0, .ref (pw_ad G 71)), (1, .int a1), (2, .int a2)]) rfl (by decide) rfl (Nat.le_of_ble_eq_true rfl) fun K hK hH => by
  delta fX11_readsNumber
  exact (pw_aload_n (pc := 0) dX11_readsNumber_0 0 rfl <|
pw_getR (o := 71) (k := 9) (t := 77) (pw_sh_71) cfX11 rfl (by decide) flX11_25 (pc := 1) dX11_readsNumber_1 <|
pw_iload_n (pc := 4) dX11_readsNumber_4 1 rfl <|
pw_iconst (v := 0) (pc := 5) dX11_readsNumber_5 (by decide) <|
pw_iast (pw_sh_77) (pc := 6) dX11_readsNumber_6 <| pw_ltM fun m1 =>
pw_iconst (v := 0) (pc := 7) dX11_readsNumber_7 (by decide) <|
pw_istore_n [(3, .int (0 : Int32)), (0, .ref (pw_ad G 71)), (1, .int a1), (2, .int a2)] (pc := 8) dX11_readsNumber_8 (by decide) rfl <|
pw_lp (fun (kk16 : Int32 → pw_Mem → Option (Bool × pw_Mem)) => ∀ (v2 : Int32) (m3 : pw_Mem), PW K G RX11 cX11_readsNumber 4 (some .boolean) 1 (pw_MQ K G pw_Wz) (kk16 v2 m3) 9 [(3, .int v2), (0, .ref (pw_ad G 71)), (1, .int a1), (2, .int a2)] [] m3) (fun _ _ => pw_none) (fun nx4 hn5 v2 m3 => pw_iload_n (pc := 9) dX11_readsNumber_9 0 rfl <|
pw_iload_n (pc := 10) dX11_readsNumber_10 3 rfl <|
pw_icmp_ge  (tgt := 69) (pc := 11) dX11_readsNumber_11 (by decide) (fun h14 => pw_iconst (v := 1) (pc := 69) dX11_readsNumber_69 (by decide) <|
pw_zret (b := true) hH rfl (pc := 70) dX11_readsNumber_70) (fun h15 => pw_aload_n (pc := 14) dX11_readsNumber_14 1 rfl <|
pw_callV_ri (n := 0) (rest := []) (tX11_here K.2.1 G m3) (pw_sh_71) cfX11 rfl miX11_here mlX11_133 (pc := 15) dX11_readsNumber_15 rfl rfl (by decide) (Nat.le_of_ble_eq_true rfl) fun y6 =>
pw_bipush (v := 48) (pc := 18) dX11_readsNumber_18 (by decide) <|
pw_bipush (v := 57) (pc := 20) dX11_readsNumber_20 (by decide) <|
pw_callS_rz (n := 3) (rest := []) (tX11_isIn K.2.1 G y6 (48 : Int32) (57 : Int32) m3) miX11_isIn mlX11_52 (pc := 22) dX11_readsNumber_22 rfl rfl (by decide) (Nat.le_of_ble_eq_true rfl) fun y7 =>
pw_ifz_ne (tgt := 30) (pc := 25) dX11_readsNumber_25 (by decide) (fun h12 => pw_aload_n (pc := 30) dX11_readsNumber_30 1 rfl <|
pw_getR (o := 71) (k := 9) (t := 77) (pw_sh_71) cfX11 rfl (by decide) flX11_25 (pc := 31) dX11_readsNumber_31 <|
pw_iload_n (pc := 34) dX11_readsNumber_34 2 rfl <|
pw_bipush (v := 10) (pc := 35) dX11_readsNumber_35 (by decide) <|
pw_aload_n (pc := 37) dX11_readsNumber_37 1 rfl <|
pw_getR (o := 71) (k := 9) (t := 77) (pw_sh_71) cfX11 rfl (by decide) flX11_25 (pc := 38) dX11_readsNumber_38 <|
pw_iload_n (pc := 41) dX11_readsNumber_41 2 rfl <|
pw_iald (pw_sh_77) (pc := 42) dX11_readsNumber_42 <|
pw_imul (pc := 43) dX11_readsNumber_43 <|
pw_aload_n (pc := 44) dX11_readsNumber_44 1 rfl <|
pw_callV_ri (n := 0) (rest := [.int ((10 : Int32) * (m3 77 (a1).toNatClampNeg)), .int a1, .ref (pw_ad G 77)]) (tX11_here K.2.1 G m3) (pw_sh_71) cfX11 rfl miX11_here mlX11_133 (pc := 45) dX11_readsNumber_45 rfl rfl (by decide) (Nat.le_of_ble_eq_true rfl) fun y8 =>
pw_iadd (pc := 48) dX11_readsNumber_48 <|
pw_bipush (v := 48) (pc := 49) dX11_readsNumber_49 (by decide) <|
pw_isub (pc := 51) dX11_readsNumber_51 <|
pw_iast (pw_sh_77) (pc := 52) dX11_readsNumber_52 <| pw_ltM fun m9 =>
pw_aload_n (pc := 53) dX11_readsNumber_53 1 rfl <|
pw_dup (pc := 54) dX11_readsNumber_54 rfl <|
pw_getI (o := 71) (k := 6) (pw_sh_71) cfX11 rfl (by decide) flX11_123 (pc := 55) dX11_readsNumber_55 <|
pw_iconst (v := 1) (pc := 58) dX11_readsNumber_58 (by decide) <|
pw_iadd (pc := 59) dX11_readsNumber_59 <|
pw_putI (o := 71) (k := 6) (pw_sh_71) cfX11 rfl (by decide) flX11_123 rfl (ft := .int) rfl rfl rfl (pc := 60) dX11_readsNumber_60 <|
pw_ltM fun m10 => pw_ltA fun x11 hxx11 => pw_iinc (v := x11) [(3, .int x11), (0, .ref (pw_ad G 71)), (1, .int a1), (2, .int a2)] (pc := 63) dX11_readsNumber_63 0 rfl (by rw [hxx11]; rfl) (by decide) rfl <|
pw_goto (tgt := 9) (pc := 66) dX11_readsNumber_66 (by decide) <|
hn5 x11 m10) (fun h13 => pw_iconst (v := 0) (pc := 28) dX11_readsNumber_28 (by decide) <|
pw_zret (b := false) hH rfl (pc := 29) dX11_readsNumber_29))) FU (0 : Int32) m1)
set_option maxHeartbeats 4000000 in
theorem tX11_readsStatement (l : Launch) (G : pw_G)  (m0 : pw_Mem) : PMet l G yX11_readsStatement cX11_readsStatement 3 (some .boolean) 2 [.ref (pw_ad G 71)] m0 pw_Wz (fX11_readsStatement m0) :=
  pw_met (own := RX11) (l0 := [(0, .ref (pw_ad G 71))]) rfl (by decide) rfl (Nat.le_of_ble_eq_true rfl) fun K hK hH => by
  delta fX11_readsStatement
  exact (pw_aload_n (pc := 0) dX11_readsStatement_0 0 rfl <|
pw_callV_ri (n := 0) (rest := []) (tX11_here K.2.1 G m0) (pw_sh_71) cfX11 rfl miX11_here mlX11_133 (pc := 1) dX11_readsStatement_1 rfl rfl (by decide) (Nat.le_of_ble_eq_true rfl) fun y1 =>
pw_istore_n [(1, .int y1), (0, .ref (pw_ad G 71))] (pc := 4) dX11_readsStatement_4 (by decide) rfl <|
pw_aload_n (pc := 5) dX11_readsStatement_5 1 rfl <|
pw_dup (pc := 6) dX11_readsStatement_6 rfl <|
pw_getI (o := 71) (k := 6) (pw_sh_71) cfX11 rfl (by decide) flX11_123 (pc := 7) dX11_readsStatement_7 <|
pw_iconst (v := 1) (pc := 10) dX11_readsStatement_10 (by decide) <|
pw_iadd (pc := 11) dX11_readsStatement_11 <|
pw_putI (o := 71) (k := 6) (pw_sh_71) cfX11 rfl (by decide) flX11_123 rfl (ft := .int) rfl rfl rfl (pc := 12) dX11_readsStatement_12 <|
pw_ltM fun m2 => pw_iload_n (pc := 15) dX11_readsStatement_15 0 rfl <|
pw_jn (fun (k11 : Int32 → pw_Mem → Option (Bool × pw_Mem)) => ∀ (v3 : Int32) (m4 : pw_Mem), PW K G RX11 cX11_readsStatement 3 (some .boolean) 2 (pw_MQ K G pw_Wz) (k11 v3 m4) 180 [(0, .ref (pw_ad G 71)), (2, .int v3)] [] m4) (fun v3 m4 => pw_iload_n (pc := 180) dX11_readsStatement_180 1 rfl <|
pw_if_eq (a := v3) (b := 0) (tgt := 193) (pc := 181) dX11_readsStatement_181 (by decide) (fun h9 => pw_iconst (v := 0) (pc := 193) dX11_readsStatement_193 (by decide) <|
pw_zret (b := false) hH rfl (pc := 194) dX11_readsStatement_194) (fun h10 => pw_aload_n (pc := 184) dX11_readsStatement_184 0 rfl <|
pw_callV_ri (n := 0) (rest := []) (tX11_here K.2.1 G m4) (pw_sh_71) cfX11 rfl miX11_here mlX11_133 (pc := 185) dX11_readsStatement_185 rfl rfl (by decide) (Nat.le_of_ble_eq_true rfl) fun y5 =>
pw_bipush (v := 59) (pc := 188) dX11_readsStatement_188 (by decide) <|
pw_icmp_eq  (tgt := 195) (pc := 190) dX11_readsStatement_190 (by decide) (fun h7 => pw_aload_n (pc := 195) dX11_readsStatement_195 0 rfl <|
pw_dup (pc := 196) dX11_readsStatement_196 rfl <|
pw_getI (o := 71) (k := 6) (pw_sh_71) cfX11 rfl (by decide) flX11_123 (pc := 197) dX11_readsStatement_197 <|
pw_iconst (v := 1) (pc := 200) dX11_readsStatement_200 (by decide) <|
pw_iadd (pc := 201) dX11_readsStatement_201 <|
pw_putI (o := 71) (k := 6) (pw_sh_71) cfX11 rfl (by decide) flX11_123 rfl (ft := .int) rfl rfl rfl (pc := 202) dX11_readsStatement_202 <|
pw_ltM fun m6 => pw_iconst (v := 1) (pc := 205) dX11_readsStatement_205 (by decide) <|
pw_zret (b := true) hH rfl (pc := 206) dX11_readsStatement_206) (fun h8 => pw_iconst (v := 0) (pc := 193) dX11_readsStatement_193 (by decide) <|
pw_zret (b := false) hH rfl (pc := 194) dX11_readsStatement_194))) (fun k11 hk12 => pw_jn (fun (k15 : Option (Bool × pw_Mem)) => PW K G RX11 cX11_readsStatement 3 (some .boolean) 2 (pw_MQ K G pw_Wz) k15 158 [(0, .ref (pw_ad G 71))] [] m2) (pw_aload_n (pc := 158) dX11_readsStatement_158 0 rfl <|
pw_iconst (v := 0) (pc := 159) dX11_readsStatement_159 (by decide) <|
pw_iconst (v := 1) (pc := 160) dX11_readsStatement_160 (by decide) <|
pw_callV_wz (n := 2) (rest := []) (tX11_readsNumber K.2.1 G (0 : Int32) (1 : Int32) m2) (pw_sh_71) cfX11 rfl miX11_readsNumber mlX11_137 (pc := 161) dX11_readsStatement_161 rfl rfl (by decide) (Nat.le_of_ble_eq_true rfl) fun y13 m14 =>
pw_istore_n [(2, .int (bI y13)), (0, .ref (pw_ad G 71))] (pc := 164) dX11_readsStatement_164 (by decide) rfl <|
pw_goto (tgt := 180) (pc := 165) dX11_readsStatement_165 (by decide) <|
pw_sub [1, 0] rfl <| hk12 (bI y13) m14) (fun k15 hk16 => pw_jn (fun (k19 : Option (Bool × pw_Mem)) => PW K G RX11 cX11_readsStatement 3 (some .boolean) 2 (pw_MQ K G pw_Wz) k19 76 [(0, .ref (pw_ad G 71))] [] m2) (pw_aload_n (pc := 76) dX11_readsStatement_76 0 rfl <|
pw_iconst (v := 0) (pc := 77) dX11_readsStatement_77 (by decide) <|
pw_iconst (v := 2) (pc := 78) dX11_readsStatement_78 (by decide) <|
pw_callV_wz (n := 2) (rest := []) (tX11_readsNumber K.2.1 G (0 : Int32) (2 : Int32) m2) (pw_sh_71) cfX11 rfl miX11_readsNumber mlX11_137 (pc := 79) dX11_readsStatement_79 rfl rfl (by decide) (Nat.le_of_ble_eq_true rfl) fun y17 m18 =>
pw_istore_n [(2, .int (bI y17)), (0, .ref (pw_ad G 71))] (pc := 82) dX11_readsStatement_82 (by decide) rfl <|
pw_goto (tgt := 180) (pc := 83) dX11_readsStatement_83 (by decide) <|
pw_sub [1, 0] rfl <| hk12 (bI y17) m18) (fun k19 hk20 => pw_if (fun h44 => pw_lk (off := 70) (tgt := 86) (pc := 16) dX11_readsStatement_16 (by decide) (by rw [h44] <;> rfl) (by decide) <|
pw_aload_n (pc := 86) dX11_readsStatement_86 1 rfl <|
pw_iconst (v := 0) (pc := 87) dX11_readsStatement_87 (by decide) <|
pw_iconst (v := 1) (pc := 88) dX11_readsStatement_88 (by decide) <|
pw_callV_wz (n := 2) (rest := []) (tX11_readsNumber K.2.1 G (0 : Int32) (1 : Int32) m2) (pw_sh_71) cfX11 rfl miX11_readsNumber mlX11_137 (pc := 89) dX11_readsStatement_89 rfl rfl (by decide) (Nat.le_of_ble_eq_true rfl) fun y21 m22 =>
pw_jn (fun (k25 : Int32 → pw_Mem → Option (Bool × pw_Mem)) => ∀ (w23 : Int32) (m24 : pw_Mem), PW K G RX11 cX11_readsStatement 3 (some .boolean) 2 (pw_MQ K G pw_Wz) (k25 w23 m24) 127 [(0, .ref (pw_ad G 71))] [.int w23] m24) (fun w23 m24 => pw_istore_n [(2, .int w23), (0, .ref (pw_ad G 71))] (pc := 127) dX11_readsStatement_127 (by decide) rfl <|
pw_goto (tgt := 180) (pc := 128) dX11_readsStatement_128 (by decide) <|
pw_sub [1, 0] rfl <| hk12 w23 m24) (fun k25 hk26 => pw_jn (fun (k28 : pw_Mem → Option (Bool × pw_Mem)) => ∀ (m27 : pw_Mem), PW K G RX11 cX11_readsStatement 3 (some .boolean) 2 (pw_MQ K G pw_Wz) (k28 m27) 126 [(0, .ref (pw_ad G 71))] [] m27) (fun m27 => pw_iconst (v := 0) (pc := 126) dX11_readsStatement_126 (by decide) <|
hk26 (0 : Int32) m27) (fun k28 hk29 => pw_ifz_eq (tgt := 126) (pc := 92) dX11_readsStatement_92 (by decide) (fun h42 => pw_aload_n (pc := 95) dX11_readsStatement_95 1 rfl <|
pw_iconst (v := 1) (pc := 96) dX11_readsStatement_96 (by decide) <|
pw_iconst (v := 1) (pc := 97) dX11_readsStatement_97 (by decide) <|
pw_callV_wz (n := 2) (rest := []) (tX11_readsNumber K.2.1 G (1 : Int32) (1 : Int32) m22) (pw_sh_71) cfX11 rfl miX11_readsNumber mlX11_137 (pc := 98) dX11_readsStatement_98 rfl rfl (by decide) (Nat.le_of_ble_eq_true rfl) fun y30 m31 =>
pw_ifz_eq (tgt := 126) (pc := 101) dX11_readsStatement_101 (by decide) (fun h40 => pw_aload_n (pc := 104) dX11_readsStatement_104 1 rfl <|
pw_iconst (v := 2) (pc := 105) dX11_readsStatement_105 (by decide) <|
pw_iconst (v := 1) (pc := 106) dX11_readsStatement_106 (by decide) <|
pw_callV_wz (n := 2) (rest := []) (tX11_readsNumber K.2.1 G (2 : Int32) (1 : Int32) m31) (pw_sh_71) cfX11 rfl miX11_readsNumber mlX11_137 (pc := 107) dX11_readsStatement_107 rfl rfl (by decide) (Nat.le_of_ble_eq_true rfl) fun y32 m33 =>
pw_ifz_eq (tgt := 126) (pc := 110) dX11_readsStatement_110 (by decide) (fun h38 => pw_aload_n (pc := 113) dX11_readsStatement_113 1 rfl <|
pw_iconst (v := 3) (pc := 114) dX11_readsStatement_114 (by decide) <|
pw_iconst (v := 1) (pc := 115) dX11_readsStatement_115 (by decide) <|
pw_callV_wz (n := 2) (rest := []) (tX11_readsNumber K.2.1 G (3 : Int32) (1 : Int32) m33) (pw_sh_71) cfX11 rfl miX11_readsNumber mlX11_137 (pc := 116) dX11_readsStatement_116 rfl rfl (by decide) (Nat.le_of_ble_eq_true rfl) fun y34 m35 =>
pw_ifz_eq (tgt := 126) (pc := 119) dX11_readsStatement_119 (by decide) (fun h36 => pw_iconst (v := 1) (pc := 122) dX11_readsStatement_122 (by decide) <|
pw_goto (tgt := 127) (pc := 123) dX11_readsStatement_123 (by decide) <|
pw_sub [1] rfl <| hk26 (1 : Int32) m35) (fun h37 => pw_sub [1] rfl <| hk29 m35)) (fun h39 => pw_sub [1] rfl <| hk29 m33)) (fun h41 => pw_sub [1] rfl <| hk29 m31)) (fun h43 => pw_sub [1] rfl <| hk29 m22)))) (fun h44 => pw_if (fun h45 => pw_lk (off := 142) (tgt := 158) (pc := 16) dX11_readsStatement_16 (by decide) (by rw [h45] <;> rfl) (by decide) <|
pw_sub [1] rfl <| hk16) (fun h45 => pw_if (fun h61 => pw_lk (off := 115) (tgt := 131) (pc := 16) dX11_readsStatement_16 (by decide) (by rw [h61] <;> rfl) (by decide) <|
pw_aload_n (pc := 131) dX11_readsStatement_131 1 rfl <|
pw_iconst (v := 0) (pc := 132) dX11_readsStatement_132 (by decide) <|
pw_iconst (v := 1) (pc := 133) dX11_readsStatement_133 (by decide) <|
pw_callV_wz (n := 2) (rest := []) (tX11_readsNumber K.2.1 G (0 : Int32) (1 : Int32) m2) (pw_sh_71) cfX11 rfl miX11_readsNumber mlX11_137 (pc := 134) dX11_readsStatement_134 rfl rfl (by decide) (Nat.le_of_ble_eq_true rfl) fun y46 m47 =>
pw_jn (fun (k50 : Int32 → pw_Mem → Option (Bool × pw_Mem)) => ∀ (w48 : Int32) (m49 : pw_Mem), PW K G RX11 cX11_readsStatement 3 (some .boolean) 2 (pw_MQ K G pw_Wz) (k50 w48 m49) 154 [(0, .ref (pw_ad G 71))] [.int w48] m49) (fun w48 m49 => pw_istore_n [(2, .int w48), (0, .ref (pw_ad G 71))] (pc := 154) dX11_readsStatement_154 (by decide) rfl <|
pw_goto (tgt := 180) (pc := 155) dX11_readsStatement_155 (by decide) <|
pw_sub [1, 0] rfl <| hk12 w48 m49) (fun k50 hk51 => pw_jn (fun (k53 : pw_Mem → Option (Bool × pw_Mem)) => ∀ (m52 : pw_Mem), PW K G RX11 cX11_readsStatement 3 (some .boolean) 2 (pw_MQ K G pw_Wz) (k53 m52) 153 [(0, .ref (pw_ad G 71))] [] m52) (fun m52 => pw_iconst (v := 0) (pc := 153) dX11_readsStatement_153 (by decide) <|
hk51 (0 : Int32) m52) (fun k53 hk54 => pw_ifz_eq (tgt := 153) (pc := 137) dX11_readsStatement_137 (by decide) (fun h59 => pw_aload_n (pc := 140) dX11_readsStatement_140 1 rfl <|
pw_iconst (v := 1) (pc := 141) dX11_readsStatement_141 (by decide) <|
pw_iconst (v := 2) (pc := 142) dX11_readsStatement_142 (by decide) <|
pw_callV_wz (n := 2) (rest := []) (tX11_readsNumber K.2.1 G (1 : Int32) (2 : Int32) m47) (pw_sh_71) cfX11 rfl miX11_readsNumber mlX11_137 (pc := 143) dX11_readsStatement_143 rfl rfl (by decide) (Nat.le_of_ble_eq_true rfl) fun y55 m56 =>
pw_ifz_eq (tgt := 153) (pc := 146) dX11_readsStatement_146 (by decide) (fun h57 => pw_iconst (v := 1) (pc := 149) dX11_readsStatement_149 (by decide) <|
pw_goto (tgt := 154) (pc := 150) dX11_readsStatement_150 (by decide) <|
pw_sub [1] rfl <| hk51 (1 : Int32) m56) (fun h58 => pw_sub [1] rfl <| hk54 m56)) (fun h60 => pw_sub [1] rfl <| hk54 m47)))) (fun h61 => pw_if (fun h62 => pw_lk (off := 60) (tgt := 76) (pc := 16) dX11_readsStatement_16 (by decide) (by rw [h62] <;> rfl) (by decide) <|
pw_sub [1] rfl <| hk20) (fun h62 => pw_if (fun h63 => pw_lk (off := 142) (tgt := 158) (pc := 16) dX11_readsStatement_16 (by decide) (by rw [h63] <;> rfl) (by decide) <|
pw_sub [1] rfl <| hk16) (fun h63 => pw_if (fun h64 => pw_lk (off := 60) (tgt := 76) (pc := 16) dX11_readsStatement_16 (by decide) (by rw [h64] <;> rfl) (by decide) <|
pw_sub [1] rfl <| hk20) (fun h64 => pw_lk (off := 152) (tgt := 168) (pc := 16) dX11_readsStatement_16 (by decide) ((lv_osw h44 (a := 98) rfl).trans ((lv_osw h45 (a := 99) rfl).trans ((lv_osw h61 (a := 103) rfl).trans ((lv_osw h62 (a := 112) rfl).trans ((lv_osw h63 (a := 120) rfl).trans ((lv_osw h64 (a := 121) rfl).trans rfl)))))) (by decide) <|
pw_aload_n (pc := 168) dX11_readsStatement_168 1 rfl <|
pw_dup (pc := 169) dX11_readsStatement_169 rfl <|
pw_getI (o := 71) (k := 6) (pw_sh_71) cfX11 rfl (by decide) flX11_123 (pc := 170) dX11_readsStatement_170 <|
pw_iconst (v := 1) (pc := 173) dX11_readsStatement_173 (by decide) <|
pw_isub (pc := 174) dX11_readsStatement_174 <|
pw_putI (o := 71) (k := 6) (pw_sh_71) cfX11 rfl (by decide) flX11_123 rfl (ft := .int) rfl rfl rfl (pc := 175) dX11_readsStatement_175 <|
pw_ltM fun m65 => pw_iconst (v := 0) (pc := 178) dX11_readsStatement_178 (by decide) <|
pw_zret (b := false) hH rfl (pc := 179) dX11_readsStatement_179))))))))))
set_option maxHeartbeats 4000000 in
theorem tX11_adds (l : Launch) (G : pw_G) (a1 : Int32) (a2 : Int32) (a3 : Int32) (a4 : Int32) (m0 : pw_Mem) : PMet l G yX11_adds cX11_adds 7 (none) 4 [.ref (pw_ad G 71), .int a1, .int a2, .int a3, .int a4] m0 pw_Wv (fX11_adds a1 a2 a3 a4 m0) :=
  pw_met (own := RX11) (l0 := [(0, .ref (pw_ad G 71)), (1, .int a1), (2, .int a2), (3, .int a3), (4, .int a4)]) rfl (by decide) rfl (Nat.le_of_ble_eq_true rfl) fun K hK hH => by
  delta fX11_adds
  exact (pw_aload_n (pc := 0) dX11_adds_0 0 rfl <|
pw_getR (o := 71) (k := 0) (t := 72) (pw_sh_71) cfX11 rfl (by decide) flX11_9 (pc := 1) dX11_adds_1 <|
pw_iconst (v := 1) (pc := 4) dX11_adds_4 (by decide) <|
pw_iald (pw_shRow pw_r72) (pc := 5) dX11_adds_5 <|
pw_ltI fun x1 => pw_istore [(5, .int x1), (0, .ref (pw_ad G 71)), (1, .int a1), (2, .int a2), (3, .int a3), (4, .int a4)] (pc := 6) dX11_adds_6 (by decide) rfl <|
pw_aload_n (pc := 8) dX11_adds_8 1 rfl <|
pw_getR (o := 71) (k := 0) (t := 72) (pw_sh_71) cfX11 rfl (by decide) flX11_9 (pc := 9) dX11_adds_9 <|
pw_iload (pc := 12) dX11_adds_12 0 rfl <|
pw_iconst (v := 0) (pc := 14) dX11_adds_14 (by decide) <|
pw_callS_ri (n := 2) (rest := [.ref (pw_ad G 72)]) (tX11_of K.2.1 G x1 (0 : Int32) m0) miX11_of mlX11_56 (pc := 15) dX11_adds_15 rfl rfl (by decide) (Nat.le_of_ble_eq_true rfl) fun y2 =>
pw_iload_n (pc := 18) dX11_adds_18 2 rfl <|
pw_iast (pw_shRow pw_r72) (pc := 19) dX11_adds_19 <| pw_ltM fun m3 =>
pw_aload_n (pc := 20) dX11_adds_20 1 rfl <|
pw_getR (o := 71) (k := 0) (t := 72) (pw_sh_71) cfX11 rfl (by decide) flX11_9 (pc := 21) dX11_adds_21 <|
pw_iload (pc := 24) dX11_adds_24 0 rfl <|
pw_iconst (v := 1) (pc := 26) dX11_adds_26 (by decide) <|
pw_callS_ri (n := 2) (rest := [.ref (pw_ad G 72)]) (tX11_of K.2.1 G x1 (1 : Int32) m3) miX11_of mlX11_56 (pc := 27) dX11_adds_27 rfl rfl (by decide) (Nat.le_of_ble_eq_true rfl) fun y4 =>
pw_iload_n (pc := 30) dX11_adds_30 3 rfl <|
pw_iast (pw_shRow pw_r72) (pc := 31) dX11_adds_31 <| pw_ltM fun m5 =>
pw_aload_n (pc := 32) dX11_adds_32 1 rfl <|
pw_getR (o := 71) (k := 0) (t := 72) (pw_sh_71) cfX11 rfl (by decide) flX11_9 (pc := 33) dX11_adds_33 <|
pw_iload (pc := 36) dX11_adds_36 0 rfl <|
pw_iconst (v := 2) (pc := 38) dX11_adds_38 (by decide) <|
pw_callS_ri (n := 2) (rest := [.ref (pw_ad G 72)]) (tX11_of K.2.1 G x1 (2 : Int32) m5) miX11_of mlX11_56 (pc := 39) dX11_adds_39 rfl rfl (by decide) (Nat.le_of_ble_eq_true rfl) fun y6 =>
pw_iload_n (pc := 42) dX11_adds_42 4 rfl <|
pw_iast (pw_shRow pw_r72) (pc := 43) dX11_adds_43 <| pw_ltM fun m7 =>
pw_aload_n (pc := 44) dX11_adds_44 1 rfl <|
pw_getR (o := 71) (k := 0) (t := 72) (pw_sh_71) cfX11 rfl (by decide) flX11_9 (pc := 45) dX11_adds_45 <|
pw_iload (pc := 48) dX11_adds_48 0 rfl <|
pw_iconst (v := 3) (pc := 50) dX11_adds_50 (by decide) <|
pw_callS_ri (n := 2) (rest := [.ref (pw_ad G 72)]) (tX11_of K.2.1 G x1 (3 : Int32) m7) miX11_of mlX11_56 (pc := 51) dX11_adds_51 rfl rfl (by decide) (Nat.le_of_ble_eq_true rfl) fun y8 =>
pw_iload (pc := 54) dX11_adds_54 5 rfl <|
pw_iast (pw_shRow pw_r72) (pc := 56) dX11_adds_56 <| pw_ltM fun m9 =>
pw_aload_n (pc := 57) dX11_adds_57 1 rfl <|
pw_getR (o := 71) (k := 0) (t := 72) (pw_sh_71) cfX11 rfl (by decide) flX11_9 (pc := 58) dX11_adds_58 <|
pw_iload (pc := 61) dX11_adds_61 0 rfl <|
pw_iconst (v := 4) (pc := 63) dX11_adds_63 (by decide) <|
pw_callS_ri (n := 2) (rest := [.ref (pw_ad G 72)]) (tX11_of K.2.1 G x1 (4 : Int32) m9) miX11_of mlX11_56 (pc := 64) dX11_adds_64 rfl rfl (by decide) (Nat.le_of_ble_eq_true rfl) fun y10 =>
pw_iconst (v := 0) (pc := 67) dX11_adds_67 (by decide) <|
pw_iast (pw_shRow pw_r72) (pc := 68) dX11_adds_68 <| pw_ltM fun m11 =>
pw_aload_n (pc := 69) dX11_adds_69 1 rfl <|
pw_getR (o := 71) (k := 0) (t := 72) (pw_sh_71) cfX11 rfl (by decide) flX11_9 (pc := 70) dX11_adds_70 <|
pw_iload (pc := 73) dX11_adds_73 0 rfl <|
pw_iconst (v := 5) (pc := 75) dX11_adds_75 (by decide) <|
pw_callS_ri (n := 2) (rest := [.ref (pw_ad G 72)]) (tX11_of K.2.1 G x1 (5 : Int32) m11) miX11_of mlX11_56 (pc := 76) dX11_adds_76 rfl rfl (by decide) (Nat.le_of_ble_eq_true rfl) fun y12 =>
pw_iconst (v := 0) (pc := 79) dX11_adds_79 (by decide) <|
pw_iast (pw_shRow pw_r72) (pc := 80) dX11_adds_80 <| pw_ltM fun m13 =>
pw_aload_n (pc := 81) dX11_adds_81 1 rfl <|
pw_getR (o := 71) (k := 0) (t := 72) (pw_sh_71) cfX11 rfl (by decide) flX11_9 (pc := 82) dX11_adds_82 <|
pw_iconst (v := 1) (pc := 85) dX11_adds_85 (by decide) <|
pw_dup2 (pc := 86) dX11_adds_86 rfl rfl <|
pw_iald (pw_shRow pw_r72) (pc := 87) dX11_adds_87 <|
pw_iconst (v := 1) (pc := 88) dX11_adds_88 (by decide) <|
pw_iadd (pc := 89) dX11_adds_89 <|
pw_iast (pw_shRow pw_r72) (pc := 90) dX11_adds_90 <| pw_ltM fun m14 =>
pw_aload_n (pc := 91) dX11_adds_91 1 rfl <|
pw_getR (o := 71) (k := 0) (t := 72) (pw_sh_71) cfX11 rfl (by decide) flX11_9 (pc := 92) dX11_adds_92 <|
pw_callS_wi (n := 1) (rest := []) (tX11_tries K.2.1 G pw_r72 m14) miX11_tries mlX11_108 (pc := 95) dX11_adds_95 rfl rfl (by decide) (Nat.le_of_ble_eq_true rfl) fun y15 m16 =>
pw_istore [(6, .int y15), (5, .int x1), (0, .ref (pw_ad G 71)), (1, .int a1), (2, .int a2), (3, .int a3), (4, .int a4)] (pc := 98) dX11_adds_98 (by decide) rfl <|
pw_vret hH rfl (pc := 100) dX11_adds_100)
set_option maxHeartbeats 4000000 in
theorem tX11_addsPerson (l : Launch) (G : pw_G) (a1 : Int32) (m0 : pw_Mem) : PMet l G yX11_addsPerson cX11_addsPerson 2 (none) 0 [.ref (pw_ad G 71), .int a1] m0 pw_Wv (fX11_addsPerson a1 m0) :=
  pw_met (own := RX11) (l0 := [(0, .ref (pw_ad G 71)), (1, .int a1)]) rfl (by decide) rfl (Nat.le_of_ble_eq_true rfl) fun K hK hH => by
  delta fX11_addsPerson
  exact (pw_aload_n (pc := 0) dX11_addsPerson_0 0 rfl <|
pw_getR (o := 71) (k := 0) (t := 72) (pw_sh_71) cfX11 rfl (by decide) flX11_9 (pc := 1) dX11_addsPerson_1 <|
pw_iconst (v := 4) (pc := 4) dX11_addsPerson_4 (by decide) <|
pw_aload_n (pc := 5) dX11_addsPerson_5 0 rfl <|
pw_getR (o := 71) (k := 0) (t := 72) (pw_sh_71) cfX11 rfl (by decide) flX11_9 (pc := 6) dX11_addsPerson_6 <|
pw_iconst (v := 0) (pc := 9) dX11_addsPerson_9 (by decide) <|
pw_iald (pw_shRow pw_r72) (pc := 10) dX11_addsPerson_10 <|
pw_iadd (pc := 11) dX11_addsPerson_11 <|
pw_iload_n (pc := 12) dX11_addsPerson_12 1 rfl <|
pw_iast (pw_shRow pw_r72) (pc := 13) dX11_addsPerson_13 <| pw_ltM fun m1 =>
pw_aload_n (pc := 14) dX11_addsPerson_14 0 rfl <|
pw_getR (o := 71) (k := 0) (t := 72) (pw_sh_71) cfX11 rfl (by decide) flX11_9 (pc := 15) dX11_addsPerson_15 <|
pw_bipush (v := 11) (pc := 18) dX11_addsPerson_18 (by decide) <|
pw_aload_n (pc := 20) dX11_addsPerson_20 0 rfl <|
pw_getR (o := 71) (k := 0) (t := 72) (pw_sh_71) cfX11 rfl (by decide) flX11_9 (pc := 21) dX11_addsPerson_21 <|
pw_iconst (v := 0) (pc := 24) dX11_addsPerson_24 (by decide) <|
pw_iald (pw_shRow pw_r72) (pc := 25) dX11_addsPerson_25 <|
pw_iadd (pc := 26) dX11_addsPerson_26 <|
pw_iconst (v := 0) (pc := 27) dX11_addsPerson_27 (by decide) <|
pw_iast (pw_shRow pw_r72) (pc := 28) dX11_addsPerson_28 <| pw_ltM fun m2 =>
pw_aload_n (pc := 29) dX11_addsPerson_29 0 rfl <|
pw_getR (o := 71) (k := 0) (t := 72) (pw_sh_71) cfX11 rfl (by decide) flX11_9 (pc := 30) dX11_addsPerson_30 <|
pw_iconst (v := 0) (pc := 33) dX11_addsPerson_33 (by decide) <|
pw_dup2 (pc := 34) dX11_addsPerson_34 rfl rfl <|
pw_iald (pw_shRow pw_r72) (pc := 35) dX11_addsPerson_35 <|
pw_iconst (v := 1) (pc := 36) dX11_addsPerson_36 (by decide) <|
pw_iadd (pc := 37) dX11_addsPerson_37 <|
pw_iast (pw_shRow pw_r72) (pc := 38) dX11_addsPerson_38 <| pw_ltM fun m3 =>
pw_vret hH rfl (pc := 39) dX11_addsPerson_39)
set_option maxHeartbeats 4000000 in
theorem tX11_areTwo (l : Launch) (G : pw_G) (a1 : Int32) (a2 : Int32) (m0 : pw_Mem) : PMet l G yX11_areTwo cX11_areTwo 3 (some .boolean) 2 [.ref (pw_ad G 71), .int a1, .int a2] m0 (pw_Rz m0) (fX11_areTwo a1 a2 m0) :=
  pw_met (own := RX11) (l0 := [(0, .ref (pw_ad G 71)), (1, .int a1), (2, .int a2)]) rfl (by decide) rfl (Nat.le_of_ble_eq_true rfl) fun K hK hH => by
  delta fX11_areTwo
  exact (pw_aload_n (pc := 0) dX11_areTwo_0 0 rfl <|
pw_iload_n (pc := 1) dX11_areTwo_1 1 rfl <|
pw_callV_rz (n := 1) (rest := []) (tX11_isPerson K.2.1 G a1 m0) (pw_sh_71) cfX11 rfl miX11_isPerson mlX11_140 (pc := 2) dX11_areTwo_2 rfl rfl (by decide) (Nat.le_of_ble_eq_true rfl) fun y1 =>
pw_ifz_eq (tgt := 25) (pc := 5) dX11_areTwo_5 (by decide) (fun h7 => pw_aload_n (pc := 8) dX11_areTwo_8 0 rfl <|
pw_iload_n (pc := 9) dX11_areTwo_9 2 rfl <|
pw_callV_rz (n := 1) (rest := []) (tX11_isPerson K.2.1 G a2 m0) (pw_sh_71) cfX11 rfl miX11_isPerson mlX11_140 (pc := 10) dX11_areTwo_10 rfl rfl (by decide) (Nat.le_of_ble_eq_true rfl) fun y2 =>
pw_ifz_eq (tgt := 25) (pc := 13) dX11_areTwo_13 (by decide) (fun h5 => pw_iload_n (pc := 16) dX11_areTwo_16 1 rfl <|
pw_iload_n (pc := 17) dX11_areTwo_17 2 rfl <|
pw_icmp_eq  (tgt := 25) (pc := 18) dX11_areTwo_18 (by decide) (fun h3 => pw_iconst (v := 0) (pc := 25) dX11_areTwo_25 (by decide) <|
pw_zret (b := false) hH rfl (pc := 26) dX11_areTwo_26) (fun h4 => pw_iconst (v := 1) (pc := 21) dX11_areTwo_21 (by decide) <|
pw_goto (tgt := 26) (pc := 22) dX11_areTwo_22 (by decide) <|
pw_zret (b := true) hH rfl (pc := 26) dX11_areTwo_26)) (fun h6 => pw_iconst (v := 0) (pc := 25) dX11_areTwo_25 (by decide) <|
pw_zret (b := false) hH rfl (pc := 26) dX11_areTwo_26)) (fun h8 => pw_iconst (v := 0) (pc := 25) dX11_areTwo_25 (by decide) <|
pw_zret (b := false) hH rfl (pc := 26) dX11_areTwo_26))
set_option maxHeartbeats 4000000 in
theorem tX11_isDone (l : Launch) (G : pw_G) (a1 : Int32) (m0 : pw_Mem) : PMet l G yX11_isDone cX11_isDone 5 (some .boolean) 5 [.ref (pw_ad G 71), .int a1] m0 pw_Wz (fX11_isDone a1 m0) :=
  pw_met (own := RX11) (l0 := [(0, .ref (pw_ad G 71)), (1, .int a1)]) rfl (by decide) rfl (Nat.le_of_ble_eq_true rfl) fun K hK hH => by
  delta fX11_isDone
  exact (pw_aload_n (pc := 0) dX11_isDone_0 0 rfl <|
pw_getR (o := 71) (k := 9) (t := 77) (pw_sh_71) cfX11 rfl (by decide) flX11_25 (pc := 1) dX11_isDone_1 <|
pw_iconst (v := 0) (pc := 4) dX11_isDone_4 (by decide) <|
pw_iald (pw_sh_77) (pc := 5) dX11_isDone_5 <|
pw_ltI fun x1 => pw_istore_n [(2, .int x1), (0, .ref (pw_ad G 71)), (1, .int a1)] (pc := 6) dX11_isDone_6 (by decide) rfl <|
pw_iconst (v := 0) (pc := 7) dX11_isDone_7 (by decide) <|
pw_istore_n [(3, .int (0 : Int32)), (2, .int x1), (0, .ref (pw_ad G 71)), (1, .int a1)] (pc := 8) dX11_isDone_8 (by decide) rfl <|
pw_iload_n (pc := 9) dX11_isDone_9 3 rfl <|
pw_if (fun h10 => pw_lk (off := 77) (tgt := 87) (pc := 10) dX11_isDone_10 (by decide) (by rw [h10] <;> rfl) (by decide) <|
pw_iload_n (pc := 87) dX11_isDone_87 1 rfl <|
pw_bipush (v := 8) (pc := 88) dX11_isDone_88 (by decide) <|
pw_icmp_ge  (tgt := 123) (pc := 90) dX11_isDone_90 (by decide) (fun h8 => pw_iconst (v := 0) (pc := 123) dX11_isDone_123 (by decide) <|
pw_zret (b := false) hH rfl (pc := 124) dX11_isDone_124) (fun h9 => pw_aload_n (pc := 93) dX11_isDone_93 2 rfl <|
pw_aload_n (pc := 94) dX11_isDone_94 2 rfl <|
pw_getR (o := 71) (k := 9) (t := 77) (pw_sh_71) cfX11 rfl (by decide) flX11_25 (pc := 95) dX11_isDone_95 <|
pw_iconst (v := 2) (pc := 98) dX11_isDone_98 (by decide) <|
pw_iald (pw_sh_77) (pc := 99) dX11_isDone_99 <|
pw_aload_n (pc := 100) dX11_isDone_100 2 rfl <|
pw_getR (o := 71) (k := 9) (t := 77) (pw_sh_71) cfX11 rfl (by decide) flX11_25 (pc := 101) dX11_isDone_101 <|
pw_iconst (v := 3) (pc := 104) dX11_isDone_104 (by decide) <|
pw_iald (pw_sh_77) (pc := 105) dX11_isDone_105 <|
pw_callV_rz (n := 2) (rest := []) (tX11_areTwo K.2.1 G (m0 77 ((2 : Int32)).toNatClampNeg) (m0 77 ((3 : Int32)).toNatClampNeg) m0) (pw_sh_71) cfX11 rfl miX11_areTwo mlX11_151 (pc := 106) dX11_isDone_106 rfl rfl (by decide) (Nat.le_of_ble_eq_true rfl) fun y2 =>
pw_ifz_eq (tgt := 123) (pc := 109) dX11_isDone_109 (by decide) (fun h6 => pw_aload_n (pc := 112) dX11_isDone_112 2 rfl <|
pw_getR (o := 71) (k := 0) (t := 72) (pw_sh_71) cfX11 rfl (by decide) flX11_9 (pc := 113) dX11_isDone_113 <|
pw_iconst (v := 1) (pc := 116) dX11_isDone_116 (by decide) <|
pw_iald (pw_shRow pw_r72) (pc := 117) dX11_isDone_117 <|
pw_bipush (v := 10) (pc := 118) dX11_isDone_118 (by decide) <|
pw_icmp_ne  (tgt := 125) (pc := 120) dX11_isDone_120 (by decide) (fun h4 => pw_aload_n (pc := 125) dX11_isDone_125 2 rfl <|
pw_iload_n (pc := 126) dX11_isDone_126 1 rfl <|
pw_aload_n (pc := 127) dX11_isDone_127 2 rfl <|
pw_getR (o := 71) (k := 9) (t := 77) (pw_sh_71) cfX11 rfl (by decide) flX11_25 (pc := 128) dX11_isDone_128 <|
pw_iconst (v := 1) (pc := 131) dX11_isDone_131 (by decide) <|
pw_iald (pw_sh_77) (pc := 132) dX11_isDone_132 <|
pw_aload_n (pc := 133) dX11_isDone_133 2 rfl <|
pw_getR (o := 71) (k := 9) (t := 77) (pw_sh_71) cfX11 rfl (by decide) flX11_25 (pc := 134) dX11_isDone_134 <|
pw_iconst (v := 2) (pc := 137) dX11_isDone_137 (by decide) <|
pw_iald (pw_sh_77) (pc := 138) dX11_isDone_138 <|
pw_aload_n (pc := 139) dX11_isDone_139 2 rfl <|
pw_getR (o := 71) (k := 9) (t := 77) (pw_sh_71) cfX11 rfl (by decide) flX11_25 (pc := 140) dX11_isDone_140 <|
pw_iconst (v := 3) (pc := 143) dX11_isDone_143 (by decide) <|
pw_iald (pw_sh_77) (pc := 144) dX11_isDone_144 <|
pw_callV_wv (n := 4) (rest := []) (tX11_adds K.2.1 G x1 (m0 77 ((1 : Int32)).toNatClampNeg) (m0 77 ((2 : Int32)).toNatClampNeg) (m0 77 ((3 : Int32)).toNatClampNeg) m0) (pw_sh_71) cfX11 rfl miX11_adds mlX11_154 (pc := 145) dX11_isDone_145 rfl rfl (by decide) (Nat.le_of_ble_eq_true rfl) fun m3 =>
pw_iconst (v := 1) (pc := 148) dX11_isDone_148 (by decide) <|
pw_zret (b := true) hH rfl (pc := 149) dX11_isDone_149) (fun h5 => pw_iconst (v := 0) (pc := 123) dX11_isDone_123 (by decide) <|
pw_zret (b := false) hH rfl (pc := 124) dX11_isDone_124)) (fun h7 => pw_iconst (v := 0) (pc := 123) dX11_isDone_123 (by decide) <|
pw_zret (b := false) hH rfl (pc := 124) dX11_isDone_124))) (fun h10 => pw_if (fun h14 => pw_lk (off := 179) (tgt := 189) (pc := 10) dX11_isDone_10 (by decide) (by rw [h14] <;> rfl) (by decide) <|
pw_aload_n (pc := 189) dX11_isDone_189 2 rfl <|
pw_getR (o := 71) (k := 0) (t := 72) (pw_sh_71) cfX11 rfl (by decide) flX11_9 (pc := 190) dX11_isDone_190 <|
pw_iconst (v := 3) (pc := 193) dX11_isDone_193 (by decide) <|
pw_iload_n (pc := 194) dX11_isDone_194 1 rfl <|
pw_iast (pw_shRow pw_r72) (pc := 195) dX11_isDone_195 <| pw_ltM fun m11 =>
pw_aload_n (pc := 196) dX11_isDone_196 2 rfl <|
pw_getR (o := 71) (k := 0) (t := 72) (pw_sh_71) cfX11 rfl (by decide) flX11_9 (pc := 197) dX11_isDone_197 <|
pw_callS_wi (n := 1) (rest := []) (tX11_tries K.2.1 G pw_r72 m11) miX11_tries mlX11_108 (pc := 200) dX11_isDone_200 rfl rfl (by decide) (Nat.le_of_ble_eq_true rfl) fun y12 m13 =>
pw_istore_n [(3, .int y12), (2, .int x1), (0, .ref (pw_ad G 71)), (1, .int a1)] (pc := 203) dX11_isDone_203 (by decide) rfl <|
pw_iconst (v := 1) (pc := 204) dX11_isDone_204 (by decide) <|
pw_zret (b := true) hH rfl (pc := 205) dX11_isDone_205) (fun h14 => pw_if (fun h23 => pw_lk (off := 140) (tgt := 150) (pc := 10) dX11_isDone_10 (by decide) (by rw [h23] <;> rfl) (by decide) <|
pw_aload_n (pc := 150) dX11_isDone_150 2 rfl <|
pw_iload_n (pc := 151) dX11_isDone_151 1 rfl <|
pw_callV_rz (n := 1) (rest := []) (tX11_isPerson K.2.1 G x1 m0) (pw_sh_71) cfX11 rfl miX11_isPerson mlX11_140 (pc := 152) dX11_isDone_152 rfl rfl (by decide) (Nat.le_of_ble_eq_true rfl) fun y15 =>
pw_ifz_eq (tgt := 170) (pc := 155) dX11_isDone_155 (by decide) (fun h21 => pw_aload_n (pc := 158) dX11_isDone_158 2 rfl <|
pw_getR (o := 71) (k := 9) (t := 77) (pw_sh_71) cfX11 rfl (by decide) flX11_25 (pc := 159) dX11_isDone_159 <|
pw_iconst (v := 1) (pc := 162) dX11_isDone_162 (by decide) <|
pw_iald (pw_sh_77) (pc := 163) dX11_isDone_163 <|
pw_callS_rz (n := 1) (rest := []) (tX11_isPlace K.2.1 G (m0 77 ((1 : Int32)).toNatClampNeg) m0) miX11_isPlace mlX11_144 (pc := 164) dX11_isDone_164 rfl rfl (by decide) (Nat.le_of_ble_eq_true rfl) fun y16 =>
pw_ifz_ne (tgt := 172) (pc := 167) dX11_isDone_167 (by decide) (fun h19 => pw_aload_n (pc := 172) dX11_isDone_172 2 rfl <|
pw_getR (o := 71) (k := 0) (t := 72) (pw_sh_71) cfX11 rfl (by decide) flX11_9 (pc := 173) dX11_isDone_173 <|
pw_iload_n (pc := 176) dX11_isDone_176 1 rfl <|
pw_aload_n (pc := 177) dX11_isDone_177 2 rfl <|
pw_getR (o := 71) (k := 9) (t := 77) (pw_sh_71) cfX11 rfl (by decide) flX11_25 (pc := 178) dX11_isDone_178 <|
pw_iconst (v := 1) (pc := 181) dX11_isDone_181 (by decide) <|
pw_iald (pw_sh_77) (pc := 182) dX11_isDone_182 <|
pw_callS_wi (n := 3) (rest := []) (tX11_goesTo K.2.1 G pw_r72 x1 (m0 77 ((1 : Int32)).toNatClampNeg) m0) miX11_goesTo mlX11_158 (pc := 183) dX11_isDone_183 rfl rfl (by decide) (Nat.le_of_ble_eq_true rfl) fun y17 m18 =>
pw_istore_n [(3, .int y17), (2, .int x1), (0, .ref (pw_ad G 71)), (1, .int a1)] (pc := 186) dX11_isDone_186 (by decide) rfl <|
pw_iconst (v := 1) (pc := 187) dX11_isDone_187 (by decide) <|
pw_zret (b := true) hH rfl (pc := 188) dX11_isDone_188) (fun h20 => pw_iconst (v := 0) (pc := 170) dX11_isDone_170 (by decide) <|
pw_zret (b := false) hH rfl (pc := 171) dX11_isDone_171)) (fun h22 => pw_iconst (v := 0) (pc := 170) dX11_isDone_170 (by decide) <|
pw_zret (b := false) hH rfl (pc := 171) dX11_isDone_171)) (fun h23 => pw_if (fun h30 => pw_lk (off := 50) (tgt := 60) (pc := 10) dX11_isDone_10 (by decide) (by rw [h30] <;> rfl) (by decide) <|
pw_iload_n (pc := 60) dX11_isDone_60 1 rfl <|
pw_callS_rz (n := 1) (rest := []) (tX11_isPlace K.2.1 G x1 m0) miX11_isPlace mlX11_144 (pc := 61) dX11_isDone_61 rfl rfl (by decide) (Nat.le_of_ble_eq_true rfl) fun y24 =>
pw_ifz_eq (tgt := 78) (pc := 64) dX11_isDone_64 (by decide) (fun h28 => pw_aload_n (pc := 67) dX11_isDone_67 2 rfl <|
pw_getR (o := 71) (k := 0) (t := 72) (pw_sh_71) cfX11 rfl (by decide) flX11_9 (pc := 68) dX11_isDone_68 <|
pw_iconst (v := 0) (pc := 71) dX11_isDone_71 (by decide) <|
pw_iald (pw_shRow pw_r72) (pc := 72) dX11_isDone_72 <|
pw_bipush (v := 7) (pc := 73) dX11_isDone_73 (by decide) <|
pw_icmp_ne  (tgt := 80) (pc := 75) dX11_isDone_75 (by decide) (fun h26 => pw_aload_n (pc := 80) dX11_isDone_80 2 rfl <|
pw_iload_n (pc := 81) dX11_isDone_81 1 rfl <|
pw_callV_wv (n := 1) (rest := []) (tX11_addsPerson K.2.1 G x1 m0) (pw_sh_71) cfX11 rfl miX11_addsPerson mlX11_147 (pc := 82) dX11_isDone_82 rfl rfl (by decide) (Nat.le_of_ble_eq_true rfl) fun m25 =>
pw_iconst (v := 1) (pc := 85) dX11_isDone_85 (by decide) <|
pw_zret (b := true) hH rfl (pc := 86) dX11_isDone_86) (fun h27 => pw_iconst (v := 0) (pc := 78) dX11_isDone_78 (by decide) <|
pw_zret (b := false) hH rfl (pc := 79) dX11_isDone_79)) (fun h29 => pw_iconst (v := 0) (pc := 78) dX11_isDone_78 (by decide) <|
pw_zret (b := false) hH rfl (pc := 79) dX11_isDone_79)) (fun h30 => pw_if (fun h48 => pw_lk (off := 196) (tgt := 206) (pc := 10) dX11_isDone_10 (by decide) (by rw [h48] <;> rfl) (by decide) <|
pw_iload_n (pc := 206) dX11_isDone_206 1 rfl <|
pw_iconst (v := 1) (pc := 207) dX11_isDone_207 (by decide) <|
pw_bipush (v := 60) (pc := 208) dX11_isDone_208 (by decide) <|
pw_callS_rz (n := 3) (rest := []) (tX11_isIn K.2.1 G x1 (1 : Int32) (60 : Int32) m0) miX11_isIn mlX11_52 (pc := 210) dX11_isDone_210 rfl rfl (by decide) (Nat.le_of_ble_eq_true rfl) fun y31 =>
pw_ifz_eq (tgt := 230) (pc := 213) dX11_isDone_213 (by decide) (fun h46 => pw_aload_n (pc := 216) dX11_isDone_216 2 rfl <|
pw_getR (o := 71) (k := 0) (t := 72) (pw_sh_71) cfX11 rfl (by decide) flX11_9 (pc := 217) dX11_isDone_217 <|
pw_iconst (v := 2) (pc := 220) dX11_isDone_220 (by decide) <|
pw_iald (pw_shRow pw_r72) (pc := 221) dX11_isDone_221 <|
pw_iload_n (pc := 222) dX11_isDone_222 1 rfl <|
pw_iadd (pc := 223) dX11_isDone_223 <|
pw_sipush (v := 999) (pc := 224) dX11_isDone_224 (by decide) <|
pw_icmp_le  (tgt := 232) (pc := 227) dX11_isDone_227 (by decide) (fun h44 => pw_iconst (v := 0) (pc := 232) dX11_isDone_232 (by decide) <|
pw_istore [(4, .int (0 : Int32)), (3, .int (0 : Int32)), (2, .int x1), (0, .ref (pw_ad G 71)), (1, .int a1)] (pc := 233) dX11_isDone_233 (by decide) rfl <|
pw_sub [0, 1, 2, 3] rfl <| pw_lp (fun (kk43 : Int32 → Int32 → pw_Mem → Option (Bool × pw_Mem)) => ∀ (v32 : Int32) (v33 : Int32) (m34 : pw_Mem), PW K G RX11 cX11_isDone 5 (some .boolean) 5 (pw_MQ K G pw_Wz) (kk43 v32 v33 m34) 235 [(4, .int v33), (3, .int v32), (2, .int x1), (0, .ref (pw_ad G 71))] [] m34) (fun _ _ _ => pw_none) (fun nx35 hn36 v32 v33 m34 => pw_iload (pc := 235) dX11_isDone_235 0 rfl <|
pw_iload_n (pc := 237) dX11_isDone_237 2 rfl <|
pw_icmp_ge  (tgt := 258) (pc := 238) dX11_isDone_238 (by decide) (fun h41 => pw_iconst (v := 1) (pc := 258) dX11_isDone_258 (by decide) <|
pw_zret (b := true) hH rfl (pc := 259) dX11_isDone_259) (fun h42 => pw_iload_n (pc := 241) dX11_isDone_241 1 rfl <|
pw_aload_n (pc := 242) dX11_isDone_242 3 rfl <|
pw_aload_n (pc := 243) dX11_isDone_243 3 rfl <|
pw_getR (o := 71) (k := 0) (t := 72) (pw_sh_71) cfX11 rfl (by decide) flX11_9 (pc := 244) dX11_isDone_244 <|
pw_callV_wi (n := 1) (rest := [.int v32]) (tX11_year K.2.1 G pw_r72 m34) (pw_sh_71) cfX11 rfl miX11_year mlX11_161 (pc := 247) dX11_isDone_247 rfl rfl (by decide) (Nat.le_of_ble_eq_true rfl) fun y37 m38 =>
pw_ior (pc := 250) dX11_isDone_250 <|
pw_ltI fun x39 => pw_istore_n [(3, .int x39), (4, .int v33), (2, .int x1), (0, .ref (pw_ad G 71))] (pc := 251) dX11_isDone_251 (by decide) rfl <|
pw_ltA fun x40 hxx40 => pw_iinc (v := x40) [(4, .int x40), (3, .int x39), (2, .int x1), (0, .ref (pw_ad G 71))] (pc := 252) dX11_isDone_252 1 rfl (by rw [hxx40]; rfl) (by decide) rfl <|
pw_goto (tgt := 235) (pc := 255) dX11_isDone_255 (by decide) <|
hn36 x39 x40 m38)) FU (0 : Int32) (0 : Int32) m0) (fun h45 => pw_iconst (v := 0) (pc := 230) dX11_isDone_230 (by decide) <|
pw_zret (b := false) hH rfl (pc := 231) dX11_isDone_231)) (fun h47 => pw_iconst (v := 0) (pc := 230) dX11_isDone_230 (by decide) <|
pw_zret (b := false) hH rfl (pc := 231) dX11_isDone_231)) (fun h48 => pw_lk (off := 250) (tgt := 260) (pc := 10) dX11_isDone_10 (by decide) ((lv_osw h10 (a := 98) rfl).trans ((lv_osw h14 (a := 99) rfl).trans ((lv_osw h23 (a := 103) rfl).trans ((lv_osw h30 (a := 112) rfl).trans ((lv_osw h48 (a := 121) rfl).trans rfl))))) (by decide) <|
pw_aload_n (pc := 260) dX11_isDone_260 2 rfl <|
pw_iload_n (pc := 261) dX11_isDone_261 1 rfl <|
pw_callV_rz (n := 1) (rest := []) (tX11_isBand K.2.1 G x1 m0) (pw_sh_71) cfX11 rfl miX11_isBand mlX11_164 (pc := 262) dX11_isDone_262 rfl rfl (by decide) (Nat.le_of_ble_eq_true rfl) fun y49 =>
pw_ifz_eq (tgt := 279) (pc := 265) dX11_isDone_265 (by decide) (fun h55 => pw_aload_n (pc := 268) dX11_isDone_268 2 rfl <|
pw_getR (o := 71) (k := 0) (t := 72) (pw_sh_71) cfX11 rfl (by decide) flX11_9 (pc := 269) dX11_isDone_269 <|
pw_iload_n (pc := 272) dX11_isDone_272 1 rfl <|
pw_callS_rz (n := 2) (rest := []) (tX11_isWhole K.2.1 G pw_r72 x1 m0) miX11_isWhole mlX11_69 (pc := 273) dX11_isDone_273 rfl rfl (by decide) (Nat.le_of_ble_eq_true rfl) fun y50 =>
pw_ifz_ne (tgt := 281) (pc := 276) dX11_isDone_276 (by decide) (fun h53 => pw_aload_n (pc := 281) dX11_isDone_281 2 rfl <|
pw_getR (o := 71) (k := 0) (t := 72) (pw_sh_71) cfX11 rfl (by decide) flX11_9 (pc := 282) dX11_isDone_282 <|
pw_iload_n (pc := 285) dX11_isDone_285 1 rfl <|
pw_iconst (v := 5) (pc := 286) dX11_isDone_286 (by decide) <|
pw_callS_ri (n := 2) (rest := [.ref (pw_ad G 72)]) (tX11_of K.2.1 G x1 (5 : Int32) m0) miX11_of mlX11_56 (pc := 287) dX11_isDone_287 rfl rfl (by decide) (Nat.le_of_ble_eq_true rfl) fun y51 =>
pw_iconst (v := 1) (pc := 290) dX11_isDone_290 (by decide) <|
pw_iast (pw_shRow pw_r72) (pc := 291) dX11_isDone_291 <| pw_ltM fun m52 =>
pw_iconst (v := 1) (pc := 292) dX11_isDone_292 (by decide) <|
pw_zret (b := true) hH rfl (pc := 293) dX11_isDone_293) (fun h54 => pw_iconst (v := 0) (pc := 279) dX11_isDone_279 (by decide) <|
pw_zret (b := false) hH rfl (pc := 280) dX11_isDone_280)) (fun h56 => pw_iconst (v := 0) (pc := 279) dX11_isDone_279 (by decide) <|
pw_zret (b := false) hH rfl (pc := 280) dX11_isDone_280)))))))
set_option maxHeartbeats 4000000 in
theorem tX11_isShelf (l : Launch) (G : pw_G) (a1 : Int32) (m0 : pw_Mem) : PMet l G yX11_isShelf cX11_isShelf 1 (some .boolean) 1 [.int a1] m0 (pw_Rz m0) (fX11_isShelf a1 m0) :=
  pw_met (own := RX11) (l0 := [(0, .int a1)]) rfl (by decide) rfl (Nat.le_of_ble_eq_true rfl) fun K hK hH => by
  delta fX11_isShelf
  exact (pw_iload_n (pc := 0) dX11_isShelf_0 0 rfl <|
pw_iconst (v := 0) (pc := 1) dX11_isShelf_1 (by decide) <|
pw_bipush (v := 7) (pc := 2) dX11_isShelf_2 (by decide) <|
pw_callS_rz (n := 3) (rest := []) (tX11_isIn K.2.1 G a1 (0 : Int32) (7 : Int32) m0) miX11_isIn mlX11_52 (pc := 4) dX11_isShelf_4 rfl rfl (by decide) (Nat.le_of_ble_eq_true rfl) fun y1 =>
pw_zret (b := y1) hH rfl (pc := 7) dX11_isShelf_7)
set_option maxHeartbeats 4000000 in
theorem tX11_wrongRow (l : Launch) (G : pw_G) (a1 : Int32) (a2 : Int32) (m0 : pw_Mem) : PMet l G yX11_wrongRow cX11_wrongRow 3 (some .int) 2 [.ref (pw_ad G 71), .int a1, .int a2] m0 (pw_Ri m0) (fX11_wrongRow a1 a2 m0) :=
  pw_met (own := RX11) (l0 := [(0, .ref (pw_ad G 71)), (1, .int a1), (2, .int a2)]) rfl (by decide) rfl (Nat.le_of_ble_eq_true rfl) fun K hK hH => by
  delta fX11_wrongRow
  exact (pw_iload_n (pc := 0) dX11_wrongRow_0 1 rfl <|
pw_callS_rz (n := 1) (rest := []) (tX11_isShelf K.2.1 G a1 m0) miX11_isShelf mlX11_264 (pc := 1) dX11_wrongRow_1 rfl rfl (by decide) (Nat.le_of_ble_eq_true rfl) fun y1 =>
pw_ifz_ne (tgt := 11) (pc := 4) dX11_wrongRow_4 (by decide) (fun h10 => pw_aload_n (pc := 11) dX11_wrongRow_11 0 rfl <|
pw_getR (o := 71) (k := 15) (t := 80) (pw_sh_71) cfX11 rfl (by decide) flX11_34 (pc := 12) dX11_wrongRow_12 <|
pw_iload_n (pc := 15) dX11_wrongRow_15 1 rfl <|
pw_iald (pw_sh_80) (pc := 16) dX11_wrongRow_16 <|
pw_if_ne (a := (m0 80 (a1).toNatClampNeg)) (b := 0) (tgt := 25) (pc := 17) dX11_wrongRow_17 (by decide) (fun h8 => pw_aload_n (pc := 25) dX11_wrongRow_25 0 rfl <|
pw_getR (o := 71) (k := 15) (t := 80) (pw_sh_71) cfX11 rfl (by decide) flX11_34 (pc := 26) dX11_wrongRow_26 <|
pw_iload_n (pc := 29) dX11_wrongRow_29 1 rfl <|
pw_iald (pw_sh_80) (pc := 30) dX11_wrongRow_30 <|
pw_iconst (v := 2) (pc := 31) dX11_wrongRow_31 (by decide) <|
pw_icmp_ne  (tgt := 49) (pc := 32) dX11_wrongRow_32 (by decide) (fun h6 => pw_bipush (v := -12) (pc := 49) dX11_wrongRow_49 (by decide) <|
pw_goto (tgt := 55) (pc := 51) dX11_wrongRow_51 (by decide) <|
pw_iret (a := (-12 : Int32)) (v := (-12 : Int32)) hH rfl (pc := 55) dX11_wrongRow_55) (fun h7 => pw_iload_n (pc := 35) dX11_wrongRow_35 2 rfl <|
pw_if_lt (a := a2) (b := 0) (tgt := 54) (pc := 36) dX11_wrongRow_36 (by decide) (fun h4 => pw_iconst (v := 0) (pc := 54) dX11_wrongRow_54 (by decide) <|
pw_iret (a := (0 : Int32)) (v := (0 : Int32)) hH rfl (pc := 55) dX11_wrongRow_55) (fun h5 => pw_aload_n (pc := 39) dX11_wrongRow_39 0 rfl <|
pw_getR (o := 71) (k := 18) (t := 83) (pw_sh_71) cfX11 rfl (by decide) flX11_43 (pc := 40) dX11_wrongRow_40 <|
pw_iload_n (pc := 43) dX11_wrongRow_43 1 rfl <|
pw_iald (pw_sh_83) (pc := 44) dX11_wrongRow_44 <|
pw_iload_n (pc := 45) dX11_wrongRow_45 2 rfl <|
pw_icmp_eq  (tgt := 54) (pc := 46) dX11_wrongRow_46 (by decide) (fun h2 => pw_iconst (v := 0) (pc := 54) dX11_wrongRow_54 (by decide) <|
pw_iret (a := (0 : Int32)) (v := (0 : Int32)) hH rfl (pc := 55) dX11_wrongRow_55) (fun h3 => pw_bipush (v := -12) (pc := 49) dX11_wrongRow_49 (by decide) <|
pw_goto (tgt := 55) (pc := 51) dX11_wrongRow_51 (by decide) <|
pw_iret (a := (-12 : Int32)) (v := (-12 : Int32)) hH rfl (pc := 55) dX11_wrongRow_55)))) (fun h9 => pw_bipush (v := -11) (pc := 20) dX11_wrongRow_20 (by decide) <|
pw_goto (tgt := 55) (pc := 22) dX11_wrongRow_22 (by decide) <|
pw_iret (a := (-11 : Int32)) (v := (-11 : Int32)) hH rfl (pc := 55) dX11_wrongRow_55)) (fun h11 => pw_iconst (v := -1) (pc := 7) dX11_wrongRow_7 (by decide) <|
pw_goto (tgt := 55) (pc := 8) dX11_wrongRow_8 (by decide) <|
pw_iret (a := (-1 : Int32)) (v := (-1 : Int32)) hH rfl (pc := 55) dX11_wrongRow_55))
set_option maxHeartbeats 4000000 in
theorem tX11_town (l : Launch) (G : pw_G) (a1 : Int32) (m0 : pw_Mem) : PMet l G yX11_town cX11_town 8 (some .int) 6 [.ref (pw_ad G 71), .int a1] m0 pw_Wi (fX11_town a1 m0) :=
  pw_met (own := RX11) (l0 := [(0, .ref (pw_ad G 71)), (1, .int a1)]) rfl (by decide) rfl (Nat.le_of_ble_eq_true rfl) fun K hK hH => by
  delta fX11_town
  exact (pw_aload_n (pc := 0) dX11_town_0 0 rfl <|
pw_iload_n (pc := 1) dX11_town_1 1 rfl <|
pw_iconst (v := 0) (pc := 2) dX11_town_2 (by decide) <|
pw_callV_ri (n := 2) (rest := []) (tX11_wrongRow K.2.1 G a1 (0 : Int32) m0) (pw_sh_71) cfX11 rfl miX11_wrongRow mlX11_167 (pc := 3) dX11_town_3 rfl rfl (by decide) (Nat.le_of_ble_eq_true rfl) fun y1 =>
pw_istore_n [(2, .int y1), (0, .ref (pw_ad G 71)), (1, .int a1)] (pc := 6) dX11_town_6 (by decide) rfl <|
pw_iload_n (pc := 7) dX11_town_7 0 rfl <|
pw_if_eq (a := y1) (b := 0) (tgt := 13) (pc := 8) dX11_town_8 (by decide) (fun h51 => pw_aload_n (pc := 13) dX11_town_13 1 rfl <|
pw_bipush (v := 100) (pc := 14) dX11_town_14 (by decide) <|
pw_iload_n (pc := 16) dX11_town_16 2 rfl <|
pw_imul (pc := 17) dX11_town_17 <|
pw_putI (o := 71) (k := 7) (pw_sh_71) cfX11 rfl (by decide) flX11_130 rfl (ft := .int) rfl rfl rfl (pc := 18) dX11_town_18 <|
pw_ltM fun m2 => pw_aload_n (pc := 21) dX11_town_21 1 rfl <|
pw_aload_n (pc := 22) dX11_town_22 1 rfl <|
pw_getR (o := 71) (k := 19) (t := 84) (pw_sh_71) cfX11 rfl (by decide) flX11_46 (pc := 23) dX11_town_23 <|
pw_iload_n (pc := 26) dX11_town_26 2 rfl <|
pw_iald (pw_sh_84) (pc := 27) dX11_town_27 <|
pw_putI (o := 71) (k := 8) (pw_sh_71) cfX11 rfl (by decide) flX11_127 rfl (ft := .int) rfl rfl rfl (pc := 28) dX11_town_28 <|
pw_ltM fun m3 => pw_aload_n (pc := 31) dX11_town_31 1 rfl <|
pw_iconst (v := 0) (pc := 32) dX11_town_32 (by decide) <|
pw_putI (o := 71) (k := 6) (pw_sh_71) cfX11 rfl (by decide) flX11_123 rfl (ft := .int) rfl rfl rfl (pc := 33) dX11_town_33 <|
pw_ltM fun m4 => pw_iconst (v := 0) (pc := 36) dX11_town_36 (by decide) <|
pw_istore_n [(3, .int (0 : Int32)), (2, .int y1), (0, .ref (pw_ad G 71)), (1, .int a1)] (pc := 37) dX11_town_37 (by decide) rfl <|
pw_iconst (v := 0) (pc := 38) dX11_town_38 (by decide) <|
pw_istore [(4, .int (0 : Int32)), (3, .int (0 : Int32)), (2, .int y1), (0, .ref (pw_ad G 71)), (1, .int a1)] (pc := 39) dX11_town_39 (by decide) rfl <|
pw_sub [0, 1, 3] rfl <| pw_lp (fun (kk50 : Int32 → Int32 → pw_Mem → Option (Int32 × pw_Mem)) => ∀ (v5 : Int32) (v6 : Int32) (m7 : pw_Mem), PW K G RX11 cX11_town 8 (some .int) 6 (pw_MQ K G pw_Wi) (kk50 v5 v6 m7) 41 [(4, .int v6), (3, .int v5), (0, .ref (pw_ad G 71))] [] m7) (fun _ _ _ => pw_none) (fun nx8 hn9 v5 v6 m7 => pw_aload_n (pc := 41) dX11_town_41 2 rfl <|
pw_callV_wz (n := 0) (rest := []) (tX11_readsStatement K.2.1 G m7) (pw_sh_71) cfX11 rfl miX11_readsStatement mlX11_170 (pc := 42) dX11_town_42 rfl rfl (by decide) (Nat.le_of_ble_eq_true rfl) fun y10 m11 =>
pw_jn (fun (k45 : Int32 → Option (Int32 × pw_Mem)) => ∀ (v12 : Int32), PW K G RX11 cX11_town 8 (some .int) 6 (pw_MQ K G pw_Wi) (k45 v12) 58 [(4, .int v12), (3, .int v5), (0, .ref (pw_ad G 71))] [] m11) (fun v12 => pw_ltA fun x13 hxx13 => pw_iinc (v := x13) [(3, .int x13), (4, .int v12), (0, .ref (pw_ad G 71))] (pc := 58) dX11_town_58 1 rfl (by rw [hxx13]; rfl) (by decide) rfl <|
pw_iload (pc := 61) dX11_town_61 1 rfl <|
pw_jn (fun (k39 : Option (Int32 × pw_Mem)) => PW K G RX11 cX11_town 8 (some .int) 6 (pw_MQ K G pw_Wi) k39 77 [(3, .int x13), (4, .int v12), (0, .ref (pw_ad G 71))] [] m11) (pw_aload_n (pc := 77) dX11_town_77 2 rfl <|
pw_getR (o := 71) (k := 0) (t := 72) (pw_sh_71) cfX11 rfl (by decide) flX11_9 (pc := 78) dX11_town_78 <|
pw_aload_n (pc := 81) dX11_town_81 2 rfl <|
pw_getR (o := 71) (k := 3) (t := 75) (pw_sh_71) cfX11 rfl (by decide) flX11_19 (pc := 82) dX11_town_82 <|
pw_callS_wv (n := 2) (rest := []) (tX11_copies K.2.1 G pw_r72 pw_r75 m11) miX11_copies mlX11_112 (pc := 85) dX11_town_85 rfl rfl (by decide) (Nat.le_of_ble_eq_true rfl) fun m14 =>
pw_aload_n (pc := 88) dX11_town_88 2 rfl <|
pw_iconst (v := 0) (pc := 89) dX11_town_89 (by decide) <|
pw_putI (o := 71) (k := 6) (pw_sh_71) cfX11 rfl (by decide) flX11_123 rfl (ft := .int) rfl rfl rfl (pc := 90) dX11_town_90 <|
pw_ltM fun m15 => pw_lp (fun (kk38 : Int32 → pw_Mem → Option (Int32 × pw_Mem)) => ∀ (v16 : Int32) (m17 : pw_Mem), PW K G RX11 cX11_town 8 (some .int) 6 (pw_MQ K G pw_Wi) (kk38 v16 m17) 93 [(3, .int x13), (4, .int v16), (0, .ref (pw_ad G 71))] [] m17) (fun _ _ => pw_none) (fun nx18 hn19 v16 m17 => pw_iload (pc := 93) dX11_town_93 1 rfl <|
pw_jn (fun (k22 : Option (Int32 × pw_Mem)) => PW K G RX11 cX11_town 8 (some .int) 6 (pw_MQ K G pw_Wi) k22 161 [(3, .int x13), (4, .int v16)] [] m17) (pw_iload (pc := 161) dX11_town_161 1 rfl <|
pw_if_ne (a := v16) (b := 0) (tgt := 170) (pc := 163) dX11_town_163 (by decide) (fun h20 => pw_iload (pc := 170) dX11_town_170 1 rfl <|
pw_iret (a := v16) (v := (v16, m17)) hH rfl (pc := 172) dX11_town_172) (fun h21 => pw_iload_n (pc := 166) dX11_town_166 0 rfl <|
pw_goto (tgt := 172) (pc := 167) dX11_town_167 (by decide) <|
pw_iret (a := x13) (v := (x13, m17)) hH rfl (pc := 172) dX11_town_172)) (fun k22 hk23 => pw_if_ne (a := v16) (b := 0) (tgt := 161) (pc := 95) dX11_town_95 (by decide) (fun h36 => pw_sub [0, 1] rfl <| hk23) (fun h37 => pw_aload_n (pc := 98) dX11_town_98 2 rfl <|
pw_getI (o := 71) (k := 6) (pw_sh_71) cfX11 rfl (by decide) flX11_123 (pc := 99) dX11_town_99 <|
pw_aload_n (pc := 102) dX11_town_102 2 rfl <|
pw_getI (o := 71) (k := 8) (pw_sh_71) cfX11 rfl (by decide) flX11_127 (pc := 103) dX11_town_103 <|
pw_icmp_ge  (tgt := 161) (pc := 106) dX11_town_106 (by decide) (fun h34 => pw_sub [0, 1] rfl <| hk23) (fun h35 => pw_aload_n (pc := 109) dX11_town_109 2 rfl <|
pw_getI (o := 71) (k := 6) (pw_sh_71) cfX11 rfl (by decide) flX11_123 (pc := 110) dX11_town_110 <|
pw_ltI fun x24 => pw_istore [(5, .int x24), (3, .int x13), (4, .int v16), (0, .ref (pw_ad G 71))] (pc := 113) dX11_town_113 (by decide) rfl <|
pw_aload_n (pc := 115) dX11_town_115 3 rfl <|
pw_callV_ri (n := 0) (rest := []) (tX11_here K.2.1 G m17) (pw_sh_71) cfX11 rfl miX11_here mlX11_133 (pc := 116) dX11_town_116 rfl rfl (by decide) (Nat.le_of_ble_eq_true rfl) fun y25 =>
pw_istore [(6, .int y25), (5, .int x24), (3, .int x13), (4, .int v16), (0, .ref (pw_ad G 71))] (pc := 119) dX11_town_119 (by decide) rfl <|
pw_aload_n (pc := 121) dX11_town_121 4 rfl <|
pw_callV_wz (n := 0) (rest := []) (tX11_readsStatement K.2.1 G m17) (pw_sh_71) cfX11 rfl miX11_readsStatement mlX11_170 (pc := 122) dX11_town_122 rfl rfl (by decide) (Nat.le_of_ble_eq_true rfl) fun y26 m27 =>
pw_istore [(7, .int (bI y26)), (6, .int y25), (5, .int x24), (3, .int x13), (4, .int v16), (0, .ref (pw_ad G 71))] (pc := 125) dX11_town_125 (by decide) rfl <|
pw_aload_n (pc := 127) dX11_town_127 5 rfl <|
pw_iload (pc := 128) dX11_town_128 1 rfl <|
pw_callV_wz (n := 1) (rest := []) (tX11_isDone K.2.1 G y25 m27) (pw_sh_71) cfX11 rfl miX11_isDone mlX11_174 (pc := 130) dX11_town_130 rfl rfl (by decide) (Nat.le_of_ble_eq_true rfl) fun y28 m29 =>
pw_ifz_eq (tgt := 139) (pc := 133) dX11_town_133 (by decide) (fun h32 => pw_goto (tgt := 93) (pc := 136) dX11_town_136 (by decide) <|
pw_sub [3, 4, 5] rfl <| hn19 v16 m29) (fun h33 => pw_sipush (v := -2000) (pc := 139) dX11_town_139 (by decide) <|
pw_iload (pc := 142) dX11_town_142 2 rfl <|
pw_isub (pc := 144) dX11_town_144 <|
pw_ltI fun x30 => pw_istore [(4, .int x30), (7, .int (bI y26)), (6, .int y25), (5, .int x24), (3, .int x13), (0, .ref (pw_ad G 71))] (pc := 145) dX11_town_145 (by decide) rfl <|
pw_aload_n (pc := 147) dX11_town_147 5 rfl <|
pw_getR (o := 71) (k := 3) (t := 75) (pw_sh_71) cfX11 rfl (by decide) flX11_19 (pc := 148) dX11_town_148 <|
pw_aload_n (pc := 151) dX11_town_151 5 rfl <|
pw_getR (o := 71) (k := 0) (t := 72) (pw_sh_71) cfX11 rfl (by decide) flX11_9 (pc := 152) dX11_town_152 <|
pw_callS_wv (n := 2) (rest := []) (tX11_copies K.2.1 G pw_r75 pw_r72 m29) miX11_copies mlX11_112 (pc := 155) dX11_town_155 rfl rfl (by decide) (Nat.le_of_ble_eq_true rfl) fun m31 =>
pw_goto (tgt := 93) (pc := 158) dX11_town_158 (by decide) <|
pw_sub [4, 0, 5] rfl <| hn19 x30 m31))))) FU v12 m15) (fun k39 hk40 => pw_if_ne (a := v12) (b := 0) (tgt := 77) (pc := 63) dX11_town_63 (by decide) (fun h43 => hk40) (fun h44 => pw_aload_n (pc := 66) dX11_town_66 2 rfl <|
pw_getI (o := 71) (k := 6) (pw_sh_71) cfX11 rfl (by decide) flX11_123 (pc := 67) dX11_town_67 <|
pw_aload_n (pc := 70) dX11_town_70 2 rfl <|
pw_getI (o := 71) (k := 8) (pw_sh_71) cfX11 rfl (by decide) flX11_127 (pc := 71) dX11_town_71 <|
pw_icmp_lt  (tgt := 41) (pc := 74) dX11_town_74 (by decide) (fun h41 => pw_sub [1, 0, 2] rfl <| hn9 x13 v12 m11) (fun h42 => hk40)))) (fun k45 hk46 => pw_ifz_ne (tgt := 58) (pc := 45) dX11_town_45 (by decide) (fun h48 => hk46 v6) (fun h49 => pw_sipush (v := -1000) (pc := 48) dX11_town_48 (by decide) <|
pw_aload_n (pc := 51) dX11_town_51 2 rfl <|
pw_getI (o := 71) (k := 6) (pw_sh_71) cfX11 rfl (by decide) flX11_123 (pc := 52) dX11_town_52 <|
pw_isub (pc := 55) dX11_town_55 <|
pw_ltI fun x47 => pw_istore [(4, .int x47), (3, .int v5), (0, .ref (pw_ad G 71))] (pc := 56) dX11_town_56 (by decide) rfl <|
hk46 x47))) FU (0 : Int32) (0 : Int32) m4) (fun h52 => pw_iload_n (pc := 11) dX11_town_11 0 rfl <|
pw_iret (a := y1) (v := (y1, m0)) hH rfl (pc := 12) dX11_town_12))
set_option maxHeartbeats 4000000 in
theorem tX11_person (l : Launch) (G : pw_G) (a1 : Int32) (a2 : Int32) (m0 : pw_Mem) : PMet l G yX11_person cX11_person 3 (some .int) 4 [.ref (pw_ad G 71), .int a1, .int a2] m0 (pw_Ri m0) (fX11_person a1 a2 m0) :=
  pw_met (own := RX11) (l0 := [(0, .ref (pw_ad G 71)), (1, .int a1), (2, .int a2)]) rfl (by decide) rfl (Nat.le_of_ble_eq_true rfl) fun K hK hH => by
  delta fX11_person
  exact (pw_aload_n (pc := 0) dX11_person_0 0 rfl <|
pw_iload_n (pc := 1) dX11_person_1 1 rfl <|
pw_callV_rz (n := 1) (rest := []) (tX11_isPerson K.2.1 G a1 m0) (pw_sh_71) cfX11 rfl miX11_isPerson mlX11_140 (pc := 2) dX11_person_2 rfl rfl (by decide) (Nat.le_of_ble_eq_true rfl) fun y1 =>
pw_ifz_eq (tgt := 17) (pc := 5) dX11_person_5 (by decide) (fun h13 => pw_iload_n (pc := 8) dX11_person_8 2 rfl <|
pw_iconst (v := 0) (pc := 9) dX11_person_9 (by decide) <|
pw_iconst (v := 3) (pc := 10) dX11_person_10 (by decide) <|
pw_callS_rz (n := 3) (rest := []) (tX11_isIn K.2.1 G a2 (0 : Int32) (3 : Int32) m0) miX11_isIn mlX11_52 (pc := 11) dX11_person_11 rfl rfl (by decide) (Nat.le_of_ble_eq_true rfl) fun y2 =>
pw_ifz_ne (tgt := 19) (pc := 14) dX11_person_14 (by decide) (fun h11 => pw_iload_n (pc := 19) dX11_person_19 2 rfl <|
pw_if_ne (a := a2) (b := 0) (tgt := 34) (pc := 20) dX11_person_20 (by decide) (fun h9 => pw_iload_n (pc := 34) dX11_person_34 2 rfl <|
pw_iconst (v := 1) (pc := 35) dX11_person_35 (by decide) <|
pw_icmp_ne  (tgt := 51) (pc := 36) dX11_person_36 (by decide) (fun h7 => pw_aload_n (pc := 51) dX11_person_51 0 rfl <|
pw_getR (o := 71) (k := 0) (t := 72) (pw_sh_71) cfX11 rfl (by decide) flX11_9 (pc := 52) dX11_person_52 <|
pw_iload_n (pc := 55) dX11_person_55 1 rfl <|
pw_iload_n (pc := 56) dX11_person_56 2 rfl <|
pw_iconst (v := 2) (pc := 57) dX11_person_57 (by decide) <|
pw_icmp_ne  (tgt := 65) (pc := 58) dX11_person_58 (by decide) (fun h5 => pw_iconst (v := 1) (pc := 65) dX11_person_65 (by decide) <|
pw_callS_ri (n := 3) (rest := []) (tX11_pulled K.2.1 G pw_r72 a1 (1 : Int32) m0) miX11_pulled mlX11_116 (pc := 66) dX11_person_66 rfl rfl (by decide) (Nat.le_of_ble_eq_true rfl) fun y3 =>
pw_iret (a := y3) (v := y3) hH rfl (pc := 69) dX11_person_69) (fun h6 => pw_iconst (v := -1) (pc := 61) dX11_person_61 (by decide) <|
pw_goto (tgt := 66) (pc := 62) dX11_person_62 (by decide) <|
pw_callS_ri (n := 3) (rest := []) (tX11_pulled K.2.1 G pw_r72 a1 (-1 : Int32) m0) miX11_pulled mlX11_116 (pc := 66) dX11_person_66 rfl rfl (by decide) (Nat.le_of_ble_eq_true rfl) fun y4 =>
pw_iret (a := y4) (v := y4) hH rfl (pc := 69) dX11_person_69)) (fun h8 => pw_aload_n (pc := 39) dX11_person_39 0 rfl <|
pw_getR (o := 71) (k := 0) (t := 72) (pw_sh_71) cfX11 rfl (by decide) flX11_9 (pc := 40) dX11_person_40 <|
pw_bipush (v := 11) (pc := 43) dX11_person_43 (by decide) <|
pw_iload_n (pc := 45) dX11_person_45 1 rfl <|
pw_iadd (pc := 46) dX11_person_46 <|
pw_iald (pw_shRow pw_r72) (pc := 47) dX11_person_47 <|
pw_goto (tgt := 69) (pc := 48) dX11_person_48 (by decide) <|
pw_iret (a := (m0 72 ((11 : Int32) + a1).toNatClampNeg)) (v := (m0 72 ((11 : Int32) + a1).toNatClampNeg)) hH rfl (pc := 69) dX11_person_69)) (fun h10 => pw_aload_n (pc := 23) dX11_person_23 0 rfl <|
pw_getR (o := 71) (k := 0) (t := 72) (pw_sh_71) cfX11 rfl (by decide) flX11_9 (pc := 24) dX11_person_24 <|
pw_iconst (v := 4) (pc := 27) dX11_person_27 (by decide) <|
pw_iload_n (pc := 28) dX11_person_28 1 rfl <|
pw_iadd (pc := 29) dX11_person_29 <|
pw_iald (pw_shRow pw_r72) (pc := 30) dX11_person_30 <|
pw_goto (tgt := 69) (pc := 31) dX11_person_31 (by decide) <|
pw_iret (a := (m0 72 ((4 : Int32) + a1).toNatClampNeg)) (v := (m0 72 ((4 : Int32) + a1).toNatClampNeg)) hH rfl (pc := 69) dX11_person_69)) (fun h12 => pw_iconst (v := -1) (pc := 17) dX11_person_17 (by decide) <|
pw_iret (a := (-1 : Int32)) (v := (-1 : Int32)) hH rfl (pc := 18) dX11_person_18)) (fun h14 => pw_iconst (v := -1) (pc := 17) dX11_person_17 (by decide) <|
pw_iret (a := (-1 : Int32)) (v := (-1 : Int32)) hH rfl (pc := 18) dX11_person_18))
set_option maxHeartbeats 4000000 in
theorem tX11_band (l : Launch) (G : pw_G) (a1 : Int32) (a2 : Int32) (m0 : pw_Mem) : PMet l G yX11_band cX11_band 3 (some .int) 3 [.ref (pw_ad G 71), .int a1, .int a2] m0 (pw_Ri m0) (fX11_band a1 a2 m0) :=
  pw_met (own := RX11) (l0 := [(0, .ref (pw_ad G 71)), (1, .int a1), (2, .int a2)]) rfl (by decide) rfl (Nat.le_of_ble_eq_true rfl) fun K hK hH => by
  delta fX11_band
  exact (pw_aload_n (pc := 0) dX11_band_0 0 rfl <|
pw_iload_n (pc := 1) dX11_band_1 1 rfl <|
pw_callV_rz (n := 1) (rest := []) (tX11_isBand K.2.1 G a1 m0) (pw_sh_71) cfX11 rfl miX11_isBand mlX11_164 (pc := 2) dX11_band_2 rfl rfl (by decide) (Nat.le_of_ble_eq_true rfl) fun y1 =>
pw_ifz_eq (tgt := 18) (pc := 5) dX11_band_5 (by decide) (fun h15 => pw_iload_n (pc := 8) dX11_band_8 2 rfl <|
pw_iconst (v := 0) (pc := 9) dX11_band_9 (by decide) <|
pw_bipush (v := 8) (pc := 10) dX11_band_10 (by decide) <|
pw_callS_rz (n := 3) (rest := []) (tX11_isIn K.2.1 G a2 (0 : Int32) (8 : Int32) m0) miX11_isIn mlX11_52 (pc := 12) dX11_band_12 rfl rfl (by decide) (Nat.le_of_ble_eq_true rfl) fun y2 =>
pw_ifz_ne (tgt := 20) (pc := 15) dX11_band_15 (by decide) (fun h13 => pw_iload_n (pc := 20) dX11_band_20 2 rfl <|
pw_bipush (v := 6) (pc := 21) dX11_band_21 (by decide) <|
pw_icmp_ge  (tgt := 39) (pc := 23) dX11_band_23 (by decide) (fun h11 => pw_iload_n (pc := 39) dX11_band_39 2 rfl <|
pw_bipush (v := 6) (pc := 40) dX11_band_40 (by decide) <|
pw_icmp_ne  (tgt := 56) (pc := 42) dX11_band_42 (by decide) (fun h8 => pw_iload_n (pc := 56) dX11_band_56 2 rfl <|
pw_bipush (v := 7) (pc := 57) dX11_band_57 (by decide) <|
pw_icmp_ne  (tgt := 73) (pc := 59) dX11_band_59 (by decide) (fun h5 => pw_aload_n (pc := 73) dX11_band_73 0 rfl <|
pw_getR (o := 71) (k := 0) (t := 72) (pw_sh_71) cfX11 rfl (by decide) flX11_9 (pc := 74) dX11_band_74 <|
pw_iload_n (pc := 77) dX11_band_77 1 rfl <|
pw_callS_ri (n := 2) (rest := []) (tX11_holdsNow K.2.1 G pw_r72 a1 m0) miX11_holdsNow mlX11_84 (pc := 78) dX11_band_78 rfl rfl (by decide) (Nat.le_of_ble_eq_true rfl) fun y3 =>
pw_iret (a := y3) (v := y3) hH rfl (pc := 81) dX11_band_81) (fun h6 => pw_aload_n (pc := 62) dX11_band_62 0 rfl <|
pw_getR (o := 71) (k := 0) (t := 72) (pw_sh_71) cfX11 rfl (by decide) flX11_9 (pc := 63) dX11_band_63 <|
pw_iload_n (pc := 66) dX11_band_66 1 rfl <|
pw_callS_ri (n := 2) (rest := []) (tX11_pull K.2.1 G pw_r72 a1 m0) miX11_pull mlX11_105 (pc := 67) dX11_band_67 rfl rfl (by decide) (Nat.le_of_ble_eq_true rfl) fun y4 =>
pw_goto (tgt := 81) (pc := 70) dX11_band_70 (by decide) <|
pw_iret (a := y4) (v := y4) hH rfl (pc := 81) dX11_band_81)) (fun h9 => pw_aload_n (pc := 45) dX11_band_45 0 rfl <|
pw_getR (o := 71) (k := 0) (t := 72) (pw_sh_71) cfX11 rfl (by decide) flX11_9 (pc := 46) dX11_band_46 <|
pw_iload_n (pc := 49) dX11_band_49 1 rfl <|
pw_callS_ri (n := 2) (rest := []) (tX11_stretch K.2.1 G pw_r72 a1 m0) miX11_stretch mlX11_73 (pc := 50) dX11_band_50 rfl rfl (by decide) (Nat.le_of_ble_eq_true rfl) fun y7 =>
pw_goto (tgt := 81) (pc := 53) dX11_band_53 (by decide) <|
pw_iret (a := y7) (v := y7) hH rfl (pc := 81) dX11_band_81)) (fun h12 => pw_aload_n (pc := 26) dX11_band_26 0 rfl <|
pw_getR (o := 71) (k := 0) (t := 72) (pw_sh_71) cfX11 rfl (by decide) flX11_9 (pc := 27) dX11_band_27 <|
pw_iload_n (pc := 30) dX11_band_30 1 rfl <|
pw_iload_n (pc := 31) dX11_band_31 2 rfl <|
pw_callS_ri (n := 2) (rest := [.ref (pw_ad G 72)]) (tX11_of K.2.1 G a1 a2 m0) miX11_of mlX11_56 (pc := 32) dX11_band_32 rfl rfl (by decide) (Nat.le_of_ble_eq_true rfl) fun y10 =>
pw_iald (pw_shRow pw_r72) (pc := 35) dX11_band_35 <|
pw_goto (tgt := 81) (pc := 36) dX11_band_36 (by decide) <|
pw_iret (a := (m0 72 (y10).toNatClampNeg)) (v := (m0 72 (y10).toNatClampNeg)) hH rfl (pc := 81) dX11_band_81)) (fun h14 => pw_iconst (v := -1) (pc := 18) dX11_band_18 (by decide) <|
pw_iret (a := (-1 : Int32)) (v := (-1 : Int32)) hH rfl (pc := 19) dX11_band_19)) (fun h16 => pw_iconst (v := -1) (pc := 18) dX11_band_18 (by decide) <|
pw_iret (a := (-1 : Int32)) (v := (-1 : Int32)) hH rfl (pc := 19) dX11_band_19))
set_option maxHeartbeats 4000000 in
theorem tX11_comes (l : Launch) (G : pw_G) (a1 : Int32) (m0 : pw_Mem) : PMet l G yX11_comes cX11_comes 2 (some .int) 2 [.ref (pw_ad G 71), .int a1] m0 pw_Wi (fX11_comes a1 m0) :=
  pw_met (own := RX11) (l0 := [(0, .ref (pw_ad G 71)), (1, .int a1)]) rfl (by decide) rfl (Nat.le_of_ble_eq_true rfl) fun K hK hH => by
  delta fX11_comes
  exact (pw_iload_n (pc := 0) dX11_comes_0 1 rfl <|
pw_callS_rz (n := 1) (rest := []) (tX11_isPlace K.2.1 G a1 m0) miX11_isPlace mlX11_144 (pc := 1) dX11_comes_1 rfl rfl (by decide) (Nat.le_of_ble_eq_true rfl) fun y1 =>
pw_ifz_ne (tgt := 9) (pc := 4) dX11_comes_4 (by decide) (fun h5 => pw_aload_n (pc := 9) dX11_comes_9 0 rfl <|
pw_getR (o := 71) (k := 0) (t := 72) (pw_sh_71) cfX11 rfl (by decide) flX11_9 (pc := 10) dX11_comes_10 <|
pw_iconst (v := 0) (pc := 13) dX11_comes_13 (by decide) <|
pw_iald (pw_shRow pw_r72) (pc := 14) dX11_comes_14 <|
pw_bipush (v := 7) (pc := 15) dX11_comes_15 (by decide) <|
pw_icmp_ne  (tgt := 23) (pc := 17) dX11_comes_17 (by decide) (fun h3 => pw_aload_n (pc := 23) dX11_comes_23 0 rfl <|
pw_iload_n (pc := 24) dX11_comes_24 1 rfl <|
pw_callV_wv (n := 1) (rest := []) (tX11_addsPerson K.2.1 G a1 m0) (pw_sh_71) cfX11 rfl miX11_addsPerson mlX11_147 (pc := 25) dX11_comes_25 rfl rfl (by decide) (Nat.le_of_ble_eq_true rfl) fun m2 =>
pw_aload_n (pc := 28) dX11_comes_28 0 rfl <|
pw_getR (o := 71) (k := 0) (t := 72) (pw_sh_71) cfX11 rfl (by decide) flX11_9 (pc := 29) dX11_comes_29 <|
pw_iconst (v := 0) (pc := 32) dX11_comes_32 (by decide) <|
pw_iald (pw_shRow pw_r72) (pc := 33) dX11_comes_33 <|
pw_iconst (v := 1) (pc := 34) dX11_comes_34 (by decide) <|
pw_isub (pc := 35) dX11_comes_35 <|
pw_iret (a := ((m2 72 ((0 : Int32)).toNatClampNeg) - (1 : Int32))) (v := ((m2 72 ((0 : Int32)).toNatClampNeg) - (1 : Int32), m2)) hH rfl (pc := 36) dX11_comes_36) (fun h4 => pw_bipush (v := -2) (pc := 20) dX11_comes_20 (by decide) <|
pw_iret (a := (-2 : Int32)) (v := ((-2 : Int32), m0)) hH rfl (pc := 22) dX11_comes_22)) (fun h6 => pw_iconst (v := -1) (pc := 7) dX11_comes_7 (by decide) <|
pw_iret (a := (-1 : Int32)) (v := ((-1 : Int32), m0)) hH rfl (pc := 8) dX11_comes_8))
set_option maxHeartbeats 4000000 in
theorem tX11_wrongKept (l : Launch) (G : pw_G) (a1 : Int32) (m0 : pw_Mem) : PMet l G yX11_wrongKept cX11_wrongKept 2 (some .int) 2 [.ref (pw_ad G 71), .int a1] m0 (pw_Ri m0) (fX11_wrongKept a1 m0) :=
  pw_met (own := RX11) (l0 := [(0, .ref (pw_ad G 71)), (1, .int a1)]) rfl (by decide) rfl (Nat.le_of_ble_eq_true rfl) fun K hK hH => by
  delta fX11_wrongKept
  exact (pw_iload_n (pc := 0) dX11_wrongKept_0 1 rfl <|
pw_callS_rz (n := 1) (rest := []) (tX11_isShelf K.2.1 G a1 m0) miX11_isShelf mlX11_264 (pc := 1) dX11_wrongKept_1 rfl rfl (by decide) (Nat.le_of_ble_eq_true rfl) fun y1 =>
pw_ifz_ne (tgt := 11) (pc := 4) dX11_wrongKept_4 (by decide) (fun h6 => pw_aload_n (pc := 11) dX11_wrongKept_11 0 rfl <|
pw_getR (o := 71) (k := 15) (t := 80) (pw_sh_71) cfX11 rfl (by decide) flX11_34 (pc := 12) dX11_wrongKept_12 <|
pw_iload_n (pc := 15) dX11_wrongKept_15 1 rfl <|
pw_iald (pw_sh_80) (pc := 16) dX11_wrongKept_16 <|
pw_if_ne (a := (m0 80 (a1).toNatClampNeg)) (b := 0) (tgt := 25) (pc := 17) dX11_wrongKept_17 (by decide) (fun h4 => pw_aload_n (pc := 25) dX11_wrongKept_25 0 rfl <|
pw_getR (o := 71) (k := 15) (t := 80) (pw_sh_71) cfX11 rfl (by decide) flX11_34 (pc := 26) dX11_wrongKept_26 <|
pw_iload_n (pc := 29) dX11_wrongKept_29 1 rfl <|
pw_iald (pw_sh_80) (pc := 30) dX11_wrongKept_30 <|
pw_iconst (v := 2) (pc := 31) dX11_wrongKept_31 (by decide) <|
pw_icmp_ne  (tgt := 40) (pc := 32) dX11_wrongKept_32 (by decide) (fun h2 => pw_iconst (v := 0) (pc := 40) dX11_wrongKept_40 (by decide) <|
pw_iret (a := (0 : Int32)) (v := (0 : Int32)) hH rfl (pc := 41) dX11_wrongKept_41) (fun h3 => pw_bipush (v := -12) (pc := 35) dX11_wrongKept_35 (by decide) <|
pw_goto (tgt := 41) (pc := 37) dX11_wrongKept_37 (by decide) <|
pw_iret (a := (-12 : Int32)) (v := (-12 : Int32)) hH rfl (pc := 41) dX11_wrongKept_41)) (fun h5 => pw_bipush (v := -11) (pc := 20) dX11_wrongKept_20 (by decide) <|
pw_goto (tgt := 41) (pc := 22) dX11_wrongKept_22 (by decide) <|
pw_iret (a := (-11 : Int32)) (v := (-11 : Int32)) hH rfl (pc := 41) dX11_wrongKept_41)) (fun h7 => pw_iconst (v := -1) (pc := 7) dX11_wrongKept_7 (by decide) <|
pw_goto (tgt := 41) (pc := 8) dX11_wrongKept_8 (by decide) <|
pw_iret (a := (-1 : Int32)) (v := (-1 : Int32)) hH rfl (pc := 41) dX11_wrongKept_41))
set_option maxHeartbeats 4000000 in
theorem tX11_ties (l : Launch) (G : pw_G) (a1 : Int32) (a2 : Int32) (a3 : Int32) (m0 : pw_Mem) : PMet l G yX11_ties cX11_ties 5 (some .int) 5 [.ref (pw_ad G 71), .int a1, .int a2, .int a3] m0 pw_Wi (fX11_ties a1 a2 a3 m0) :=
  pw_met (own := RX11) (l0 := [(0, .ref (pw_ad G 71)), (1, .int a1), (2, .int a2), (3, .int a3)]) rfl (by decide) rfl (Nat.le_of_ble_eq_true rfl) fun K hK hH => by
  delta fX11_ties
  exact (pw_aload_n (pc := 0) dX11_ties_0 0 rfl <|
pw_iload_n (pc := 1) dX11_ties_1 2 rfl <|
pw_iload_n (pc := 2) dX11_ties_2 3 rfl <|
pw_callV_rz (n := 2) (rest := []) (tX11_areTwo K.2.1 G a2 a3 m0) (pw_sh_71) cfX11 rfl miX11_areTwo mlX11_151 (pc := 3) dX11_ties_3 rfl rfl (by decide) (Nat.le_of_ble_eq_true rfl) fun y1 =>
pw_ifz_ne (tgt := 11) (pc := 6) dX11_ties_6 (by decide) (fun h8 => pw_aload_n (pc := 11) dX11_ties_11 0 rfl <|
pw_iload_n (pc := 12) dX11_ties_12 1 rfl <|
pw_callV_ri (n := 1) (rest := []) (tX11_wrongKept K.2.1 G a1 m0) (pw_sh_71) cfX11 rfl miX11_wrongKept mlX11_177 (pc := 13) dX11_ties_13 rfl rfl (by decide) (Nat.le_of_ble_eq_true rfl) fun y2 =>
pw_istore [(4, .int y2), (0, .ref (pw_ad G 71)), (1, .int a1), (2, .int a2), (3, .int a3)] (pc := 16) dX11_ties_16 (by decide) rfl <|
pw_iload (pc := 18) dX11_ties_18 0 rfl <|
pw_if_eq (a := y2) (b := 0) (tgt := 26) (pc := 20) dX11_ties_20 (by decide) (fun h6 => pw_aload_n (pc := 26) dX11_ties_26 1 rfl <|
pw_getR (o := 71) (k := 0) (t := 72) (pw_sh_71) cfX11 rfl (by decide) flX11_9 (pc := 27) dX11_ties_27 <|
pw_iconst (v := 1) (pc := 30) dX11_ties_30 (by decide) <|
pw_iald (pw_shRow pw_r72) (pc := 31) dX11_ties_31 <|
pw_bipush (v := 10) (pc := 32) dX11_ties_32 (by decide) <|
pw_icmp_ne  (tgt := 40) (pc := 34) dX11_ties_34 (by decide) (fun h4 => pw_aload_n (pc := 40) dX11_ties_40 1 rfl <|
pw_aload_n (pc := 41) dX11_ties_41 1 rfl <|
pw_getR (o := 71) (k := 16) (t := 81) (pw_sh_71) cfX11 rfl (by decide) flX11_37 (pc := 42) dX11_ties_42 <|
pw_iload_n (pc := 45) dX11_ties_45 2 rfl <|
pw_iald (pw_sh_81) (pc := 46) dX11_ties_46 <|
pw_aload_n (pc := 47) dX11_ties_47 1 rfl <|
pw_getR (o := 71) (k := 17) (t := 82) (pw_sh_71) cfX11 rfl (by decide) flX11_40 (pc := 48) dX11_ties_48 <|
pw_iload_n (pc := 51) dX11_ties_51 2 rfl <|
pw_iald (pw_sh_82) (pc := 52) dX11_ties_52 <|
pw_iload_n (pc := 53) dX11_ties_53 3 rfl <|
pw_iload_n (pc := 54) dX11_ties_54 4 rfl <|
pw_callV_wv (n := 4) (rest := []) (tX11_adds K.2.1 G (m0 81 (a1).toNatClampNeg) (m0 82 (a1).toNatClampNeg) a2 a3 m0) (pw_sh_71) cfX11 rfl miX11_adds mlX11_154 (pc := 55) dX11_ties_55 rfl rfl (by decide) (Nat.le_of_ble_eq_true rfl) fun m3 =>
pw_aload_n (pc := 58) dX11_ties_58 1 rfl <|
pw_getR (o := 71) (k := 0) (t := 72) (pw_sh_71) cfX11 rfl (by decide) flX11_9 (pc := 59) dX11_ties_59 <|
pw_iconst (v := 1) (pc := 62) dX11_ties_62 (by decide) <|
pw_iald (pw_shRow pw_r72) (pc := 63) dX11_ties_63 <|
pw_iconst (v := 1) (pc := 64) dX11_ties_64 (by decide) <|
pw_isub (pc := 65) dX11_ties_65 <|
pw_iret (a := ((m3 72 ((1 : Int32)).toNatClampNeg) - (1 : Int32))) (v := ((m3 72 ((1 : Int32)).toNatClampNeg) - (1 : Int32), m3)) hH rfl (pc := 66) dX11_ties_66) (fun h5 => pw_bipush (v := -2) (pc := 37) dX11_ties_37 (by decide) <|
pw_iret (a := (-2 : Int32)) (v := ((-2 : Int32), m0)) hH rfl (pc := 39) dX11_ties_39)) (fun h7 => pw_iload (pc := 23) dX11_ties_23 0 rfl <|
pw_iret (a := y2) (v := (y2, m0)) hH rfl (pc := 25) dX11_ties_25)) (fun h9 => pw_iconst (v := -1) (pc := 9) dX11_ties_9 (by decide) <|
pw_iret (a := (-1 : Int32)) (v := ((-1 : Int32), m0)) hH rfl (pc := 10) dX11_ties_10))
set_option maxHeartbeats 4000000 in
theorem tX11_goes (l : Launch) (G : pw_G) (a1 : Int32) (a2 : Int32) (m0 : pw_Mem) : PMet l G yX11_goes cX11_goes 3 (some .int) 5 [.ref (pw_ad G 71), .int a1, .int a2] m0 pw_Wi (fX11_goes a1 a2 m0) :=
  pw_met (own := RX11) (l0 := [(0, .ref (pw_ad G 71)), (1, .int a1), (2, .int a2)]) rfl (by decide) rfl (Nat.le_of_ble_eq_true rfl) fun K hK hH => by
  delta fX11_goes
  exact (pw_aload_n (pc := 0) dX11_goes_0 0 rfl <|
pw_iload_n (pc := 1) dX11_goes_1 1 rfl <|
pw_callV_rz (n := 1) (rest := []) (tX11_isPerson K.2.1 G a1 m0) (pw_sh_71) cfX11 rfl miX11_isPerson mlX11_140 (pc := 2) dX11_goes_2 rfl rfl (by decide) (Nat.le_of_ble_eq_true rfl) fun y1 =>
pw_ifz_eq (tgt := 30) (pc := 5) dX11_goes_5 (by decide) (fun h8 => pw_iload_n (pc := 8) dX11_goes_8 2 rfl <|
pw_callS_rz (n := 1) (rest := []) (tX11_isPlace K.2.1 G a2 m0) miX11_isPlace mlX11_144 (pc := 9) dX11_goes_9 rfl rfl (by decide) (Nat.le_of_ble_eq_true rfl) fun y2 =>
pw_ifz_eq (tgt := 30) (pc := 12) dX11_goes_12 (by decide) (fun h6 => pw_aload_n (pc := 15) dX11_goes_15 0 rfl <|
pw_getR (o := 71) (k := 0) (t := 72) (pw_sh_71) cfX11 rfl (by decide) flX11_9 (pc := 16) dX11_goes_16 <|
pw_iload_n (pc := 19) dX11_goes_19 1 rfl <|
pw_iload_n (pc := 20) dX11_goes_20 2 rfl <|
pw_callS_wi (n := 3) (rest := []) (tX11_goesTo K.2.1 G pw_r72 a1 a2 m0) miX11_goesTo mlX11_158 (pc := 21) dX11_goes_21 rfl rfl (by decide) (Nat.le_of_ble_eq_true rfl) fun y3 m4 =>
pw_callS_ri (n := 1) (rest := []) (tX11_bits K.2.1 G y3 m4) miX11_bits mlX11_180 (pc := 24) dX11_goes_24 rfl rfl (by decide) (Nat.le_of_ble_eq_true rfl) fun y5 =>
pw_goto (tgt := 31) (pc := 27) dX11_goes_27 (by decide) <|
pw_iret (a := y5) (v := (y5, m4)) hH rfl (pc := 31) dX11_goes_31) (fun h7 => pw_iconst (v := -1) (pc := 30) dX11_goes_30 (by decide) <|
pw_iret (a := (-1 : Int32)) (v := ((-1 : Int32), m0)) hH rfl (pc := 31) dX11_goes_31)) (fun h9 => pw_iconst (v := -1) (pc := 30) dX11_goes_30 (by decide) <|
pw_iret (a := (-1 : Int32)) (v := ((-1 : Int32), m0)) hH rfl (pc := 31) dX11_goes_31))
set_option maxHeartbeats 4000000 in
theorem tX11_cold (l : Launch) (G : pw_G) (a1 : Int32) (m0 : pw_Mem) : PMet l G yX11_cold cX11_cold 2 (some .int) 4 [.ref (pw_ad G 71), .int a1] m0 pw_Wi (fX11_cold a1 m0) :=
  pw_met (own := RX11) (l0 := [(0, .ref (pw_ad G 71)), (1, .int a1)]) rfl (by decide) rfl (Nat.le_of_ble_eq_true rfl) fun K hK hH => by
  delta fX11_cold
  exact (pw_iload_n (pc := 0) dX11_cold_0 1 rfl <|
pw_iconst (v := 0) (pc := 1) dX11_cold_1 (by decide) <|
pw_bipush (v := 9) (pc := 2) dX11_cold_2 (by decide) <|
pw_callS_rz (n := 3) (rest := []) (tX11_isIn K.2.1 G a1 (0 : Int32) (9 : Int32) m0) miX11_isIn mlX11_52 (pc := 4) dX11_cold_4 rfl rfl (by decide) (Nat.le_of_ble_eq_true rfl) fun y1 =>
pw_ifz_ne (tgt := 12) (pc := 7) dX11_cold_7 (by decide) (fun h6 => pw_aload_n (pc := 12) dX11_cold_12 0 rfl <|
pw_getR (o := 71) (k := 0) (t := 72) (pw_sh_71) cfX11 rfl (by decide) flX11_9 (pc := 13) dX11_cold_13 <|
pw_iconst (v := 3) (pc := 16) dX11_cold_16 (by decide) <|
pw_iload_n (pc := 17) dX11_cold_17 1 rfl <|
pw_iast (pw_shRow pw_r72) (pc := 18) dX11_cold_18 <| pw_ltM fun m2 =>
pw_aload_n (pc := 19) dX11_cold_19 0 rfl <|
pw_getR (o := 71) (k := 0) (t := 72) (pw_sh_71) cfX11 rfl (by decide) flX11_9 (pc := 20) dX11_cold_20 <|
pw_callS_wi (n := 1) (rest := []) (tX11_tries K.2.1 G pw_r72 m2) miX11_tries mlX11_108 (pc := 23) dX11_cold_23 rfl rfl (by decide) (Nat.le_of_ble_eq_true rfl) fun y3 m4 =>
pw_callS_ri (n := 1) (rest := []) (tX11_bits K.2.1 G y3 m4) miX11_bits mlX11_180 (pc := 26) dX11_cold_26 rfl rfl (by decide) (Nat.le_of_ble_eq_true rfl) fun y5 =>
pw_iret (a := y5) (v := (y5, m4)) hH rfl (pc := 29) dX11_cold_29) (fun h7 => pw_iconst (v := -1) (pc := 10) dX11_cold_10 (by decide) <|
pw_iret (a := (-1 : Int32)) (v := ((-1 : Int32), m0)) hH rfl (pc := 11) dX11_cold_11))
set_option maxHeartbeats 4000000 in
theorem tX11_years (l : Launch) (G : pw_G) (a1 : Int32) (m0 : pw_Mem) : PMet l G yX11_years cX11_years 4 (some .int) 5 [.ref (pw_ad G 71), .int a1] m0 pw_Wi (fX11_years a1 m0) :=
  pw_met (own := RX11) (l0 := [(0, .ref (pw_ad G 71)), (1, .int a1)]) rfl (by decide) rfl (Nat.le_of_ble_eq_true rfl) fun K hK hH => by
  delta fX11_years
  exact (pw_iload_n (pc := 0) dX11_years_0 1 rfl <|
pw_iconst (v := 1) (pc := 1) dX11_years_1 (by decide) <|
pw_bipush (v := 60) (pc := 2) dX11_years_2 (by decide) <|
pw_callS_rz (n := 3) (rest := []) (tX11_isIn K.2.1 G a1 (1 : Int32) (60 : Int32) m0) miX11_isIn mlX11_52 (pc := 4) dX11_years_4 rfl rfl (by decide) (Nat.le_of_ble_eq_true rfl) fun y1 =>
pw_ifz_ne (tgt := 12) (pc := 7) dX11_years_7 (by decide) (fun h17 => pw_aload_n (pc := 12) dX11_years_12 0 rfl <|
pw_getR (o := 71) (k := 0) (t := 72) (pw_sh_71) cfX11 rfl (by decide) flX11_9 (pc := 13) dX11_years_13 <|
pw_iconst (v := 2) (pc := 16) dX11_years_16 (by decide) <|
pw_iald (pw_shRow pw_r72) (pc := 17) dX11_years_17 <|
pw_iload_n (pc := 18) dX11_years_18 1 rfl <|
pw_iadd (pc := 19) dX11_years_19 <|
pw_sipush (v := 999) (pc := 20) dX11_years_20 (by decide) <|
pw_icmp_le  (tgt := 29) (pc := 23) dX11_years_23 (by decide) (fun h15 => pw_iconst (v := 0) (pc := 29) dX11_years_29 (by decide) <|
pw_istore_n [(2, .int (0 : Int32)), (0, .ref (pw_ad G 71)), (1, .int a1)] (pc := 30) dX11_years_30 (by decide) rfl <|
pw_iconst (v := 0) (pc := 31) dX11_years_31 (by decide) <|
pw_istore_n [(3, .int (0 : Int32)), (2, .int (0 : Int32)), (0, .ref (pw_ad G 71)), (1, .int a1)] (pc := 32) dX11_years_32 (by decide) rfl <|
pw_lp (fun (kk14 : Int32 → Int32 → pw_Mem → Option (Int32 × pw_Mem)) => ∀ (v2 : Int32) (v3 : Int32) (m4 : pw_Mem), PW K G RX11 cX11_years 4 (some .int) 5 (pw_MQ K G pw_Wi) (kk14 v2 v3 m4) 33 [(3, .int v3), (2, .int v2), (0, .ref (pw_ad G 71)), (1, .int a1)] [] m4) (fun _ _ _ => pw_none) (fun nx5 hn6 v2 v3 m4 => pw_iload_n (pc := 33) dX11_years_33 0 rfl <|
pw_iload_n (pc := 34) dX11_years_34 3 rfl <|
pw_icmp_ge  (tgt := 55) (pc := 35) dX11_years_35 (by decide) (fun h12 => pw_iload_n (pc := 55) dX11_years_55 1 rfl <|
pw_callS_ri (n := 1) (rest := []) (tX11_bits K.2.1 G v2 m4) miX11_bits mlX11_180 (pc := 56) dX11_years_56 rfl rfl (by decide) (Nat.le_of_ble_eq_true rfl) fun y7 =>
pw_iret (a := y7) (v := (y7, m4)) hH rfl (pc := 59) dX11_years_59) (fun h13 => pw_iload_n (pc := 38) dX11_years_38 1 rfl <|
pw_aload_n (pc := 39) dX11_years_39 2 rfl <|
pw_aload_n (pc := 40) dX11_years_40 2 rfl <|
pw_getR (o := 71) (k := 0) (t := 72) (pw_sh_71) cfX11 rfl (by decide) flX11_9 (pc := 41) dX11_years_41 <|
pw_callV_wi (n := 1) (rest := [.int v2]) (tX11_year K.2.1 G pw_r72 m4) (pw_sh_71) cfX11 rfl miX11_year mlX11_161 (pc := 44) dX11_years_44 rfl rfl (by decide) (Nat.le_of_ble_eq_true rfl) fun y8 m9 =>
pw_ior (pc := 47) dX11_years_47 <|
pw_ltI fun x10 => pw_istore_n [(2, .int x10), (3, .int v3), (0, .ref (pw_ad G 71)), (1, .int a1)] (pc := 48) dX11_years_48 (by decide) rfl <|
pw_ltA fun x11 hxx11 => pw_iinc (v := x11) [(3, .int x11), (2, .int x10), (0, .ref (pw_ad G 71)), (1, .int a1)] (pc := 49) dX11_years_49 1 rfl (by rw [hxx11]; rfl) (by decide) rfl <|
pw_goto (tgt := 33) (pc := 52) dX11_years_52 (by decide) <|
hn6 x10 x11 m9)) FU (0 : Int32) (0 : Int32) m0) (fun h16 => pw_bipush (v := -3) (pc := 26) dX11_years_26 (by decide) <|
pw_iret (a := (-3 : Int32)) (v := ((-3 : Int32), m0)) hH rfl (pc := 28) dX11_years_28)) (fun h18 => pw_iconst (v := -1) (pc := 10) dX11_years_10 (by decide) <|
pw_iret (a := (-1 : Int32)) (v := ((-1 : Int32), m0)) hH rfl (pc := 11) dX11_years_11))
set_option maxHeartbeats 4000000 in
theorem tX11_cuts (l : Launch) (G : pw_G) (a1 : Int32) (m0 : pw_Mem) : PMet l G yX11_cuts cX11_cuts 2 (some .int) 3 [.ref (pw_ad G 71), .int a1] m0 pw_Wi (fX11_cuts a1 m0) :=
  pw_met (own := RX11) (l0 := [(0, .ref (pw_ad G 71)), (1, .int a1)]) rfl (by decide) rfl (Nat.le_of_ble_eq_true rfl) fun K hK hH => by
  delta fX11_cuts
  exact (pw_aload_n (pc := 0) dX11_cuts_0 0 rfl <|
pw_iload_n (pc := 1) dX11_cuts_1 1 rfl <|
pw_callV_rz (n := 1) (rest := []) (tX11_isBand K.2.1 G a1 m0) (pw_sh_71) cfX11 rfl miX11_isBand mlX11_164 (pc := 2) dX11_cuts_2 rfl rfl (by decide) (Nat.le_of_ble_eq_true rfl) fun y1 =>
pw_ifz_ne (tgt := 10) (pc := 5) dX11_cuts_5 (by decide) (fun h9 => pw_aload_n (pc := 10) dX11_cuts_10 0 rfl <|
pw_getR (o := 71) (k := 0) (t := 72) (pw_sh_71) cfX11 rfl (by decide) flX11_9 (pc := 11) dX11_cuts_11 <|
pw_iload_n (pc := 14) dX11_cuts_14 1 rfl <|
pw_callS_rz (n := 2) (rest := []) (tX11_isWhole K.2.1 G pw_r72 a1 m0) miX11_isWhole mlX11_69 (pc := 15) dX11_cuts_15 rfl rfl (by decide) (Nat.le_of_ble_eq_true rfl) fun y2 =>
pw_ifz_ne (tgt := 24) (pc := 18) dX11_cuts_18 (by decide) (fun h7 => pw_aload_n (pc := 24) dX11_cuts_24 0 rfl <|
pw_getR (o := 71) (k := 0) (t := 72) (pw_sh_71) cfX11 rfl (by decide) flX11_9 (pc := 25) dX11_cuts_25 <|
pw_iload_n (pc := 28) dX11_cuts_28 1 rfl <|
pw_iconst (v := 5) (pc := 29) dX11_cuts_29 (by decide) <|
pw_callS_ri (n := 2) (rest := [.ref (pw_ad G 72)]) (tX11_of K.2.1 G a1 (5 : Int32) m0) miX11_of mlX11_56 (pc := 30) dX11_cuts_30 rfl rfl (by decide) (Nat.le_of_ble_eq_true rfl) fun y3 =>
pw_iconst (v := 1) (pc := 33) dX11_cuts_33 (by decide) <|
pw_iast (pw_shRow pw_r72) (pc := 34) dX11_cuts_34 <| pw_ltM fun m4 =>
pw_aload_n (pc := 35) dX11_cuts_35 0 rfl <|
pw_getR (o := 71) (k := 0) (t := 72) (pw_sh_71) cfX11 rfl (by decide) flX11_9 (pc := 36) dX11_cuts_36 <|
pw_callS_ri (n := 1) (rest := []) (tX11_snappedSet K.2.1 G pw_r72 m4) miX11_snappedSet mlX11_120 (pc := 39) dX11_cuts_39 rfl rfl (by decide) (Nat.le_of_ble_eq_true rfl) fun y5 =>
pw_callS_ri (n := 1) (rest := []) (tX11_bits K.2.1 G y5 m4) miX11_bits mlX11_180 (pc := 42) dX11_cuts_42 rfl rfl (by decide) (Nat.le_of_ble_eq_true rfl) fun y6 =>
pw_iret (a := y6) (v := (y6, m4)) hH rfl (pc := 45) dX11_cuts_45) (fun h8 => pw_bipush (v := -3) (pc := 21) dX11_cuts_21 (by decide) <|
pw_iret (a := (-3 : Int32)) (v := ((-3 : Int32), m0)) hH rfl (pc := 23) dX11_cuts_23)) (fun h10 => pw_iconst (v := -1) (pc := 8) dX11_cuts_8 (by decide) <|
pw_iret (a := (-1 : Int32)) (v := ((-1 : Int32), m0)) hH rfl (pc := 9) dX11_cuts_9))
set_option maxHeartbeats 4000000 in
theorem tX11_farthestOf (l : Launch) (G : pw_G) (a1 : Int32) (a2 : Int32) (m0 : pw_Mem) : PMet l G yX11_farthestOf cX11_farthestOf 5 (some .int) 3 [.ref (pw_ad G 71), .int a1, .int a2] m0 pw_Wi (fX11_farthestOf a1 a2 m0) :=
  pw_met (own := RX11) (l0 := [(0, .ref (pw_ad G 71)), (1, .int a1), (2, .int a2)]) rfl (by decide) rfl (Nat.le_of_ble_eq_true rfl) fun K hK hH => by
  delta fX11_farthestOf
  exact (pw_aload_n (pc := 0) dX11_farthestOf_0 0 rfl <|
pw_getR (o := 71) (k := 0) (t := 72) (pw_sh_71) cfX11 rfl (by decide) flX11_9 (pc := 1) dX11_farthestOf_1 <|
pw_aload_n (pc := 4) dX11_farthestOf_4 0 rfl <|
pw_getR (o := 71) (k := 1) (t := 73) (pw_sh_71) cfX11 rfl (by decide) flX11_13 (pc := 5) dX11_farthestOf_5 <|
pw_callS_wv (n := 2) (rest := []) (tX11_copies K.2.1 G pw_r72 pw_r73 m0) miX11_copies mlX11_112 (pc := 8) dX11_farthestOf_8 rfl rfl (by decide) (Nat.le_of_ble_eq_true rfl) fun m1 =>
pw_aload_n (pc := 11) dX11_farthestOf_11 0 rfl <|
pw_getR (o := 71) (k := 0) (t := 72) (pw_sh_71) cfX11 rfl (by decide) flX11_9 (pc := 12) dX11_farthestOf_12 <|
pw_iconst (v := 4) (pc := 15) dX11_farthestOf_15 (by decide) <|
pw_iload_n (pc := 16) dX11_farthestOf_16 1 rfl <|
pw_iadd (pc := 17) dX11_farthestOf_17 <|
pw_iald (pw_shRow pw_r72) (pc := 18) dX11_farthestOf_18 <|
pw_ltI fun x2 => pw_istore_n [(3, .int x2), (0, .ref (pw_ad G 71)), (1, .int a1), (2, .int a2)] (pc := 19) dX11_farthestOf_19 (by decide) rfl <|
pw_lp (fun (kk22 : Int32 → pw_Mem → Option (Int32 × pw_Mem)) => ∀ (v3 : Int32) (m4 : pw_Mem), PW K G RX11 cX11_farthestOf 5 (some .int) 3 (pw_MQ K G pw_Wi) (kk22 v3 m4) 20 [(3, .int v3), (0, .ref (pw_ad G 71)), (1, .int a1), (2, .int a2)] [] m4) (fun _ _ => pw_none) (fun nx5 hn6 v3 m4 => pw_iload_n (pc := 20) dX11_farthestOf_20 0 rfl <|
pw_iload_n (pc := 21) dX11_farthestOf_21 3 rfl <|
pw_iadd (pc := 22) dX11_farthestOf_22 <|
pw_callS_rz (n := 1) (rest := []) (tX11_isPlace K.2.1 G (v3 + a2) m4) miX11_isPlace mlX11_144 (pc := 23) dX11_farthestOf_23 rfl rfl (by decide) (Nat.le_of_ble_eq_true rfl) fun y7 =>
pw_ifz_eq (tgt := 81) (pc := 26) dX11_farthestOf_26 (by decide) (fun h20 => pw_aload_n (pc := 29) dX11_farthestOf_29 1 rfl <|
pw_getR (o := 71) (k := 1) (t := 73) (pw_sh_71) cfX11 rfl (by decide) flX11_13 (pc := 30) dX11_farthestOf_30 <|
pw_iconst (v := 4) (pc := 33) dX11_farthestOf_33 (by decide) <|
pw_iload_n (pc := 34) dX11_farthestOf_34 2 rfl <|
pw_iadd (pc := 35) dX11_farthestOf_35 <|
pw_iload_n (pc := 36) dX11_farthestOf_36 0 rfl <|
pw_iload_n (pc := 37) dX11_farthestOf_37 3 rfl <|
pw_iadd (pc := 38) dX11_farthestOf_38 <|
pw_iast (pw_shRow pw_r73) (pc := 39) dX11_farthestOf_39 <| pw_ltM fun m8 =>
pw_iconst (v := 0) (pc := 40) dX11_farthestOf_40 (by decide) <|
pw_istore [(4, .int (0 : Int32)), (3, .int v3), (0, .ref (pw_ad G 71)), (1, .int a1), (2, .int a2)] (pc := 41) dX11_farthestOf_41 (by decide) rfl <|
pw_lp (fun (kk19 : Int32 → Option (Int32 × pw_Mem)) => ∀ (v9 : Int32), PW K G RX11 cX11_farthestOf 5 (some .int) 3 (pw_MQ K G pw_Wi) (kk19 v9) 43 [(4, .int v9), (3, .int v3), (0, .ref (pw_ad G 71)), (1, .int a1), (2, .int a2)] [] m8) (fun _ => pw_none) (fun nx10 hn11 v9 => pw_iload (pc := 43) dX11_farthestOf_43 0 rfl <|
pw_aload_n (pc := 45) dX11_farthestOf_45 2 rfl <|
pw_getR (o := 71) (k := 1) (t := 73) (pw_sh_71) cfX11 rfl (by decide) flX11_13 (pc := 46) dX11_farthestOf_46 <|
pw_iconst (v := 1) (pc := 49) dX11_farthestOf_49 (by decide) <|
pw_iald (pw_shRow pw_r73) (pc := 50) dX11_farthestOf_50 <|
pw_icmp_ge  (tgt := 74) (pc := 51) dX11_farthestOf_51 (by decide) (fun h17 => pw_iload_n (pc := 74) dX11_farthestOf_74 1 rfl <|
pw_iload_n (pc := 75) dX11_farthestOf_75 4 rfl <|
pw_iadd (pc := 76) dX11_farthestOf_76 <|
pw_ltI fun x12 => pw_istore_n [(3, .int x12), (4, .int v9), (0, .ref (pw_ad G 71)), (1, .int a1), (2, .int a2)] (pc := 77) dX11_farthestOf_77 (by decide) rfl <|
pw_goto (tgt := 20) (pc := 78) dX11_farthestOf_78 (by decide) <|
pw_sub [0, 2, 3, 4] rfl <| hn6 x12 m8) (fun h18 => pw_aload_n (pc := 54) dX11_farthestOf_54 2 rfl <|
pw_getR (o := 71) (k := 1) (t := 73) (pw_sh_71) cfX11 rfl (by decide) flX11_13 (pc := 55) dX11_farthestOf_55 <|
pw_iload (pc := 58) dX11_farthestOf_58 0 rfl <|
pw_callS_rz (n := 2) (rest := []) (tX11_isOver K.2.1 G pw_r73 v9 m8) miX11_isOver mlX11_90 (pc := 60) dX11_farthestOf_60 rfl rfl (by decide) (Nat.le_of_ble_eq_true rfl) fun y13 =>
pw_ifz_eq (tgt := 68) (pc := 63) dX11_farthestOf_63 (by decide) (fun h15 => pw_iload_n (pc := 66) dX11_farthestOf_66 1 rfl <|
pw_iret (a := v3) (v := (v3, m8)) hH rfl (pc := 67) dX11_farthestOf_67) (fun h16 => pw_ltA fun x14 hxx14 => pw_iinc (v := x14) [(4, .int x14), (3, .int v3), (0, .ref (pw_ad G 71)), (1, .int a1), (2, .int a2)] (pc := 68) dX11_farthestOf_68 0 rfl (by rw [hxx14]; rfl) (by decide) rfl <|
pw_goto (tgt := 43) (pc := 71) dX11_farthestOf_71 (by decide) <|
hn11 x14))) FU (0 : Int32)) (fun h21 => pw_iload_n (pc := 81) dX11_farthestOf_81 0 rfl <|
pw_iret (a := v3) (v := (v3, m4)) hH rfl (pc := 82) dX11_farthestOf_82)) FU x2 m1)
set_option maxHeartbeats 4000000 in
theorem tX11_mayGo (l : Launch) (G : pw_G) (a1 : Int32) (a2 : Int32) (m0 : pw_Mem) : PMet l G yX11_mayGo cX11_mayGo 3 (some .int) 4 [.ref (pw_ad G 71), .int a1, .int a2] m0 pw_Wi (fX11_mayGo a1 a2 m0) :=
  pw_met (own := RX11) (l0 := [(0, .ref (pw_ad G 71)), (1, .int a1), (2, .int a2)]) rfl (by decide) rfl (Nat.le_of_ble_eq_true rfl) fun K hK hH => by
  delta fX11_mayGo
  exact (pw_aload_n (pc := 0) dX11_mayGo_0 0 rfl <|
pw_iload_n (pc := 1) dX11_mayGo_1 1 rfl <|
pw_callV_rz (n := 1) (rest := []) (tX11_isPerson K.2.1 G a1 m0) (pw_sh_71) cfX11 rfl miX11_isPerson mlX11_140 (pc := 2) dX11_mayGo_2 rfl rfl (by decide) (Nat.le_of_ble_eq_true rfl) fun y1 =>
pw_ifz_eq (tgt := 34) (pc := 5) dX11_mayGo_5 (by decide) (fun h11 => pw_iload_n (pc := 8) dX11_mayGo_8 2 rfl <|
pw_iconst (v := 0) (pc := 9) dX11_mayGo_9 (by decide) <|
pw_iconst (v := 1) (pc := 10) dX11_mayGo_10 (by decide) <|
pw_callS_rz (n := 3) (rest := []) (tX11_isIn K.2.1 G a2 (0 : Int32) (1 : Int32) m0) miX11_isIn mlX11_52 (pc := 11) dX11_mayGo_11 rfl rfl (by decide) (Nat.le_of_ble_eq_true rfl) fun y2 =>
pw_ifz_eq (tgt := 34) (pc := 14) dX11_mayGo_14 (by decide) (fun h9 => pw_aload_n (pc := 17) dX11_mayGo_17 0 rfl <|
pw_iload_n (pc := 18) dX11_mayGo_18 1 rfl <|
pw_iload_n (pc := 19) dX11_mayGo_19 2 rfl <|
pw_if_ne (a := a2) (b := 0) (tgt := 27) (pc := 20) dX11_mayGo_20 (by decide) (fun h7 => pw_iconst (v := 1) (pc := 27) dX11_mayGo_27 (by decide) <|
pw_callV_wi (n := 2) (rest := []) (tX11_farthestOf K.2.1 G a1 (1 : Int32) m0) (pw_sh_71) cfX11 rfl miX11_farthestOf mlX11_183 (pc := 28) dX11_mayGo_28 rfl rfl (by decide) (Nat.le_of_ble_eq_true rfl) fun y3 m4 =>
pw_goto (tgt := 35) (pc := 31) dX11_mayGo_31 (by decide) <|
pw_iret (a := y3) (v := (y3, m4)) hH rfl (pc := 35) dX11_mayGo_35) (fun h8 => pw_iconst (v := -1) (pc := 23) dX11_mayGo_23 (by decide) <|
pw_goto (tgt := 28) (pc := 24) dX11_mayGo_24 (by decide) <|
pw_callV_wi (n := 2) (rest := []) (tX11_farthestOf K.2.1 G a1 (-1 : Int32) m0) (pw_sh_71) cfX11 rfl miX11_farthestOf mlX11_183 (pc := 28) dX11_mayGo_28 rfl rfl (by decide) (Nat.le_of_ble_eq_true rfl) fun y5 m6 =>
pw_goto (tgt := 35) (pc := 31) dX11_mayGo_31 (by decide) <|
pw_iret (a := y5) (v := (y5, m6)) hH rfl (pc := 35) dX11_mayGo_35)) (fun h10 => pw_iconst (v := -1) (pc := 34) dX11_mayGo_34 (by decide) <|
pw_iret (a := (-1 : Int32)) (v := ((-1 : Int32), m0)) hH rfl (pc := 35) dX11_mayGo_35)) (fun h12 => pw_iconst (v := -1) (pc := 34) dX11_mayGo_34 (by decide) <|
pw_iret (a := (-1 : Int32)) (v := ((-1 : Int32), m0)) hH rfl (pc := 35) dX11_mayGo_35))
set_option maxHeartbeats 4000000 in
theorem tX11_rest (l : Launch) (G : pw_G) (a1 : Int32) (m0 : pw_Mem) : PMet l G yX11_rest cX11_rest 8 (some .int) 4 [.ref (pw_ad G 71), .int a1] m0 pw_Wi (fX11_rest a1 m0) :=
  pw_met (own := RX11) (l0 := [(0, .ref (pw_ad G 71)), (1, .int a1)]) rfl (by decide) rfl (Nat.le_of_ble_eq_true rfl) fun K hK hH => by
  delta fX11_rest
  exact (pw_aload_n (pc := 0) dX11_rest_0 0 rfl <|
pw_iload_n (pc := 1) dX11_rest_1 1 rfl <|
pw_callV_rz (n := 1) (rest := []) (tX11_isPerson K.2.1 G a1 m0) (pw_sh_71) cfX11 rfl miX11_isPerson mlX11_140 (pc := 2) dX11_rest_2 rfl rfl (by decide) (Nat.le_of_ble_eq_true rfl) fun y1 =>
pw_ifz_ne (tgt := 10) (pc := 5) dX11_rest_5 (by decide) (fun h27 => pw_aload_n (pc := 10) dX11_rest_10 0 rfl <|
pw_iload_n (pc := 11) dX11_rest_11 1 rfl <|
pw_iconst (v := -1) (pc := 12) dX11_rest_12 (by decide) <|
pw_callV_wi (n := 2) (rest := []) (tX11_farthestOf K.2.1 G a1 (-1 : Int32) m0) (pw_sh_71) cfX11 rfl miX11_farthestOf mlX11_183 (pc := 13) dX11_rest_13 rfl rfl (by decide) (Nat.le_of_ble_eq_true rfl) fun y2 m3 =>
pw_istore_n [(2, .int y2), (0, .ref (pw_ad G 71)), (1, .int a1)] (pc := 16) dX11_rest_16 (by decide) rfl <|
pw_aload_n (pc := 17) dX11_rest_17 1 rfl <|
pw_iload_n (pc := 18) dX11_rest_18 2 rfl <|
pw_iconst (v := 1) (pc := 19) dX11_rest_19 (by decide) <|
pw_callV_wi (n := 2) (rest := []) (tX11_farthestOf K.2.1 G a1 (1 : Int32) m3) (pw_sh_71) cfX11 rfl miX11_farthestOf mlX11_183 (pc := 20) dX11_rest_20 rfl rfl (by decide) (Nat.le_of_ble_eq_true rfl) fun y4 m5 =>
pw_istore_n [(3, .int y4), (2, .int y2), (0, .ref (pw_ad G 71)), (1, .int a1)] (pc := 23) dX11_rest_23 (by decide) rfl <|
pw_iload_n (pc := 24) dX11_rest_24 1 rfl <|
pw_istore [(4, .int y2), (3, .int y4), (2, .int y2), (0, .ref (pw_ad G 71)), (1, .int a1)] (pc := 25) dX11_rest_25 (by decide) rfl <|
pw_ldc (v := 1000000000) (pc := 27) dX11_rest_27 klX11_186 <|
pw_istore [(5, .int (1000000000 : Int32)), (4, .int y2), (3, .int y4), (2, .int y2), (0, .ref (pw_ad G 71)), (1, .int a1)] (pc := 29) dX11_rest_29 (by decide) rfl <|
pw_aload_n (pc := 31) dX11_rest_31 4 rfl <|
pw_getR (o := 71) (k := 0) (t := 72) (pw_sh_71) cfX11 rfl (by decide) flX11_9 (pc := 32) dX11_rest_32 <|
pw_aload_n (pc := 35) dX11_rest_35 4 rfl <|
pw_getR (o := 71) (k := 1) (t := 73) (pw_sh_71) cfX11 rfl (by decide) flX11_13 (pc := 36) dX11_rest_36 <|
pw_callS_wv (n := 2) (rest := []) (tX11_copies K.2.1 G pw_r72 pw_r73 m5) miX11_copies mlX11_112 (pc := 39) dX11_rest_39 rfl rfl (by decide) (Nat.le_of_ble_eq_true rfl) fun m6 =>
pw_iload_n (pc := 42) dX11_rest_42 3 rfl <|
pw_istore [(6, .int y2), (5, .int (1000000000 : Int32)), (4, .int y2), (3, .int y4), (2, .int y2), (0, .ref (pw_ad G 71)), (1, .int a1)] (pc := 43) dX11_rest_43 (by decide) rfl <|
pw_sub [0, 1, 2, 3, 5, 6] rfl <| pw_lp (fun (kk26 : Int32 → Int32 → Int32 → pw_Mem → Option (Int32 × pw_Mem)) => ∀ (v7 : Int32) (v8 : Int32) (v9 : Int32) (m10 : pw_Mem), PW K G RX11 cX11_rest 8 (some .int) 4 (pw_MQ K G pw_Wi) (kk26 v7 v8 v9 m10) 45 [(6, .int v9), (5, .int v8), (4, .int v7), (3, .int y4), (0, .ref (pw_ad G 71)), (1, .int a1)] [] m10) (fun _ _ _ _ => pw_none) (fun nx11 hn12 v7 v8 v9 m10 => pw_iload (pc := 45) dX11_rest_45 0 rfl <|
pw_iload_n (pc := 47) dX11_rest_47 3 rfl <|
pw_icmp_gt  (tgt := 108) (pc := 48) dX11_rest_48 (by decide) (fun h24 => pw_iload (pc := 108) dX11_rest_108 2 rfl <|
pw_iret (a := v7) (v := (v7, m10)) hH rfl (pc := 110) dX11_rest_110) (fun h25 => pw_aload_n (pc := 51) dX11_rest_51 4 rfl <|
pw_getR (o := 71) (k := 1) (t := 73) (pw_sh_71) cfX11 rfl (by decide) flX11_13 (pc := 52) dX11_rest_52 <|
pw_iconst (v := 4) (pc := 55) dX11_rest_55 (by decide) <|
pw_iload_n (pc := 56) dX11_rest_56 5 rfl <|
pw_iadd (pc := 57) dX11_rest_57 <|
pw_iload (pc := 58) dX11_rest_58 0 rfl <|
pw_iast (pw_shRow pw_r73) (pc := 60) dX11_rest_60 <| pw_ltM fun m13 =>
pw_aload_n (pc := 61) dX11_rest_61 4 rfl <|
pw_getR (o := 71) (k := 1) (t := 73) (pw_sh_71) cfX11 rfl (by decide) flX11_13 (pc := 62) dX11_rest_62 <|
pw_iload_n (pc := 65) dX11_rest_65 5 rfl <|
pw_iconst (v := 1) (pc := 66) dX11_rest_66 (by decide) <|
pw_callS_ri (n := 3) (rest := []) (tX11_pulled K.2.1 G pw_r73 a1 (1 : Int32) m13) miX11_pulled mlX11_116 (pc := 67) dX11_rest_67 rfl rfl (by decide) (Nat.le_of_ble_eq_true rfl) fun y14 =>
pw_aload_n (pc := 70) dX11_rest_70 4 rfl <|
pw_getR (o := 71) (k := 1) (t := 73) (pw_sh_71) cfX11 rfl (by decide) flX11_13 (pc := 71) dX11_rest_71 <|
pw_iload_n (pc := 74) dX11_rest_74 5 rfl <|
pw_iconst (v := -1) (pc := 75) dX11_rest_75 (by decide) <|
pw_callS_ri (n := 3) (rest := [.int y14]) (tX11_pulled K.2.1 G pw_r73 a1 (-1 : Int32) m13) miX11_pulled mlX11_116 (pc := 76) dX11_rest_76 rfl rfl (by decide) (Nat.le_of_ble_eq_true rfl) fun y15 =>
pw_callS_ri (n := 2) (rest := []) (tX11_far K.2.1 G y14 y15 m13) miX11_far mlX11_60 (pc := 79) dX11_rest_79 rfl rfl (by decide) (Nat.le_of_ble_eq_true rfl) fun y16 =>
pw_istore [(7, .int y16), (6, .int v9), (5, .int v8), (4, .int v7), (3, .int y4), (0, .ref (pw_ad G 71)), (1, .int a1)] (pc := 82) dX11_rest_82 (by decide) rfl <|
pw_iload (pc := 84) dX11_rest_84 0 rfl <|
pw_iload (pc := 86) dX11_rest_86 2 rfl <|
pw_jn (fun (k20 : Int32 → Int32 → Option (Int32 × pw_Mem)) => ∀ (v17 : Int32) (v18 : Int32), PW K G RX11 cX11_rest 8 (some .int) 4 (pw_MQ K G pw_Wi) (k20 v17 v18) 102 [(6, .int v9), (5, .int v18), (4, .int v17), (3, .int y4), (0, .ref (pw_ad G 71)), (1, .int a1)] [] m13) (fun v17 v18 => pw_ltA fun x19 hxx19 => pw_iinc (v := x19) [(6, .int x19), (5, .int v18), (4, .int v17), (3, .int y4), (0, .ref (pw_ad G 71)), (1, .int a1)] (pc := 102) dX11_rest_102 0 rfl (by rw [hxx19]; rfl) (by decide) rfl <|
pw_goto (tgt := 45) (pc := 105) dX11_rest_105 (by decide) <|
hn12 v17 v18 x19 m13) (fun k20 hk21 => pw_icmp_lt  (tgt := 94) (pc := 88) dX11_rest_88 (by decide) (fun h22 => pw_iload (pc := 94) dX11_rest_94 1 rfl <|
pw_istore [(4, .int v9), (7, .int y16), (6, .int v9), (5, .int v8), (3, .int y4), (0, .ref (pw_ad G 71)), (1, .int a1)] (pc := 96) dX11_rest_96 (by decide) rfl <|
pw_iload (pc := 98) dX11_rest_98 1 rfl <|
pw_istore [(5, .int y16), (4, .int v9), (7, .int y16), (6, .int v9), (3, .int y4), (0, .ref (pw_ad G 71)), (1, .int a1)] (pc := 100) dX11_rest_100 (by decide) rfl <|
pw_sub [3, 0, 1, 4, 5, 6] rfl <| hk21 v9 y16) (fun h23 => pw_goto (tgt := 102) (pc := 91) dX11_rest_91 (by decide) <|
pw_sub [1, 2, 3, 4, 5, 6] rfl <| hk21 v7 v8)))) FU y2 (1000000000 : Int32) y2 m6) (fun h28 => pw_iconst (v := -1) (pc := 8) dX11_rest_8 (by decide) <|
pw_iret (a := (-1 : Int32)) (v := ((-1 : Int32), m0)) hH rfl (pc := 9) dX11_rest_9))
set_option maxHeartbeats 4000000 in
theorem tX11_yearsOn (l : Launch) (G : pw_G) (a1 : Int32) (m0 : pw_Mem) : PMet l G yX11_yearsOn cX11_yearsOn 4 (none) 5 [.ref (pw_ad G 71), .int a1] m0 pw_Wv (fX11_yearsOn a1 m0) :=
  pw_met (own := RX11) (l0 := [(0, .ref (pw_ad G 71)), (1, .int a1)]) rfl (by decide) rfl (Nat.le_of_ble_eq_true rfl) fun K hK hH => by
  delta fX11_yearsOn
  exact (pw_aload_n (pc := 0) dX11_yearsOn_0 0 rfl <|
pw_getR (o := 71) (k := 0) (t := 72) (pw_sh_71) cfX11 rfl (by decide) flX11_9 (pc := 1) dX11_yearsOn_1 <|
pw_aload_n (pc := 4) dX11_yearsOn_4 0 rfl <|
pw_getR (o := 71) (k := 1) (t := 73) (pw_sh_71) cfX11 rfl (by decide) flX11_13 (pc := 5) dX11_yearsOn_5 <|
pw_callS_wv (n := 2) (rest := []) (tX11_copies K.2.1 G pw_r72 pw_r73 m0) miX11_copies mlX11_112 (pc := 8) dX11_yearsOn_8 rfl rfl (by decide) (Nat.le_of_ble_eq_true rfl) fun m1 =>
pw_iconst (v := 0) (pc := 11) dX11_yearsOn_11 (by decide) <|
pw_istore_n [(2, .int (0 : Int32)), (0, .ref (pw_ad G 71)), (1, .int a1)] (pc := 12) dX11_yearsOn_12 (by decide) rfl <|
pw_iconst (v := 0) (pc := 13) dX11_yearsOn_13 (by decide) <|
pw_istore_n [(3, .int (0 : Int32)), (2, .int (0 : Int32)), (0, .ref (pw_ad G 71)), (1, .int a1)] (pc := 14) dX11_yearsOn_14 (by decide) rfl <|
pw_lp (fun (kk13 : Int32 → Int32 → pw_Mem → Option pw_Mem) => ∀ (v2 : Int32) (v3 : Int32) (m4 : pw_Mem), PW K G RX11 cX11_yearsOn 4 (none) 5 (pw_MQ K G pw_Wv) (kk13 v2 v3 m4) 15 [(3, .int v3), (2, .int v2), (0, .ref (pw_ad G 71)), (1, .int a1)] [] m4) (fun _ _ _ => pw_none) (fun nx5 hn6 v2 v3 m4 => pw_iload_n (pc := 15) dX11_yearsOn_15 0 rfl <|
pw_iload_n (pc := 16) dX11_yearsOn_16 3 rfl <|
pw_icmp_ge  (tgt := 37) (pc := 17) dX11_yearsOn_17 (by decide) (fun h11 => pw_vret hH rfl (pc := 37) dX11_yearsOn_37) (fun h12 => pw_iload_n (pc := 20) dX11_yearsOn_20 1 rfl <|
pw_aload_n (pc := 21) dX11_yearsOn_21 2 rfl <|
pw_aload_n (pc := 22) dX11_yearsOn_22 2 rfl <|
pw_getR (o := 71) (k := 1) (t := 73) (pw_sh_71) cfX11 rfl (by decide) flX11_13 (pc := 23) dX11_yearsOn_23 <|
pw_callV_wi (n := 1) (rest := [.int v2]) (tX11_year K.2.1 G pw_r73 m4) (pw_sh_71) cfX11 rfl miX11_year mlX11_161 (pc := 26) dX11_yearsOn_26 rfl rfl (by decide) (Nat.le_of_ble_eq_true rfl) fun y7 m8 =>
pw_ior (pc := 29) dX11_yearsOn_29 <|
pw_ltI fun x9 => pw_istore_n [(2, .int x9), (3, .int v3), (0, .ref (pw_ad G 71)), (1, .int a1)] (pc := 30) dX11_yearsOn_30 (by decide) rfl <|
pw_ltA fun x10 hxx10 => pw_iinc (v := x10) [(3, .int x10), (2, .int x9), (0, .ref (pw_ad G 71)), (1, .int a1)] (pc := 31) dX11_yearsOn_31 1 rfl (by rw [hxx10]; rfl) (by decide) rfl <|
pw_goto (tgt := 15) (pc := 34) dX11_yearsOn_34 (by decide) <|
hn6 x9 x10 m8)) FU (0 : Int32) (0 : Int32) m1)
set_option maxHeartbeats 4000000 in
theorem tX11_placeIn (l : Launch) (G : pw_G) (a1 : Int32) (a2 : Int32) (m0 : pw_Mem) : PMet l G yX11_placeIn cX11_placeIn 3 (some .int) 6 [.ref (pw_ad G 71), .int a1, .int a2] m0 pw_Wi (fX11_placeIn a1 a2 m0) :=
  pw_met (own := RX11) (l0 := [(0, .ref (pw_ad G 71)), (1, .int a1), (2, .int a2)]) rfl (by decide) rfl (Nat.le_of_ble_eq_true rfl) fun K hK hH => by
  delta fX11_placeIn
  exact (pw_aload_n (pc := 0) dX11_placeIn_0 0 rfl <|
pw_iload_n (pc := 1) dX11_placeIn_1 1 rfl <|
pw_callV_rz (n := 1) (rest := []) (tX11_isPerson K.2.1 G a1 m0) (pw_sh_71) cfX11 rfl miX11_isPerson mlX11_140 (pc := 2) dX11_placeIn_2 rfl rfl (by decide) (Nat.le_of_ble_eq_true rfl) fun y1 =>
pw_ifz_eq (tgt := 18) (pc := 5) dX11_placeIn_5 (by decide) (fun h6 => pw_iload_n (pc := 8) dX11_placeIn_8 2 rfl <|
pw_iconst (v := 0) (pc := 9) dX11_placeIn_9 (by decide) <|
pw_bipush (v := 60) (pc := 10) dX11_placeIn_10 (by decide) <|
pw_callS_rz (n := 3) (rest := []) (tX11_isIn K.2.1 G a2 (0 : Int32) (60 : Int32) m0) miX11_isIn mlX11_52 (pc := 12) dX11_placeIn_12 rfl rfl (by decide) (Nat.le_of_ble_eq_true rfl) fun y2 =>
pw_ifz_ne (tgt := 20) (pc := 15) dX11_placeIn_15 (by decide) (fun h4 => pw_aload_n (pc := 20) dX11_placeIn_20 0 rfl <|
pw_iload_n (pc := 21) dX11_placeIn_21 2 rfl <|
pw_callV_wv (n := 1) (rest := []) (tX11_yearsOn K.2.1 G a2 m0) (pw_sh_71) cfX11 rfl miX11_yearsOn mlX11_187 (pc := 22) dX11_placeIn_22 rfl rfl (by decide) (Nat.le_of_ble_eq_true rfl) fun m3 =>
pw_aload_n (pc := 25) dX11_placeIn_25 0 rfl <|
pw_getR (o := 71) (k := 1) (t := 73) (pw_sh_71) cfX11 rfl (by decide) flX11_13 (pc := 26) dX11_placeIn_26 <|
pw_iconst (v := 4) (pc := 29) dX11_placeIn_29 (by decide) <|
pw_iload_n (pc := 30) dX11_placeIn_30 1 rfl <|
pw_iadd (pc := 31) dX11_placeIn_31 <|
pw_iald (pw_shRow pw_r73) (pc := 32) dX11_placeIn_32 <|
pw_iret (a := (m3 73 ((4 : Int32) + a1).toNatClampNeg)) (v := (m3 73 ((4 : Int32) + a1).toNatClampNeg, m3)) hH rfl (pc := 33) dX11_placeIn_33) (fun h5 => pw_iconst (v := -1) (pc := 18) dX11_placeIn_18 (by decide) <|
pw_iret (a := (-1 : Int32)) (v := ((-1 : Int32), m0)) hH rfl (pc := 19) dX11_placeIn_19)) (fun h7 => pw_iconst (v := -1) (pc := 18) dX11_placeIn_18 (by decide) <|
pw_iret (a := (-1 : Int32)) (v := ((-1 : Int32), m0)) hH rfl (pc := 19) dX11_placeIn_19))
set_option maxHeartbeats 4000000 in
theorem tX11_snappedIn (l : Launch) (G : pw_G) (a1 : Int32) (m0 : pw_Mem) : PMet l G yX11_snappedIn cX11_snappedIn 2 (some .int) 6 [.ref (pw_ad G 71), .int a1] m0 pw_Wi (fX11_snappedIn a1 m0) :=
  pw_met (own := RX11) (l0 := [(0, .ref (pw_ad G 71)), (1, .int a1)]) rfl (by decide) rfl (Nat.le_of_ble_eq_true rfl) fun K hK hH => by
  delta fX11_snappedIn
  exact (pw_iload_n (pc := 0) dX11_snappedIn_0 1 rfl <|
pw_iconst (v := 0) (pc := 1) dX11_snappedIn_1 (by decide) <|
pw_bipush (v := 60) (pc := 2) dX11_snappedIn_2 (by decide) <|
pw_callS_rz (n := 3) (rest := []) (tX11_isIn K.2.1 G a1 (0 : Int32) (60 : Int32) m0) miX11_isIn mlX11_52 (pc := 4) dX11_snappedIn_4 rfl rfl (by decide) (Nat.le_of_ble_eq_true rfl) fun y1 =>
pw_ifz_ne (tgt := 12) (pc := 7) dX11_snappedIn_7 (by decide) (fun h4 => pw_aload_n (pc := 12) dX11_snappedIn_12 0 rfl <|
pw_iload_n (pc := 13) dX11_snappedIn_13 1 rfl <|
pw_callV_wv (n := 1) (rest := []) (tX11_yearsOn K.2.1 G a1 m0) (pw_sh_71) cfX11 rfl miX11_yearsOn mlX11_187 (pc := 14) dX11_snappedIn_14 rfl rfl (by decide) (Nat.le_of_ble_eq_true rfl) fun m2 =>
pw_aload_n (pc := 17) dX11_snappedIn_17 0 rfl <|
pw_getR (o := 71) (k := 1) (t := 73) (pw_sh_71) cfX11 rfl (by decide) flX11_13 (pc := 18) dX11_snappedIn_18 <|
pw_callS_ri (n := 1) (rest := []) (tX11_snappedSet K.2.1 G pw_r73 m2) miX11_snappedSet mlX11_120 (pc := 21) dX11_snappedIn_21 rfl rfl (by decide) (Nat.le_of_ble_eq_true rfl) fun y3 =>
pw_iret (a := y3) (v := (y3, m2)) hH rfl (pc := 24) dX11_snappedIn_24) (fun h5 => pw_iconst (v := -1) (pc := 10) dX11_snappedIn_10 (by decide) <|
pw_iret (a := (-1 : Int32)) (v := ((-1 : Int32), m0)) hH rfl (pc := 11) dX11_snappedIn_11))
set_option maxHeartbeats 4000000 in
theorem tX11_still (l : Launch) (G : pw_G)  (m0 : pw_Mem) : PMet l G yX11_still cX11_still 4 (some .int) 5 [.ref (pw_ad G 71)] m0 pw_Wi (fX11_still m0) :=
  pw_met (own := RX11) (l0 := [(0, .ref (pw_ad G 71))]) rfl (by decide) rfl (Nat.le_of_ble_eq_true rfl) fun K hK hH => by
  delta fX11_still
  exact (pw_aload_n (pc := 0) dX11_still_0 0 rfl <|
pw_getR (o := 71) (k := 0) (t := 72) (pw_sh_71) cfX11 rfl (by decide) flX11_9 (pc := 1) dX11_still_1 <|
pw_aload_n (pc := 4) dX11_still_4 0 rfl <|
pw_getR (o := 71) (k := 1) (t := 73) (pw_sh_71) cfX11 rfl (by decide) flX11_13 (pc := 5) dX11_still_5 <|
pw_callS_wv (n := 2) (rest := []) (tX11_copies K.2.1 G pw_r72 pw_r73 m0) miX11_copies mlX11_112 (pc := 8) dX11_still_8 rfl rfl (by decide) (Nat.le_of_ble_eq_true rfl) fun m1 =>
pw_iconst (v := 0) (pc := 11) dX11_still_11 (by decide) <|
pw_istore_n [(1, .int (0 : Int32)), (0, .ref (pw_ad G 71))] (pc := 12) dX11_still_12 (by decide) rfl <|
pw_lp (fun (kk33 : Int32 → pw_Mem → Option (Int32 × pw_Mem)) => ∀ (v2 : Int32) (m3 : pw_Mem), PW K G RX11 cX11_still 4 (some .int) 5 (pw_MQ K G pw_Wi) (kk33 v2 m3) 13 [(1, .int v2), (0, .ref (pw_ad G 71))] [] m3) (fun _ _ => pw_none) (fun nx4 hn5 v2 m3 => pw_iload_n (pc := 13) dX11_still_13 0 rfl <|
pw_bipush (v := 60) (pc := 14) dX11_still_14 (by decide) <|
pw_icmp_gt  (tgt := 104) (pc := 16) dX11_still_16 (by decide) (fun h31 => pw_bipush (v := -4) (pc := 104) dX11_still_104 (by decide) <|
pw_iret (a := (-4 : Int32)) (v := ((-4 : Int32), m3)) hH rfl (pc := 106) dX11_still_106) (fun h32 => pw_aload_n (pc := 19) dX11_still_19 1 rfl <|
pw_getR (o := 71) (k := 1) (t := 73) (pw_sh_71) cfX11 rfl (by decide) flX11_13 (pc := 20) dX11_still_20 <|
pw_aload_n (pc := 23) dX11_still_23 1 rfl <|
pw_getR (o := 71) (k := 3) (t := 75) (pw_sh_71) cfX11 rfl (by decide) flX11_19 (pc := 24) dX11_still_24 <|
pw_callS_wv (n := 2) (rest := []) (tX11_copies K.2.1 G pw_r73 pw_r75 m3) miX11_copies mlX11_112 (pc := 27) dX11_still_27 rfl rfl (by decide) (Nat.le_of_ble_eq_true rfl) fun m6 =>
pw_aload_n (pc := 30) dX11_still_30 1 rfl <|
pw_aload_n (pc := 31) dX11_still_31 1 rfl <|
pw_getR (o := 71) (k := 1) (t := 73) (pw_sh_71) cfX11 rfl (by decide) flX11_13 (pc := 32) dX11_still_32 <|
pw_callV_wi (n := 1) (rest := []) (tX11_year K.2.1 G pw_r73 m6) (pw_sh_71) cfX11 rfl miX11_year mlX11_161 (pc := 35) dX11_still_35 rfl rfl (by decide) (Nat.le_of_ble_eq_true rfl) fun y7 m8 =>
pw_jn (fun (k27 : Int32 → Option (Int32 × pw_Mem)) => ∀ (w9 : Int32), PW K G RX11 cX11_still 4 (some .int) 5 (pw_MQ K G pw_Wi) (k27 w9) 46 [(1, .int v2), (0, .ref (pw_ad G 71))] [.int w9] m8) (fun w9 => pw_istore_n [(2, .int w9), (1, .int v2), (0, .ref (pw_ad G 71))] (pc := 46) dX11_still_46 (by decide) rfl <|
pw_iconst (v := 0) (pc := 47) dX11_still_47 (by decide) <|
pw_istore_n [(3, .int (0 : Int32)), (2, .int w9), (1, .int v2), (0, .ref (pw_ad G 71))] (pc := 48) dX11_still_48 (by decide) rfl <|
pw_lp (fun (kk26 : Int32 → Int32 → Option (Int32 × pw_Mem)) => ∀ (v10 : Int32) (v11 : Int32), PW K G RX11 cX11_still 4 (some .int) 5 (pw_MQ K G pw_Wi) (kk26 v10 v11) 49 [(3, .int v11), (2, .int v10), (1, .int v2), (0, .ref (pw_ad G 71))] [] m8) (fun _ _ => pw_none) (fun nx12 hn13 v10 v11 => pw_iload_n (pc := 49) dX11_still_49 0 rfl <|
pw_aload_n (pc := 50) dX11_still_50 3 rfl <|
pw_getR (o := 71) (k := 1) (t := 73) (pw_sh_71) cfX11 rfl (by decide) flX11_13 (pc := 51) dX11_still_51 <|
pw_iconst (v := 0) (pc := 54) dX11_still_54 (by decide) <|
pw_iald (pw_shRow pw_r73) (pc := 55) dX11_still_55 <|
pw_icmp_ge  (tgt := 92) (pc := 56) dX11_still_56 (by decide) (fun h24 => pw_iload_n (pc := 92) dX11_still_92 1 rfl <|
pw_if_eq (a := v10) (b := 0) (tgt := 98) (pc := 93) dX11_still_93 (by decide) (fun h15 => pw_ltA fun x14 hxx14 => pw_iinc (v := x14) [(1, .int x14), (3, .int v11), (2, .int v10), (0, .ref (pw_ad G 71))] (pc := 98) dX11_still_98 2 rfl (by rw [hxx14]; rfl) (by decide) rfl <|
pw_goto (tgt := 13) (pc := 101) dX11_still_101 (by decide) <|
pw_sub [0, 3] rfl <| hn5 x14 m8) (fun h16 => pw_iload_n (pc := 96) dX11_still_96 2 rfl <|
pw_iret (a := v2) (v := (v2, m8)) hH rfl (pc := 97) dX11_still_97)) (fun h25 => pw_iload_n (pc := 59) dX11_still_59 1 rfl <|
pw_aload_n (pc := 60) dX11_still_60 3 rfl <|
pw_getR (o := 71) (k := 1) (t := 73) (pw_sh_71) cfX11 rfl (by decide) flX11_13 (pc := 61) dX11_still_61 <|
pw_iconst (v := 4) (pc := 64) dX11_still_64 (by decide) <|
pw_iload_n (pc := 65) dX11_still_65 0 rfl <|
pw_iadd (pc := 66) dX11_still_66 <|
pw_iald (pw_shRow pw_r73) (pc := 67) dX11_still_67 <|
pw_aload_n (pc := 68) dX11_still_68 3 rfl <|
pw_getR (o := 71) (k := 3) (t := 75) (pw_sh_71) cfX11 rfl (by decide) flX11_19 (pc := 69) dX11_still_69 <|
pw_iconst (v := 4) (pc := 72) dX11_still_72 (by decide) <|
pw_iload_n (pc := 73) dX11_still_73 0 rfl <|
pw_iadd (pc := 74) dX11_still_74 <|
pw_iald (pw_shRow pw_r75) (pc := 75) dX11_still_75 <|
pw_jn (fun (k20 : Int32 → Option (Int32 × pw_Mem)) => ∀ (w17 : Int32), PW K G RX11 cX11_still 4 (some .int) 5 (pw_MQ K G pw_Wi) (k20 w17) 84 [(3, .int v11), (1, .int v2), (0, .ref (pw_ad G 71))] [.int w17, .int v10] m8) (fun w17 => pw_iand (pc := 84) dX11_still_84 <|
pw_ltI fun x18 => pw_istore_n [(2, .int x18), (3, .int v11), (1, .int v2), (0, .ref (pw_ad G 71))] (pc := 85) dX11_still_85 (by decide) rfl <|
pw_ltA fun x19 hxx19 => pw_iinc (v := x19) [(3, .int x19), (2, .int x18), (1, .int v2), (0, .ref (pw_ad G 71))] (pc := 86) dX11_still_86 1 rfl (by rw [hxx19]; rfl) (by decide) rfl <|
pw_goto (tgt := 49) (pc := 89) dX11_still_89 (by decide) <|
hn13 x18 x19) (fun k20 hk21 => pw_icmp_ne  (tgt := 83) (pc := 76) dX11_still_76 (by decide) (fun h22 => pw_iconst (v := 0) (pc := 83) dX11_still_83 (by decide) <|
pw_sub [0, 2, 3] rfl <| hk21 (0 : Int32)) (fun h23 => pw_iconst (v := 1) (pc := 79) dX11_still_79 (by decide) <|
pw_goto (tgt := 84) (pc := 80) dX11_still_80 (by decide) <|
pw_sub [0, 2, 3] rfl <| hk21 (1 : Int32))))) FU w9 (0 : Int32)) (fun k27 hk28 => pw_if_ne (a := y7) (b := 0) (tgt := 45) (pc := 38) dX11_still_38 (by decide) (fun h29 => pw_iconst (v := 0) (pc := 45) dX11_still_45 (by decide) <|
hk28 (0 : Int32)) (fun h30 => pw_iconst (v := 1) (pc := 41) dX11_still_41 (by decide) <|
pw_goto (tgt := 46) (pc := 42) dX11_still_42 (by decide) <|
hk28 (1 : Int32))))) FU (0 : Int32) m1)
set_option maxHeartbeats 4000000 in
theorem tX11_firstSnap (l : Launch) (G : pw_G) (a1 : Int32) (m0 : pw_Mem) : PMet l G yX11_firstSnap cX11_firstSnap 5 (some .int) 5 [.ref (pw_ad G 71), .int a1] m0 pw_Wi (fX11_firstSnap a1 m0) :=
  pw_met (own := RX11) (l0 := [(0, .ref (pw_ad G 71)), (1, .int a1)]) rfl (by decide) rfl (Nat.le_of_ble_eq_true rfl) fun K hK hH => by
  delta fX11_firstSnap
  exact (pw_iload_n (pc := 0) dX11_firstSnap_0 1 rfl <|
pw_iconst (v := 0) (pc := 1) dX11_firstSnap_1 (by decide) <|
pw_iconst (v := 1) (pc := 2) dX11_firstSnap_2 (by decide) <|
pw_callS_rz (n := 3) (rest := []) (tX11_isIn K.2.1 G a1 (0 : Int32) (1 : Int32) m0) miX11_isIn mlX11_52 (pc := 3) dX11_firstSnap_3 rfl rfl (by decide) (Nat.le_of_ble_eq_true rfl) fun y1 =>
pw_ifz_ne (tgt := 11) (pc := 6) dX11_firstSnap_6 (by decide) (fun h29 => pw_aload_n (pc := 11) dX11_firstSnap_11 0 rfl <|
pw_getR (o := 71) (k := 0) (t := 72) (pw_sh_71) cfX11 rfl (by decide) flX11_9 (pc := 12) dX11_firstSnap_12 <|
pw_aload_n (pc := 15) dX11_firstSnap_15 0 rfl <|
pw_getR (o := 71) (k := 1) (t := 73) (pw_sh_71) cfX11 rfl (by decide) flX11_13 (pc := 16) dX11_firstSnap_16 <|
pw_callS_wv (n := 2) (rest := []) (tX11_copies K.2.1 G pw_r72 pw_r73 m0) miX11_copies mlX11_112 (pc := 19) dX11_firstSnap_19 rfl rfl (by decide) (Nat.le_of_ble_eq_true rfl) fun m2 =>
pw_iconst (v := 1) (pc := 22) dX11_firstSnap_22 (by decide) <|
pw_istore_n [(2, .int (1 : Int32)), (0, .ref (pw_ad G 71)), (1, .int a1)] (pc := 23) dX11_firstSnap_23 (by decide) rfl <|
pw_lp (fun (kk28 : Int32 → pw_Mem → Option (Int32 × pw_Mem)) => ∀ (v3 : Int32) (m4 : pw_Mem), PW K G RX11 cX11_firstSnap 5 (some .int) 5 (pw_MQ K G pw_Wi) (kk28 v3 m4) 24 [(2, .int v3), (0, .ref (pw_ad G 71)), (1, .int a1)] [] m4) (fun _ _ => pw_none) (fun nx5 hn6 v3 m4 => pw_iload_n (pc := 24) dX11_firstSnap_24 0 rfl <|
pw_bipush (v := 60) (pc := 25) dX11_firstSnap_25 (by decide) <|
pw_icmp_gt  (tgt := 82) (pc := 27) dX11_firstSnap_27 (by decide) (fun h26 => pw_bipush (v := -4) (pc := 82) dX11_firstSnap_82 (by decide) <|
pw_iret (a := (-4 : Int32)) (v := ((-4 : Int32), m4)) hH rfl (pc := 84) dX11_firstSnap_84) (fun h27 => pw_aload_n (pc := 30) dX11_firstSnap_30 1 rfl <|
pw_aload_n (pc := 31) dX11_firstSnap_31 1 rfl <|
pw_getR (o := 71) (k := 1) (t := 73) (pw_sh_71) cfX11 rfl (by decide) flX11_13 (pc := 32) dX11_firstSnap_32 <|
pw_callV_wi (n := 1) (rest := []) (tX11_year K.2.1 G pw_r73 m4) (pw_sh_71) cfX11 rfl miX11_year mlX11_161 (pc := 35) dX11_firstSnap_35 rfl rfl (by decide) (Nat.le_of_ble_eq_true rfl) fun y7 m8 =>
pw_istore_n [(3, .int y7), (2, .int v3), (0, .ref (pw_ad G 71)), (1, .int a1)] (pc := 38) dX11_firstSnap_38 (by decide) rfl <|
pw_iconst (v := 0) (pc := 39) dX11_firstSnap_39 (by decide) <|
pw_istore [(4, .int (0 : Int32)), (3, .int y7), (2, .int v3), (0, .ref (pw_ad G 71)), (1, .int a1)] (pc := 40) dX11_firstSnap_40 (by decide) rfl <|
pw_lp (fun (kk25 : Int32 → Option (Int32 × pw_Mem)) => ∀ (v9 : Int32), PW K G RX11 cX11_firstSnap 5 (some .int) 5 (pw_MQ K G pw_Wi) (kk25 v9) 42 [(4, .int v9), (3, .int y7), (2, .int v3), (0, .ref (pw_ad G 71)), (1, .int a1)] [] m8) (fun _ => pw_none) (fun nx10 hn11 v9 => pw_iload_n (pc := 42) dX11_firstSnap_42 1 rfl <|
pw_jn (fun (k17 : Option (Int32 × pw_Mem)) => PW K G RX11 cX11_firstSnap 5 (some .int) 5 (pw_MQ K G pw_Wi) k17 61 [(4, .int v9), (3, .int y7), (2, .int v3), (0, .ref (pw_ad G 71)), (1, .int a1)] [] m8) (pw_iload_n (pc := 61) dX11_firstSnap_61 1 rfl <|
pw_if_eq (a := y7) (b := 0) (tgt := 76) (pc := 62) dX11_firstSnap_62 (by decide) (fun h15 => pw_ltA fun x12 hxx12 => pw_iinc (v := x12) [(2, .int x12), (4, .int v9), (3, .int y7), (0, .ref (pw_ad G 71)), (1, .int a1)] (pc := 76) dX11_firstSnap_76 2 rfl (by rw [hxx12]; rfl) (by decide) rfl <|
pw_goto (tgt := 24) (pc := 79) dX11_firstSnap_79 (by decide) <|
pw_sub [0, 3, 4] rfl <| hn6 x12 m8) (fun h16 => pw_iload_n (pc := 65) dX11_firstSnap_65 4 rfl <|
pw_if_ne (a := a1) (b := 0) (tgt := 73) (pc := 66) dX11_firstSnap_66 (by decide) (fun h13 => pw_iload (pc := 73) dX11_firstSnap_73 0 rfl <|
pw_iret (a := v9) (v := (v9, m8)) hH rfl (pc := 75) dX11_firstSnap_75) (fun h14 => pw_iload_n (pc := 69) dX11_firstSnap_69 2 rfl <|
pw_goto (tgt := 75) (pc := 70) dX11_firstSnap_70 (by decide) <|
pw_iret (a := v3) (v := (v3, m8)) hH rfl (pc := 75) dX11_firstSnap_75))) (fun k17 hk18 => pw_if_eq (a := y7) (b := 0) (tgt := 61) (pc := 43) dX11_firstSnap_43 (by decide) (fun h23 => hk18) (fun h24 => pw_iload_n (pc := 46) dX11_firstSnap_46 1 rfl <|
pw_iload (pc := 47) dX11_firstSnap_47 0 rfl <|
pw_callS_rz (n := 2) (rest := []) (tX11_has K.2.1 G y7 v9 m8) miX11_has mlX11_93 (pc := 49) dX11_firstSnap_49 rfl rfl (by decide) (Nat.le_of_ble_eq_true rfl) fun y19 =>
pw_ifz_ne (tgt := 61) (pc := 52) dX11_firstSnap_52 (by decide) (fun h21 => hk18) (fun h22 => pw_ltA fun x20 hxx20 => pw_iinc (v := x20) [(4, .int x20), (3, .int y7), (2, .int v3), (0, .ref (pw_ad G 71)), (1, .int a1)] (pc := 55) dX11_firstSnap_55 0 rfl (by rw [hxx20]; rfl) (by decide) rfl <|
pw_goto (tgt := 42) (pc := 58) dX11_firstSnap_58 (by decide) <|
hn11 x20)))) FU (0 : Int32))) FU (1 : Int32) m2) (fun h30 => pw_iconst (v := -1) (pc := 9) dX11_firstSnap_9 (by decide) <|
pw_iret (a := (-1 : Int32)) (v := ((-1 : Int32), m0)) hH rfl (pc := 10) dX11_firstSnap_10))
set_option maxHeartbeats 4000000 in
theorem tX11_farAll (l : Launch) (G : pw_G) (a1 : Int32) (m0 : pw_Mem) : PMet l G yX11_farAll cX11_farAll 4 (some .int) 1 [.ref (pw_ad G 71), .int a1] m0 (pw_Ri m0) (fX11_farAll a1 m0) :=
  pw_met (own := RX11) (l0 := [(0, .ref (pw_ad G 71)), (1, .int a1)]) rfl (by decide) rfl (Nat.le_of_ble_eq_true rfl) fun K hK hH => by
  delta fX11_farAll
  exact (pw_iconst (v := 0) (pc := 0) dX11_farAll_0 (by decide) <|
pw_istore_n [(2, .int (0 : Int32)), (0, .ref (pw_ad G 71)), (1, .int a1)] (pc := 1) dX11_farAll_1 (by decide) rfl <|
pw_iconst (v := 0) (pc := 2) dX11_farAll_2 (by decide) <|
pw_istore_n [(3, .int (0 : Int32)), (2, .int (0 : Int32)), (0, .ref (pw_ad G 71)), (1, .int a1)] (pc := 3) dX11_farAll_3 (by decide) rfl <|
pw_lp (fun (kk10 : Int32 → Int32 → Option Int32) => ∀ (v1 : Int32) (v2 : Int32), PW K G RX11 cX11_farAll 4 (some .int) 1 (pw_MQ K G (pw_Ri m0)) (kk10 v1 v2) 4 [(3, .int v2), (2, .int v1), (0, .ref (pw_ad G 71)), (1, .int a1)] [] m0) (fun _ _ => pw_none) (fun nx3 hn4 v1 v2 => pw_iload_n (pc := 4) dX11_farAll_4 0 rfl <|
pw_aload_n (pc := 5) dX11_farAll_5 2 rfl <|
pw_getR (o := 71) (k := 0) (t := 72) (pw_sh_71) cfX11 rfl (by decide) flX11_9 (pc := 6) dX11_farAll_6 <|
pw_iconst (v := 0) (pc := 9) dX11_farAll_9 (by decide) <|
pw_iald (pw_shRow pw_r72) (pc := 10) dX11_farAll_10 <|
pw_icmp_ge  (tgt := 35) (pc := 11) dX11_farAll_11 (by decide) (fun h8 => pw_iload_n (pc := 35) dX11_farAll_35 1 rfl <|
pw_iret (a := v1) (v := v1) hH rfl (pc := 36) dX11_farAll_36) (fun h9 => pw_iload_n (pc := 14) dX11_farAll_14 1 rfl <|
pw_iload_n (pc := 15) dX11_farAll_15 3 rfl <|
pw_aload_n (pc := 16) dX11_farAll_16 2 rfl <|
pw_getR (o := 71) (k := 0) (t := 72) (pw_sh_71) cfX11 rfl (by decide) flX11_9 (pc := 17) dX11_farAll_17 <|
pw_iconst (v := 4) (pc := 20) dX11_farAll_20 (by decide) <|
pw_iload_n (pc := 21) dX11_farAll_21 0 rfl <|
pw_iadd (pc := 22) dX11_farAll_22 <|
pw_iald (pw_shRow pw_r72) (pc := 23) dX11_farAll_23 <|
pw_callS_ri (n := 2) (rest := [.int v1]) (tX11_far K.2.1 G a1 (m0 72 ((4 : Int32) + v2).toNatClampNeg) m0) miX11_far mlX11_60 (pc := 24) dX11_farAll_24 rfl rfl (by decide) (Nat.le_of_ble_eq_true rfl) fun y5 =>
pw_iadd (pc := 27) dX11_farAll_27 <|
pw_ltI fun x6 => pw_istore_n [(2, .int x6), (3, .int v2), (0, .ref (pw_ad G 71)), (1, .int a1)] (pc := 28) dX11_farAll_28 (by decide) rfl <|
pw_ltA fun x7 hxx7 => pw_iinc (v := x7) [(3, .int x7), (2, .int x6), (0, .ref (pw_ad G 71)), (1, .int a1)] (pc := 29) dX11_farAll_29 1 rfl (by rw [hxx7]; rfl) (by decide) rfl <|
pw_goto (tgt := 4) (pc := 32) dX11_farAll_32 (by decide) <|
hn4 x6 x7)) FU (0 : Int32) (0 : Int32))
set_option maxHeartbeats 4000000 in
theorem tX11_christmasPlace (l : Launch) (G : pw_G)  (m0 : pw_Mem) : PMet l G yX11_christmasPlace cX11_christmasPlace 3 (some .int) 2 [.ref (pw_ad G 71)] m0 (pw_Ri m0) (fX11_christmasPlace m0) :=
  pw_met (own := RX11) (l0 := [(0, .ref (pw_ad G 71))]) rfl (by decide) rfl (Nat.le_of_ble_eq_true rfl) fun K hK hH => by
  delta fX11_christmasPlace
  exact (pw_iconst (v := 0) (pc := 0) dX11_christmasPlace_0 (by decide) <|
pw_istore_n [(1, .int (0 : Int32)), (0, .ref (pw_ad G 71))] (pc := 1) dX11_christmasPlace_1 (by decide) rfl <|
pw_iconst (v := 1) (pc := 2) dX11_christmasPlace_2 (by decide) <|
pw_istore_n [(2, .int (1 : Int32)), (1, .int (0 : Int32)), (0, .ref (pw_ad G 71))] (pc := 3) dX11_christmasPlace_3 (by decide) rfl <|
pw_lp (fun (kk15 : Int32 → Int32 → Option Int32) => ∀ (v1 : Int32) (v2 : Int32), PW K G RX11 cX11_christmasPlace 3 (some .int) 2 (pw_MQ K G (pw_Ri m0)) (kk15 v1 v2) 4 [(2, .int v2), (1, .int v1), (0, .ref (pw_ad G 71))] [] m0) (fun _ _ => pw_none) (fun nx3 hn4 v1 v2 => pw_iload_n (pc := 4) dX11_christmasPlace_4 0 rfl <|
pw_bipush (v := 30) (pc := 5) dX11_christmasPlace_5 (by decide) <|
pw_icmp_gt  (tgt := 31) (pc := 7) dX11_christmasPlace_7 (by decide) (fun h13 => pw_iload_n (pc := 31) dX11_christmasPlace_31 1 rfl <|
pw_iret (a := v1) (v := v1) hH rfl (pc := 32) dX11_christmasPlace_32) (fun h14 => pw_aload_n (pc := 10) dX11_christmasPlace_10 2 rfl <|
pw_iload_n (pc := 11) dX11_christmasPlace_11 0 rfl <|
pw_callV_ri (n := 1) (rest := []) (tX11_farAll K.2.1 G v2 m0) (pw_sh_71) cfX11 rfl miX11_farAll mlX11_190 (pc := 12) dX11_christmasPlace_12 rfl rfl (by decide) (Nat.le_of_ble_eq_true rfl) fun y5 =>
pw_aload_n (pc := 15) dX11_christmasPlace_15 2 rfl <|
pw_iload_n (pc := 16) dX11_christmasPlace_16 1 rfl <|
pw_callV_ri (n := 1) (rest := [.int y5]) (tX11_farAll K.2.1 G v1 m0) (pw_sh_71) cfX11 rfl miX11_farAll mlX11_190 (pc := 17) dX11_christmasPlace_17 rfl rfl (by decide) (Nat.le_of_ble_eq_true rfl) fun y6 =>
pw_jn (fun (k9 : Int32 → Option Int32) => ∀ (v7 : Int32), PW K G RX11 cX11_christmasPlace 3 (some .int) 2 (pw_MQ K G (pw_Ri m0)) (k9 v7) 25 [(2, .int v2), (1, .int v7), (0, .ref (pw_ad G 71))] [] m0) (fun v7 => pw_ltA fun x8 hxx8 => pw_iinc (v := x8) [(2, .int x8), (1, .int v7), (0, .ref (pw_ad G 71))] (pc := 25) dX11_christmasPlace_25 0 rfl (by rw [hxx8]; rfl) (by decide) rfl <|
pw_goto (tgt := 4) (pc := 28) dX11_christmasPlace_28 (by decide) <|
hn4 v7 x8) (fun k9 hk10 => pw_icmp_ge  (tgt := 25) (pc := 20) dX11_christmasPlace_20 (by decide) (fun h11 => hk10 v1) (fun h12 => pw_iload_n (pc := 23) dX11_christmasPlace_23 0 rfl <|
pw_istore_n [(1, .int v2), (2, .int v2), (0, .ref (pw_ad G 71))] (pc := 24) dX11_christmasPlace_24 (by decide) rfl <|
pw_sub [1, 0, 2] rfl <| hk10 v2)))) FU (0 : Int32) (1 : Int32))
set_option maxHeartbeats 4000000 in
theorem tX11_christmas (l : Launch) (G : pw_G) (a1 : Int32) (m0 : pw_Mem) : PMet l G yX11_christmas cX11_christmas 5 (some .int) 5 [.ref (pw_ad G 71), .int a1] m0 pw_Wi (fX11_christmas a1 m0) :=
  pw_met (own := RX11) (l0 := [(0, .ref (pw_ad G 71)), (1, .int a1)]) rfl (by decide) rfl (Nat.le_of_ble_eq_true rfl) fun K hK hH => by
  delta fX11_christmas
  exact (pw_iload_n (pc := 0) dX11_christmas_0 1 rfl <|
pw_iconst (v := 0) (pc := 1) dX11_christmas_1 (by decide) <|
pw_iconst (v := 2) (pc := 2) dX11_christmas_2 (by decide) <|
pw_callS_rz (n := 3) (rest := []) (tX11_isIn K.2.1 G a1 (0 : Int32) (2 : Int32) m0) miX11_isIn mlX11_52 (pc := 3) dX11_christmas_3 rfl rfl (by decide) (Nat.le_of_ble_eq_true rfl) fun y1 =>
pw_ifz_ne (tgt := 11) (pc := 6) dX11_christmas_6 (by decide) (fun h22 => pw_aload_n (pc := 11) dX11_christmas_11 0 rfl <|
pw_callV_ri (n := 0) (rest := []) (tX11_christmasPlace K.2.1 G m0) (pw_sh_71) cfX11 rfl miX11_christmasPlace mlX11_193 (pc := 12) dX11_christmas_12 rfl rfl (by decide) (Nat.le_of_ble_eq_true rfl) fun y2 =>
pw_istore_n [(2, .int y2), (0, .ref (pw_ad G 71)), (1, .int a1)] (pc := 15) dX11_christmas_15 (by decide) rfl <|
pw_iload_n (pc := 16) dX11_christmas_16 2 rfl <|
pw_iconst (v := 2) (pc := 17) dX11_christmas_17 (by decide) <|
pw_icmp_ge  (tgt := 35) (pc := 18) dX11_christmas_18 (by decide) (fun h20 => pw_aload_n (pc := 35) dX11_christmas_35 1 rfl <|
pw_getR (o := 71) (k := 0) (t := 72) (pw_sh_71) cfX11 rfl (by decide) flX11_9 (pc := 36) dX11_christmas_36 <|
pw_aload_n (pc := 39) dX11_christmas_39 1 rfl <|
pw_getR (o := 71) (k := 1) (t := 73) (pw_sh_71) cfX11 rfl (by decide) flX11_13 (pc := 40) dX11_christmas_40 <|
pw_callS_wv (n := 2) (rest := []) (tX11_copies K.2.1 G pw_r72 pw_r73 m0) miX11_copies mlX11_112 (pc := 43) dX11_christmas_43 rfl rfl (by decide) (Nat.le_of_ble_eq_true rfl) fun m3 =>
pw_iconst (v := 0) (pc := 46) dX11_christmas_46 (by decide) <|
pw_istore_n [(3, .int (0 : Int32)), (2, .int y2), (0, .ref (pw_ad G 71)), (1, .int a1)] (pc := 47) dX11_christmas_47 (by decide) rfl <|
pw_iconst (v := 0) (pc := 48) dX11_christmas_48 (by decide) <|
pw_istore [(4, .int (0 : Int32)), (3, .int (0 : Int32)), (2, .int y2), (0, .ref (pw_ad G 71)), (1, .int a1)] (pc := 49) dX11_christmas_49 (by decide) rfl <|
pw_sub [0, 1, 2, 3] rfl <| pw_lp (fun (kk16 : Int32 → Int32 → pw_Mem → Option (Int32 × pw_Mem)) => ∀ (v4 : Int32) (v5 : Int32) (m6 : pw_Mem), PW K G RX11 cX11_christmas 5 (some .int) 5 (pw_MQ K G pw_Wi) (kk16 v4 v5 m6) 51 [(4, .int v5), (3, .int v4), (2, .int y2), (0, .ref (pw_ad G 71))] [] m6) (fun _ _ _ => pw_none) (fun nx7 hn8 v4 v5 m6 => pw_iload (pc := 51) dX11_christmas_51 0 rfl <|
pw_aload_n (pc := 53) dX11_christmas_53 3 rfl <|
pw_getR (o := 71) (k := 1) (t := 73) (pw_sh_71) cfX11 rfl (by decide) flX11_13 (pc := 54) dX11_christmas_54 <|
pw_iconst (v := 0) (pc := 57) dX11_christmas_57 (by decide) <|
pw_iald (pw_shRow pw_r73) (pc := 58) dX11_christmas_58 <|
pw_icmp_ge  (tgt := 81) (pc := 59) dX11_christmas_59 (by decide) (fun h14 => pw_iload_n (pc := 81) dX11_christmas_81 1 rfl <|
pw_callS_ri (n := 1) (rest := []) (tX11_bits K.2.1 G v4 m6) miX11_bits mlX11_180 (pc := 82) dX11_christmas_82 rfl rfl (by decide) (Nat.le_of_ble_eq_true rfl) fun y9 =>
pw_iret (a := y9) (v := (y9, m6)) hH rfl (pc := 85) dX11_christmas_85) (fun h15 => pw_iload_n (pc := 62) dX11_christmas_62 1 rfl <|
pw_aload_n (pc := 63) dX11_christmas_63 3 rfl <|
pw_getR (o := 71) (k := 1) (t := 73) (pw_sh_71) cfX11 rfl (by decide) flX11_13 (pc := 64) dX11_christmas_64 <|
pw_iload (pc := 67) dX11_christmas_67 0 rfl <|
pw_iload_n (pc := 69) dX11_christmas_69 2 rfl <|
pw_callS_wi (n := 3) (rest := [.int v4]) (tX11_goesTo K.2.1 G pw_r73 v5 y2 m6) miX11_goesTo mlX11_158 (pc := 70) dX11_christmas_70 rfl rfl (by decide) (Nat.le_of_ble_eq_true rfl) fun y10 m11 =>
pw_ior (pc := 73) dX11_christmas_73 <|
pw_ltI fun x12 => pw_istore_n [(3, .int x12), (4, .int v5), (2, .int y2), (0, .ref (pw_ad G 71))] (pc := 74) dX11_christmas_74 (by decide) rfl <|
pw_ltA fun x13 hxx13 => pw_iinc (v := x13) [(4, .int x13), (3, .int x12), (2, .int y2), (0, .ref (pw_ad G 71))] (pc := 75) dX11_christmas_75 1 rfl (by rw [hxx13]; rfl) (by decide) rfl <|
pw_goto (tgt := 51) (pc := 78) dX11_christmas_78 (by decide) <|
hn8 x12 x13 m11)) FU (0 : Int32) (0 : Int32) m3) (fun h21 => pw_iload_n (pc := 21) dX11_christmas_21 2 rfl <|
pw_if_ne (a := a1) (b := 0) (tgt := 29) (pc := 22) dX11_christmas_22 (by decide) (fun h18 => pw_aload_n (pc := 29) dX11_christmas_29 1 rfl <|
pw_iload_n (pc := 30) dX11_christmas_30 0 rfl <|
pw_callV_ri (n := 1) (rest := []) (tX11_farAll K.2.1 G y2 m0) (pw_sh_71) cfX11 rfl miX11_farAll mlX11_190 (pc := 31) dX11_christmas_31 rfl rfl (by decide) (Nat.le_of_ble_eq_true rfl) fun y17 =>
pw_iret (a := y17) (v := (y17, m0)) hH rfl (pc := 34) dX11_christmas_34) (fun h19 => pw_iload_n (pc := 25) dX11_christmas_25 0 rfl <|
pw_goto (tgt := 34) (pc := 26) dX11_christmas_26 (by decide) <|
pw_iret (a := y2) (v := (y2, m0)) hH rfl (pc := 34) dX11_christmas_34))) (fun h23 => pw_iconst (v := -1) (pc := 9) dX11_christmas_9 (by decide) <|
pw_iret (a := (-1 : Int32)) (v := ((-1 : Int32), m0)) hH rfl (pc := 10) dX11_christmas_10))
set_option maxHeartbeats 4000000 in
theorem tX11_ordersFromR : ∀ (n : Nat) (l : Launch) (G : pw_G) (a1 : Int32) (a2 : Int32) (a3 : Int32) (m0 : pw_Mem), PMet l G yX11_ordersFrom cX11_ordersFrom 7 (none) (2 + n) [.ref (pw_ad G 71), .int a1, .int a2, .int a3] m0 pw_Wv (fX11_ordersFromR n a1 a2 a3 m0)
  | 0, _, _, _, _, _, _ => fun _ h => nomatch h
  | n + 1, l, G, a1, a2, a3, m0 =>
  pw_met (own := RX11) (l0 := [(0, .ref (pw_ad G 71)), (1, .int a1), (2, .int a2), (3, .int a3)]) rfl (by decide) rfl (Nat.le_of_ble_eq_true rfl) fun K hK hH => by
      unfold fX11_ordersFromR
      exact (pw_iload_n (pc := 0) dX11_ordersFrom_0 3 rfl <|
pw_callS_ri (n := 1) (rest := []) (tX11_bits K.2.1 G a3 m0) miX11_bits mlX11_180 (pc := 1) dX11_ordersFrom_1 rfl rfl ⟨by omega, by decide⟩ (Nat.le_of_ble_eq_true rfl) fun y1 =>
pw_aload_n (pc := 4) dX11_ordersFrom_4 0 rfl <|
pw_getI (o := 71) (k := 12) (pw_sh_71) cfX11 rfl (by decide) flX11_196 (pc := 5) dX11_ordersFrom_5 <|
pw_icmp_lt  (tgt := 12) (pc := 8) dX11_ordersFrom_8 (by decide) (fun h74 => pw_iload_n (pc := 12) dX11_ordersFrom_12 2 rfl <|
pw_if_ne (a := a2) (b := 0) (tgt := 55) (pc := 13) dX11_ordersFrom_13 (by decide) (fun h72 => pw_iconst (v := 0) (pc := 55) dX11_ordersFrom_55 (by decide) <|
pw_istore [(4, .int (0 : Int32)), (0, .ref (pw_ad G 71)), (1, .int a1), (2, .int a2), (3, .int a3)] (pc := 56) dX11_ordersFrom_56 (by decide) rfl <|
pw_lp (fun (kk60 : Int32 → pw_Mem → Option pw_Mem) => ∀ (v2 : Int32) (m3 : pw_Mem), PW K G RX11 cX11_ordersFrom 7 (none) (2 + (n + 1)) (pw_MQ K G pw_Wv) (kk60 v2 m3) 58 [(4, .int v2), (0, .ref (pw_ad G 71)), (1, .int a1), (2, .int a2), (3, .int a3)] [] m3) (fun _ _ => pw_none) (fun nx4 hn5 v2 m3 => pw_iload (pc := 58) dX11_ordersFrom_58 0 rfl <|
pw_aload_n (pc := 60) dX11_ordersFrom_60 1 rfl <|
pw_getR (o := 71) (k := 0) (t := 72) (pw_sh_71) cfX11 rfl (by decide) flX11_9 (pc := 61) dX11_ordersFrom_61 <|
pw_iconst (v := 0) (pc := 64) dX11_ordersFrom_64 (by decide) <|
pw_iald (pw_shRow pw_r72) (pc := 65) dX11_ordersFrom_65 <|
pw_icmp_ge  (tgt := 253) (pc := 66) dX11_ordersFrom_66 (by decide) (fun h58 => pw_vret hH rfl (pc := 253) dX11_ordersFrom_253) (fun h59 => pw_iload_n (pc := 69) dX11_ordersFrom_69 3 rfl <|
pw_iload (pc := 70) dX11_ordersFrom_70 0 rfl <|
pw_callS_rz (n := 2) (rest := []) (tX11_has K.2.1 G a2 v2 m3) miX11_has mlX11_93 (pc := 72) dX11_ordersFrom_72 rfl rfl ⟨by omega, by decide⟩ (Nat.le_of_ble_eq_true rfl) fun y6 =>
pw_jn (fun (k9 : pw_Mem → Option pw_Mem) => ∀ (m7 : pw_Mem), PW K G RX11 cX11_ordersFrom 7 (none) (2 + (n + 1)) (pw_MQ K G pw_Wv) (k9 m7) 247 [(4, .int v2), (0, .ref (pw_ad G 71)), (1, .int a1), (2, .int a2), (3, .int a3)] [] m7) (fun m7 => pw_ltA fun x8 hxx8 => pw_iinc (v := x8) [(4, .int x8), (0, .ref (pw_ad G 71)), (1, .int a1), (2, .int a2), (3, .int a3)] (pc := 247) dX11_ordersFrom_247 0 rfl (by rw [hxx8]; rfl) (by decide) rfl <|
pw_goto (tgt := 58) (pc := 250) dX11_ordersFrom_250 (by decide) <|
hn5 x8 m7) (fun k9 hk10 => pw_ifz_ne (tgt := 81) (pc := 75) dX11_ordersFrom_75 (by decide) (fun h56 => pw_aload_n (pc := 81) dX11_ordersFrom_81 1 rfl <|
pw_getR (o := 71) (k := 10) (t := 78) (pw_sh_71) cfX11 rfl (by decide) flX11_28 (pc := 82) dX11_ordersFrom_82 <|
pw_iload_n (pc := 85) dX11_ordersFrom_85 2 rfl <|
pw_iload (pc := 86) dX11_ordersFrom_86 0 rfl <|
pw_iast (pw_sh_78) (pc := 88) dX11_ordersFrom_88 <| pw_ltM fun m11 =>
pw_iconst (v := 0) (pc := 89) dX11_ordersFrom_89 (by decide) <|
pw_istore [(5, .int (0 : Int32)), (4, .int v2), (0, .ref (pw_ad G 71)), (1, .int a1), (2, .int a2), (3, .int a3)] (pc := 90) dX11_ordersFrom_90 (by decide) rfl <|
pw_lp (fun (kk55 : Int32 → pw_Mem → Option pw_Mem) => ∀ (v12 : Int32) (m13 : pw_Mem), PW K G RX11 cX11_ordersFrom 7 (none) (2 + (n + 1)) (pw_MQ K G pw_Wv) (kk55 v12 m13) 92 [(5, .int v12), (4, .int v2), (0, .ref (pw_ad G 71)), (1, .int a1), (2, .int a2), (3, .int a3)] [] m13) (fun _ _ => pw_none) (fun nx14 hn15 v12 m13 => pw_iload (pc := 92) dX11_ordersFrom_92 0 rfl <|
pw_aload_n (pc := 94) dX11_ordersFrom_94 2 rfl <|
pw_getR (o := 71) (k := 0) (t := 72) (pw_sh_71) cfX11 rfl (by decide) flX11_9 (pc := 95) dX11_ordersFrom_95 <|
pw_iconst (v := 0) (pc := 98) dX11_ordersFrom_98 (by decide) <|
pw_iald (pw_shRow pw_r72) (pc := 99) dX11_ordersFrom_99 <|
pw_icmp_ge  (tgt := 150) (pc := 100) dX11_ordersFrom_100 (by decide) (fun h53 => pw_iconst (v := 0) (pc := 150) dX11_ordersFrom_150 (by decide) <|
pw_istore [(5, .int (0 : Int32)), (4, .int v2), (0, .ref (pw_ad G 71)), (1, .int a1), (2, .int a2), (3, .int a3)] (pc := 151) dX11_ordersFrom_151 (by decide) rfl <|
pw_iconst (v := 0) (pc := 153) dX11_ordersFrom_153 (by decide) <|
pw_istore [(6, .int (0 : Int32)), (5, .int (0 : Int32)), (4, .int v2), (0, .ref (pw_ad G 71)), (1, .int a1), (2, .int a2), (3, .int a3)] (pc := 154) dX11_ordersFrom_154 (by decide) rfl <|
pw_lp (fun (kk40 : Int32 → Int32 → Option pw_Mem) => ∀ (v16 : Int32) (v17 : Int32), PW K G RX11 cX11_ordersFrom 7 (none) (2 + (n + 1)) (pw_MQ K G pw_Wv) (kk40 v16 v17) 156 [(6, .int v17), (5, .int v16), (4, .int v2), (0, .ref (pw_ad G 71)), (1, .int a1), (2, .int a2), (3, .int a3)] [] m13) (fun _ _ => pw_none) (fun nx18 hn19 v16 v17 => pw_iload (pc := 156) dX11_ordersFrom_156 0 rfl <|
pw_aload_n (pc := 158) dX11_ordersFrom_158 3 rfl <|
pw_getR (o := 71) (k := 0) (t := 72) (pw_sh_71) cfX11 rfl (by decide) flX11_9 (pc := 159) dX11_ordersFrom_159 <|
pw_iconst (v := 1) (pc := 162) dX11_ordersFrom_162 (by decide) <|
pw_iald (pw_shRow pw_r72) (pc := 163) dX11_ordersFrom_163 <|
pw_icmp_ge  (tgt := 228) (pc := 164) dX11_ordersFrom_164 (by decide) (fun h38 => pw_aload_n (pc := 228) dX11_ordersFrom_228 3 rfl <|
pw_iload_n (pc := 229) dX11_ordersFrom_229 4 rfl <|
pw_iconst (v := 1) (pc := 230) dX11_ordersFrom_230 (by decide) <|
pw_iadd (pc := 231) dX11_ordersFrom_231 <|
pw_iload_n (pc := 232) dX11_ordersFrom_232 5 rfl <|
pw_iconst (v := 1) (pc := 233) dX11_ordersFrom_233 (by decide) <|
pw_iload (pc := 234) dX11_ordersFrom_234 2 rfl <|
pw_ishl (pc := 236) dX11_ordersFrom_236 <|
pw_iconst (v := -1) (pc := 237) dX11_ordersFrom_237 (by decide) <|
pw_ixor (pc := 238) dX11_ordersFrom_238 <|
pw_iand (pc := 239) dX11_ordersFrom_239 <|
pw_iload_n (pc := 240) dX11_ordersFrom_240 6 rfl <|
pw_iload (pc := 241) dX11_ordersFrom_241 1 rfl <|
pw_ior (pc := 243) dX11_ordersFrom_243 <|
pw_callV_wv (n := 3) (rest := []) (tX11_ordersFromR n K.2.1 G (a1 + (1 : Int32)) (a2 &&& (((1 : Int32) <<< (v2 &&& 31)) ^^^ (-1 : Int32))) (a3 ||| v16) m13) (pw_sh_71) cfX11 rfl miX11_ordersFrom mlX11_202 (pc := 244) dX11_ordersFrom_244 rfl rfl ⟨by omega, by decide⟩ (Nat.le_of_ble_eq_true rfl) fun m20 =>
pw_sub [2, 3, 4, 5, 6] rfl <| hk10 m20) (fun h39 => pw_iload (pc := 167) dX11_ordersFrom_167 1 rfl <|
pw_iload_n (pc := 169) dX11_ordersFrom_169 6 rfl <|
pw_iload (pc := 170) dX11_ordersFrom_170 0 rfl <|
pw_callS_rz (n := 2) (rest := [.int v16]) (tX11_has K.2.1 G a3 v17 m13) miX11_has mlX11_93 (pc := 172) dX11_ordersFrom_172 rfl rfl ⟨by omega, by decide⟩ (Nat.le_of_ble_eq_true rfl) fun y21 =>
pw_jn (fun (k25 : Int32 → Option pw_Mem) => ∀ (w22 : Int32), PW K G RX11 cX11_ordersFrom 7 (none) (2 + (n + 1)) (pw_MQ K G pw_Wv) (k25 w22) 219 [(6, .int v17), (4, .int v2), (0, .ref (pw_ad G 71)), (1, .int a1), (2, .int a2), (3, .int a3)] [.int w22, .int v16] m13) (fun w22 => pw_ior (pc := 219) dX11_ordersFrom_219 <|
pw_ltI fun x23 => pw_istore [(5, .int x23), (6, .int v17), (4, .int v2), (0, .ref (pw_ad G 71)), (1, .int a1), (2, .int a2), (3, .int a3)] (pc := 220) dX11_ordersFrom_220 (by decide) rfl <|
pw_ltA fun x24 hxx24 => pw_iinc (v := x24) [(6, .int x24), (5, .int x23), (4, .int v2), (0, .ref (pw_ad G 71)), (1, .int a1), (2, .int a2), (3, .int a3)] (pc := 222) dX11_ordersFrom_222 1 rfl (by rw [hxx24]; rfl) (by decide) rfl <|
pw_goto (tgt := 156) (pc := 225) dX11_ordersFrom_225 (by decide) <|
hn19 x23 x24) (fun k25 hk26 => pw_jn (fun (k27 : Option pw_Mem) => PW K G RX11 cX11_ordersFrom 7 (none) (2 + (n + 1)) (pw_MQ K G pw_Wv) k27 218 [(6, .int v17), (4, .int v2), (0, .ref (pw_ad G 71)), (1, .int a1), (2, .int a2), (3, .int a3)] [.int v16] m13) (pw_iconst (v := 0) (pc := 218) dX11_ordersFrom_218 (by decide) <|
hk26 (0 : Int32)) (fun k27 hk28 => pw_ifz_ne (tgt := 218) (pc := 175) dX11_ordersFrom_175 (by decide) (fun h36 => pw_sub [0, 2, 3, 4, 5, 6] rfl <| hk28) (fun h37 => pw_aload_n (pc := 178) dX11_ordersFrom_178 3 rfl <|
pw_getR (o := 71) (k := 0) (t := 72) (pw_sh_71) cfX11 rfl (by decide) flX11_9 (pc := 179) dX11_ordersFrom_179 <|
pw_iload (pc := 182) dX11_ordersFrom_182 0 rfl <|
pw_callS_rz (n := 2) (rest := [.int v16]) (tX11_isWhole K.2.1 G pw_r72 v17 m13) miX11_isWhole mlX11_69 (pc := 184) dX11_ordersFrom_184 rfl rfl ⟨by omega, by decide⟩ (Nat.le_of_ble_eq_true rfl) fun y29 =>
pw_ifz_eq (tgt := 218) (pc := 187) dX11_ordersFrom_187 (by decide) (fun h34 => pw_aload_n (pc := 190) dX11_ordersFrom_190 3 rfl <|
pw_getR (o := 71) (k := 1) (t := 73) (pw_sh_71) cfX11 rfl (by decide) flX11_13 (pc := 191) dX11_ordersFrom_191 <|
pw_iload (pc := 194) dX11_ordersFrom_194 0 rfl <|
pw_callS_ri (n := 2) (rest := [.int v16]) (tX11_stretch K.2.1 G pw_r73 v17 m13) miX11_stretch mlX11_73 (pc := 196) dX11_ordersFrom_196 rfl rfl ⟨by omega, by decide⟩ (Nat.le_of_ble_eq_true rfl) fun y30 =>
pw_aload_n (pc := 199) dX11_ordersFrom_199 3 rfl <|
pw_getR (o := 71) (k := 0) (t := 72) (pw_sh_71) cfX11 rfl (by decide) flX11_9 (pc := 200) dX11_ordersFrom_200 <|
pw_iload (pc := 203) dX11_ordersFrom_203 0 rfl <|
pw_callS_ri (n := 2) (rest := [.int y30, .int v16]) (tX11_holdsNow K.2.1 G pw_r72 v17 m13) miX11_holdsNow mlX11_84 (pc := 205) dX11_ordersFrom_205 rfl rfl ⟨by omega, by decide⟩ (Nat.le_of_ble_eq_true rfl) fun y31 =>
pw_icmp_le  (tgt := 218) (pc := 208) dX11_ordersFrom_208 (by decide) (fun h32 => pw_sub [0, 2, 3, 4, 5, 6] rfl <| hk28) (fun h33 => pw_iconst (v := 1) (pc := 211) dX11_ordersFrom_211 (by decide) <|
pw_iload (pc := 212) dX11_ordersFrom_212 0 rfl <|
pw_ishl (pc := 214) dX11_ordersFrom_214 <|
pw_goto (tgt := 219) (pc := 215) dX11_ordersFrom_215 (by decide) <|
pw_sub [0, 2, 3, 4, 5, 6] rfl <| hk26 ((1 : Int32) <<< (v17 &&& 31)))) (fun h35 => pw_sub [0, 2, 3, 4, 5, 6] rfl <| hk28)))))) FU (0 : Int32) (0 : Int32)) (fun h54 => pw_aload_n (pc := 103) dX11_ordersFrom_103 2 rfl <|
pw_getR (o := 71) (k := 1) (t := 73) (pw_sh_71) cfX11 rfl (by decide) flX11_13 (pc := 104) dX11_ordersFrom_104 <|
pw_iconst (v := 4) (pc := 107) dX11_ordersFrom_107 (by decide) <|
pw_iload (pc := 108) dX11_ordersFrom_108 0 rfl <|
pw_iadd (pc := 110) dX11_ordersFrom_110 <|
pw_iload_n (pc := 111) dX11_ordersFrom_111 4 rfl <|
pw_iload (pc := 112) dX11_ordersFrom_112 0 rfl <|
pw_callS_rz (n := 2) (rest := [.int ((4 : Int32) + v12), .ref (pw_ad G 73)]) (tX11_has K.2.1 G a2 v12 m13) miX11_has mlX11_93 (pc := 114) dX11_ordersFrom_114 rfl rfl ⟨by omega, by decide⟩ (Nat.le_of_ble_eq_true rfl) fun y41 =>
pw_jn (fun (k45 : Int32 → Option pw_Mem) => ∀ (w42 : Int32), PW K G RX11 cX11_ordersFrom 7 (none) (2 + (n + 1)) (pw_MQ K G pw_Wv) (k45 w42) 143 [(5, .int v12), (4, .int v2), (0, .ref (pw_ad G 71)), (1, .int a1), (2, .int a2), (3, .int a3)] [.int w42, .int ((4 : Int32) + v12), .ref (pw_ad G 73)] m13) (fun w42 => pw_iast (pw_shRow pw_r73) (pc := 143) dX11_ordersFrom_143 <| pw_ltM fun m43 =>
pw_ltA fun x44 hxx44 => pw_iinc (v := x44) [(5, .int x44), (4, .int v2), (0, .ref (pw_ad G 71)), (1, .int a1), (2, .int a2), (3, .int a3)] (pc := 144) dX11_ordersFrom_144 0 rfl (by rw [hxx44]; rfl) (by decide) rfl <|
pw_goto (tgt := 92) (pc := 147) dX11_ordersFrom_147 (by decide) <|
hn15 x44 m43) (fun k45 hk46 => pw_jn (fun (k47 : Option pw_Mem) => PW K G RX11 cX11_ordersFrom 7 (none) (2 + (n + 1)) (pw_MQ K G pw_Wv) k47 139 [(5, .int v12), (4, .int v2), (0, .ref (pw_ad G 71)), (1, .int a1), (2, .int a2), (3, .int a3)] [.int ((4 : Int32) + v12), .ref (pw_ad G 73)] m13) (pw_aload_n (pc := 139) dX11_ordersFrom_139 2 rfl <|
pw_getI (o := 71) (k := 13) (pw_sh_71) cfX11 rfl (by decide) flX11_199 (pc := 140) dX11_ordersFrom_140 <|
hk46 (m13 71 13)) (fun k47 hk48 => pw_ifz_eq (tgt := 139) (pc := 117) dX11_ordersFrom_117 (by decide) (fun h51 => pw_iload (pc := 120) dX11_ordersFrom_120 0 rfl <|
pw_iload (pc := 122) dX11_ordersFrom_122 1 rfl <|
pw_icmp_eq  (tgt := 139) (pc := 124) dX11_ordersFrom_124 (by decide) (fun h49 => hk48) (fun h50 => pw_aload_n (pc := 127) dX11_ordersFrom_127 2 rfl <|
pw_getR (o := 71) (k := 0) (t := 72) (pw_sh_71) cfX11 rfl (by decide) flX11_9 (pc := 128) dX11_ordersFrom_128 <|
pw_iconst (v := 4) (pc := 131) dX11_ordersFrom_131 (by decide) <|
pw_iload (pc := 132) dX11_ordersFrom_132 0 rfl <|
pw_iadd (pc := 134) dX11_ordersFrom_134 <|
pw_iald (pw_shRow pw_r72) (pc := 135) dX11_ordersFrom_135 <|
pw_goto (tgt := 143) (pc := 136) dX11_ordersFrom_136 (by decide) <|
hk46 (m13 72 ((4 : Int32) + v12).toNatClampNeg))) (fun h52 => hk48))))) FU (0 : Int32) m11) (fun h57 => pw_goto (tgt := 247) (pc := 78) dX11_ordersFrom_78 (by decide) <|
hk10 m3)))) FU (0 : Int32) m0) (fun h73 => pw_aload_n (pc := 16) dX11_ordersFrom_16 0 rfl <|
pw_iload_n (pc := 17) dX11_ordersFrom_17 3 rfl <|
pw_callS_ri (n := 1) (rest := [.ref (pw_ad G 71)]) (tX11_bits K.2.1 G a3 m0) miX11_bits mlX11_180 (pc := 18) dX11_ordersFrom_18 rfl rfl ⟨by omega, by decide⟩ (Nat.le_of_ble_eq_true rfl) fun y61 =>
pw_putI (o := 71) (k := 12) (pw_sh_71) cfX11 rfl (by decide) flX11_196 rfl (ft := .int) rfl rfl rfl (pc := 21) dX11_ordersFrom_21 <|
pw_ltM fun m62 => pw_iconst (v := 0) (pc := 24) dX11_ordersFrom_24 (by decide) <|
pw_istore [(4, .int (0 : Int32)), (0, .ref (pw_ad G 71)), (1, .int a1), (2, .int a2), (3, .int a3)] (pc := 25) dX11_ordersFrom_25 (by decide) rfl <|
pw_sub [0, 1] rfl <| pw_lp (fun (kk71 : Int32 → pw_Mem → Option pw_Mem) => ∀ (v63 : Int32) (m64 : pw_Mem), PW K G RX11 cX11_ordersFrom 7 (none) (2 + (n + 1)) (pw_MQ K G pw_Wv) (kk71 v63 m64) 27 [(4, .int v63), (0, .ref (pw_ad G 71))] [] m64) (fun _ _ => pw_none) (fun nx65 hn66 v63 m64 => pw_iload (pc := 27) dX11_ordersFrom_27 0 rfl <|
pw_bipush (v := 7) (pc := 29) dX11_ordersFrom_29 (by decide) <|
pw_icmp_ge  (tgt := 54) (pc := 31) dX11_ordersFrom_31 (by decide) (fun h69 => pw_vret hH rfl (pc := 54) dX11_ordersFrom_54) (fun h70 => pw_aload_n (pc := 34) dX11_ordersFrom_34 1 rfl <|
pw_getR (o := 71) (k := 11) (t := 79) (pw_sh_71) cfX11 rfl (by decide) flX11_31 (pc := 35) dX11_ordersFrom_35 <|
pw_iload (pc := 38) dX11_ordersFrom_38 0 rfl <|
pw_aload_n (pc := 40) dX11_ordersFrom_40 1 rfl <|
pw_getR (o := 71) (k := 10) (t := 78) (pw_sh_71) cfX11 rfl (by decide) flX11_28 (pc := 41) dX11_ordersFrom_41 <|
pw_iload (pc := 44) dX11_ordersFrom_44 0 rfl <|
pw_iald (pw_sh_78) (pc := 46) dX11_ordersFrom_46 <|
pw_iast (pw_sh_79) (pc := 47) dX11_ordersFrom_47 <| pw_ltM fun m67 =>
pw_ltA fun x68 hxx68 => pw_iinc (v := x68) [(4, .int x68), (0, .ref (pw_ad G 71))] (pc := 48) dX11_ordersFrom_48 0 rfl (by rw [hxx68]; rfl) (by decide) rfl <|
pw_goto (tgt := 27) (pc := 51) dX11_ordersFrom_51 (by decide) <|
hn66 x68 m67)) FU (0 : Int32) m62)) (fun h75 => pw_vret hH rfl (pc := 11) dX11_ordersFrom_11))
theorem tX11_ordersFrom (l : Launch) (G : pw_G) (a1 : Int32) (a2 : Int32) (a3 : Int32) (m0 : pw_Mem) : PMet l G yX11_ordersFrom cX11_ordersFrom 7 (none) 11 [.ref (pw_ad G 71), .int a1, .int a2, .int a3] m0 pw_Wv (fX11_ordersFrom a1 a2 a3 m0) :=
  tX11_ordersFromR 9 l G a1 a2 a3 m0
set_option maxHeartbeats 4000000 in
theorem tX11_order (l : Launch) (G : pw_G) (a1 : Int32) (m0 : pw_Mem) : PMet l G yX11_order cX11_order 2 (some .int) 12 [.ref (pw_ad G 71), .int a1] m0 pw_Wi (fX11_order a1 m0) :=
  pw_met (own := RX11) (l0 := [(0, .ref (pw_ad G 71)), (1, .int a1)]) rfl (by decide) rfl (Nat.le_of_ble_eq_true rfl) fun K hK hH => by
  delta fX11_order
  exact (pw_iload_n (pc := 0) dX11_order_0 1 rfl <|
pw_iconst (v := -1) (pc := 1) dX11_order_1 (by decide) <|
pw_jn (fun (k8 : Option (Int32 × pw_Mem)) => PW K G RX11 cX11_order 2 (some .int) 12 (pw_MQ K G pw_Wi) k8 15 [(0, .ref (pw_ad G 71)), (1, .int a1)] [] m0) (pw_aload_n (pc := 15) dX11_order_15 0 rfl <|
pw_aload_n (pc := 16) dX11_order_16 0 rfl <|
pw_callV_ri (n := 0) (rest := [.ref (pw_ad G 71)]) (tX11_christmasPlace K.2.1 G m0) (pw_sh_71) cfX11 rfl miX11_christmasPlace mlX11_193 (pc := 17) dX11_order_17 rfl rfl (by decide) (Nat.le_of_ble_eq_true rfl) fun y1 =>
pw_putI (o := 71) (k := 13) (pw_sh_71) cfX11 rfl (by decide) flX11_199 rfl (ft := .int) rfl rfl rfl (pc := 20) dX11_order_20 <|
pw_ltM fun m2 => pw_aload_n (pc := 23) dX11_order_23 0 rfl <|
pw_getR (o := 71) (k := 0) (t := 72) (pw_sh_71) cfX11 rfl (by decide) flX11_9 (pc := 24) dX11_order_24 <|
pw_aload_n (pc := 27) dX11_order_27 0 rfl <|
pw_getR (o := 71) (k := 1) (t := 73) (pw_sh_71) cfX11 rfl (by decide) flX11_13 (pc := 28) dX11_order_28 <|
pw_callS_wv (n := 2) (rest := []) (tX11_copies K.2.1 G pw_r72 pw_r73 m2) miX11_copies mlX11_112 (pc := 31) dX11_order_31 rfl rfl (by decide) (Nat.le_of_ble_eq_true rfl) fun m3 =>
pw_aload_n (pc := 34) dX11_order_34 0 rfl <|
pw_ldc (v := 1000000000) (pc := 35) dX11_order_35 klX11_186 <|
pw_putI (o := 71) (k := 12) (pw_sh_71) cfX11 rfl (by decide) flX11_196 rfl (ft := .int) rfl rfl rfl (pc := 37) dX11_order_37 <|
pw_ltM fun m4 => pw_aload_n (pc := 40) dX11_order_40 0 rfl <|
pw_iconst (v := 0) (pc := 41) dX11_order_41 (by decide) <|
pw_iconst (v := 1) (pc := 42) dX11_order_42 (by decide) <|
pw_aload_n (pc := 43) dX11_order_43 0 rfl <|
pw_getR (o := 71) (k := 0) (t := 72) (pw_sh_71) cfX11 rfl (by decide) flX11_9 (pc := 44) dX11_order_44 <|
pw_iconst (v := 0) (pc := 47) dX11_order_47 (by decide) <|
pw_iald (pw_shRow pw_r72) (pc := 48) dX11_order_48 <|
pw_ishl (pc := 49) dX11_order_49 <|
pw_iconst (v := 1) (pc := 50) dX11_order_50 (by decide) <|
pw_isub (pc := 51) dX11_order_51 <|
pw_iconst (v := 0) (pc := 52) dX11_order_52 (by decide) <|
pw_callV_wv (n := 3) (rest := []) (tX11_ordersFrom K.2.1 G (0 : Int32) (((1 : Int32) <<< ((m4 72 ((0 : Int32)).toNatClampNeg) &&& 31)) - (1 : Int32)) (0 : Int32) m4) (pw_sh_71) cfX11 rfl miX11_ordersFrom mlX11_202 (pc := 53) dX11_order_53 rfl rfl (by decide) (Nat.le_of_ble_eq_true rfl) fun m5 =>
pw_iload_n (pc := 56) dX11_order_56 1 rfl <|
pw_if_ge (a := a1) (b := 0) (tgt := 67) (pc := 57) dX11_order_57 (by decide) (fun h6 => pw_aload_n (pc := 67) dX11_order_67 0 rfl <|
pw_getR (o := 71) (k := 11) (t := 79) (pw_sh_71) cfX11 rfl (by decide) flX11_31 (pc := 68) dX11_order_68 <|
pw_iload_n (pc := 71) dX11_order_71 1 rfl <|
pw_iald (pw_sh_79) (pc := 72) dX11_order_72 <|
pw_iret (a := (m5 79 (a1).toNatClampNeg)) (v := (m5 79 (a1).toNatClampNeg, m5)) hH rfl (pc := 73) dX11_order_73) (fun h7 => pw_aload_n (pc := 60) dX11_order_60 0 rfl <|
pw_getI (o := 71) (k := 12) (pw_sh_71) cfX11 rfl (by decide) flX11_196 (pc := 61) dX11_order_61 <|
pw_goto (tgt := 73) (pc := 64) dX11_order_64 (by decide) <|
pw_iret (a := (m5 71 12)) (v := (m5 71 12, m5)) hH rfl (pc := 73) dX11_order_73)) (fun k8 hk9 => pw_icmp_eq  (tgt := 15) (pc := 2) dX11_order_2 (by decide) (fun h13 => hk9) (fun h14 => pw_aload_n (pc := 5) dX11_order_5 0 rfl <|
pw_iload_n (pc := 6) dX11_order_6 1 rfl <|
pw_callV_rz (n := 1) (rest := []) (tX11_isPerson K.2.1 G a1 m0) (pw_sh_71) cfX11 rfl miX11_isPerson mlX11_140 (pc := 7) dX11_order_7 rfl rfl (by decide) (Nat.le_of_ble_eq_true rfl) fun y10 =>
pw_ifz_ne (tgt := 15) (pc := 10) dX11_order_10 (by decide) (fun h11 => hk9) (fun h12 => pw_iconst (v := -1) (pc := 13) dX11_order_13 (by decide) <|
pw_iret (a := (-1 : Int32)) (v := ((-1 : Int32), m0)) hH rfl (pc := 14) dX11_order_14))))
set_option maxHeartbeats 4000000 in
theorem tX11_letGo (l : Launch) (G : pw_G) (a1 : Int32) (a2 : Int32) (m0 : pw_Mem) : PMet l G yX11_letGo cX11_letGo 3 (some .int) 5 [.ref (pw_ad G 71), .int a1, .int a2] m0 pw_Wi (fX11_letGo a1 a2 m0) :=
  pw_met (own := RX11) (l0 := [(0, .ref (pw_ad G 71)), (1, .int a1), (2, .int a2)]) rfl (by decide) rfl (Nat.le_of_ble_eq_true rfl) fun K hK hH => by
  delta fX11_letGo
  exact (pw_aload_n (pc := 0) dX11_letGo_0 0 rfl <|
pw_iload_n (pc := 1) dX11_letGo_1 1 rfl <|
pw_callV_rz (n := 1) (rest := []) (tX11_isPerson K.2.1 G a1 m0) (pw_sh_71) cfX11 rfl miX11_isPerson mlX11_140 (pc := 2) dX11_letGo_2 rfl rfl (by decide) (Nat.le_of_ble_eq_true rfl) fun y1 =>
pw_ifz_eq (tgt := 15) (pc := 5) dX11_letGo_5 (by decide) (fun h8 => pw_iload_n (pc := 8) dX11_letGo_8 2 rfl <|
pw_callS_rz (n := 1) (rest := []) (tX11_isPlace K.2.1 G a2 m0) miX11_isPlace mlX11_144 (pc := 9) dX11_letGo_9 rfl rfl (by decide) (Nat.le_of_ble_eq_true rfl) fun y2 =>
pw_ifz_ne (tgt := 17) (pc := 12) dX11_letGo_12 (by decide) (fun h6 => pw_aload_n (pc := 17) dX11_letGo_17 0 rfl <|
pw_getR (o := 71) (k := 0) (t := 72) (pw_sh_71) cfX11 rfl (by decide) flX11_9 (pc := 18) dX11_letGo_18 <|
pw_aload_n (pc := 21) dX11_letGo_21 0 rfl <|
pw_getR (o := 71) (k := 1) (t := 73) (pw_sh_71) cfX11 rfl (by decide) flX11_13 (pc := 22) dX11_letGo_22 <|
pw_callS_wv (n := 2) (rest := []) (tX11_copies K.2.1 G pw_r72 pw_r73 m0) miX11_copies mlX11_112 (pc := 25) dX11_letGo_25 rfl rfl (by decide) (Nat.le_of_ble_eq_true rfl) fun m3 =>
pw_aload_n (pc := 28) dX11_letGo_28 0 rfl <|
pw_getR (o := 71) (k := 1) (t := 73) (pw_sh_71) cfX11 rfl (by decide) flX11_13 (pc := 29) dX11_letGo_29 <|
pw_iload_n (pc := 32) dX11_letGo_32 1 rfl <|
pw_iload_n (pc := 33) dX11_letGo_33 2 rfl <|
pw_callS_wi (n := 3) (rest := []) (tX11_goesTo K.2.1 G pw_r73 a1 a2 m3) miX11_goesTo mlX11_158 (pc := 34) dX11_letGo_34 rfl rfl (by decide) (Nat.le_of_ble_eq_true rfl) fun y4 m5 =>
pw_iret (a := y4) (v := (y4, m5)) hH rfl (pc := 37) dX11_letGo_37) (fun h7 => pw_iconst (v := -1) (pc := 15) dX11_letGo_15 (by decide) <|
pw_iret (a := (-1 : Int32)) (v := ((-1 : Int32), m0)) hH rfl (pc := 16) dX11_letGo_16)) (fun h9 => pw_iconst (v := -1) (pc := 15) dX11_letGo_15 (by decide) <|
pw_iret (a := (-1 : Int32)) (v := ((-1 : Int32), m0)) hH rfl (pc := 16) dX11_letGo_16))
set_option maxHeartbeats 4000000 in
theorem tX11_endsWithin (l : Launch) (G : pw_G) (a1 : Int32) (a2 : Int32) (m0 : pw_Mem) : PMet l G yX11_endsWithin cX11_endsWithin 8 (some .int) 1 [.ref (pw_ad G 71), .int a1, .int a2] m0 (pw_Ri m0) (fX11_endsWithin a1 a2 m0) :=
  pw_met (own := RX11) (l0 := [(0, .ref (pw_ad G 71)), (1, .int a1), (2, .int a2)]) rfl (by decide) rfl (Nat.le_of_ble_eq_true rfl) fun K hK hH => by
  delta fX11_endsWithin
  exact (pw_aload_n (pc := 0) dX11_endsWithin_0 0 rfl <|
pw_getR (o := 71) (k := 0) (t := 72) (pw_sh_71) cfX11 rfl (by decide) flX11_9 (pc := 1) dX11_endsWithin_1 <|
pw_iconst (v := 4) (pc := 4) dX11_endsWithin_4 (by decide) <|
pw_aload_n (pc := 5) dX11_endsWithin_5 0 rfl <|
pw_getR (o := 71) (k := 0) (t := 72) (pw_sh_71) cfX11 rfl (by decide) flX11_9 (pc := 6) dX11_endsWithin_6 <|
pw_iload_n (pc := 9) dX11_endsWithin_9 2 rfl <|
pw_iconst (v := 2) (pc := 10) dX11_endsWithin_10 (by decide) <|
pw_callS_ri (n := 2) (rest := [.ref (pw_ad G 72), .int (4 : Int32), .ref (pw_ad G 72)]) (tX11_of K.2.1 G a2 (2 : Int32) m0) miX11_of mlX11_56 (pc := 11) dX11_endsWithin_11 rfl rfl (by decide) (Nat.le_of_ble_eq_true rfl) fun y1 =>
pw_iald (pw_shRow pw_r72) (pc := 14) dX11_endsWithin_14 <|
pw_iadd (pc := 15) dX11_endsWithin_15 <|
pw_iald (pw_shRow pw_r72) (pc := 16) dX11_endsWithin_16 <|
pw_ltI fun x2 => pw_istore_n [(3, .int x2), (0, .ref (pw_ad G 71)), (1, .int a1), (2, .int a2)] (pc := 17) dX11_endsWithin_17 (by decide) rfl <|
pw_aload_n (pc := 18) dX11_endsWithin_18 1 rfl <|
pw_getR (o := 71) (k := 0) (t := 72) (pw_sh_71) cfX11 rfl (by decide) flX11_9 (pc := 19) dX11_endsWithin_19 <|
pw_iconst (v := 4) (pc := 22) dX11_endsWithin_22 (by decide) <|
pw_aload_n (pc := 23) dX11_endsWithin_23 1 rfl <|
pw_getR (o := 71) (k := 0) (t := 72) (pw_sh_71) cfX11 rfl (by decide) flX11_9 (pc := 24) dX11_endsWithin_24 <|
pw_iload_n (pc := 27) dX11_endsWithin_27 3 rfl <|
pw_iconst (v := 3) (pc := 28) dX11_endsWithin_28 (by decide) <|
pw_callS_ri (n := 2) (rest := [.ref (pw_ad G 72), .int (4 : Int32), .ref (pw_ad G 72)]) (tX11_of K.2.1 G a2 (3 : Int32) m0) miX11_of mlX11_56 (pc := 29) dX11_endsWithin_29 rfl rfl (by decide) (Nat.le_of_ble_eq_true rfl) fun y3 =>
pw_iald (pw_shRow pw_r72) (pc := 32) dX11_endsWithin_32 <|
pw_iadd (pc := 33) dX11_endsWithin_33 <|
pw_iald (pw_shRow pw_r72) (pc := 34) dX11_endsWithin_34 <|
pw_ltI fun x4 => pw_istore [(4, .int x4), (3, .int x2), (0, .ref (pw_ad G 71)), (1, .int a1), (2, .int a2)] (pc := 35) dX11_endsWithin_35 (by decide) rfl <|
pw_iconst (v := 0) (pc := 37) dX11_endsWithin_37 (by decide) <|
pw_istore [(5, .int (0 : Int32)), (4, .int x4), (3, .int x2), (0, .ref (pw_ad G 71)), (1, .int a1), (2, .int a2)] (pc := 38) dX11_endsWithin_38 (by decide) rfl <|
pw_iconst (v := 2) (pc := 40) dX11_endsWithin_40 (by decide) <|
pw_istore [(6, .int (2 : Int32)), (5, .int (0 : Int32)), (4, .int x4), (3, .int x2), (0, .ref (pw_ad G 71)), (1, .int a1), (2, .int a2)] (pc := 41) dX11_endsWithin_41 (by decide) rfl <|
pw_sub [0, 1, 2, 3, 4, 5] rfl <| pw_lp (fun (kk26 : Int32 → Int32 → Option Int32) => ∀ (v5 : Int32) (v6 : Int32), PW K G RX11 cX11_endsWithin 8 (some .int) 1 (pw_MQ K G (pw_Ri m0)) (kk26 v5 v6) 43 [(6, .int v6), (5, .int v5), (4, .int x4), (3, .int x2), (0, .ref (pw_ad G 71)), (1, .int a1)] [] m0) (fun _ _ => pw_none) (fun nx7 hn8 v5 v6 => pw_iload (pc := 43) dX11_endsWithin_43 0 rfl <|
pw_iconst (v := 3) (pc := 45) dX11_endsWithin_45 (by decide) <|
pw_icmp_gt  (tgt := 107) (pc := 46) dX11_endsWithin_46 (by decide) (fun h24 => pw_iload (pc := 107) dX11_endsWithin_107 1 rfl <|
pw_iret (a := v5) (v := v5) hH rfl (pc := 109) dX11_endsWithin_109) (fun h25 => pw_aload_n (pc := 49) dX11_endsWithin_49 4 rfl <|
pw_getR (o := 71) (k := 0) (t := 72) (pw_sh_71) cfX11 rfl (by decide) flX11_9 (pc := 50) dX11_endsWithin_50 <|
pw_iconst (v := 4) (pc := 53) dX11_endsWithin_53 (by decide) <|
pw_aload_n (pc := 54) dX11_endsWithin_54 4 rfl <|
pw_getR (o := 71) (k := 0) (t := 72) (pw_sh_71) cfX11 rfl (by decide) flX11_9 (pc := 55) dX11_endsWithin_55 <|
pw_iload_n (pc := 58) dX11_endsWithin_58 5 rfl <|
pw_iload (pc := 59) dX11_endsWithin_59 0 rfl <|
pw_callS_ri (n := 2) (rest := [.ref (pw_ad G 72), .int (4 : Int32), .ref (pw_ad G 72)]) (tX11_of K.2.1 G a1 v6 m0) miX11_of mlX11_56 (pc := 61) dX11_endsWithin_61 rfl rfl (by decide) (Nat.le_of_ble_eq_true rfl) fun y9 =>
pw_iald (pw_shRow pw_r72) (pc := 64) dX11_endsWithin_64 <|
pw_iadd (pc := 65) dX11_endsWithin_65 <|
pw_iald (pw_shRow pw_r72) (pc := 66) dX11_endsWithin_66 <|
pw_ltI fun x10 => pw_istore [(7, .int x10), (6, .int v6), (5, .int v5), (4, .int x4), (3, .int x2), (0, .ref (pw_ad G 71)), (1, .int a1)] (pc := 67) dX11_endsWithin_67 (by decide) rfl <|
pw_iload (pc := 69) dX11_endsWithin_69 2 rfl <|
pw_iload (pc := 71) dX11_endsWithin_71 0 rfl <|
pw_iload_n (pc := 73) dX11_endsWithin_73 4 rfl <|
pw_iload (pc := 74) dX11_endsWithin_74 3 rfl <|
pw_callS_ri (n := 2) (rest := [.int x10, .int v5]) (tX11_least K.2.1 G x2 x4 m0) miX11_least mlX11_87 (pc := 76) dX11_endsWithin_76 rfl rfl (by decide) (Nat.le_of_ble_eq_true rfl) fun y11 =>
pw_jn (fun (k15 : Int32 → Option Int32) => ∀ (w12 : Int32), PW K G RX11 cX11_endsWithin 8 (some .int) 1 (pw_MQ K G (pw_Ri m0)) (k15 w12) 98 [(6, .int v6), (4, .int x4), (3, .int x2), (0, .ref (pw_ad G 71)), (1, .int a1)] [.int w12, .int v5] m0) (fun w12 => pw_iadd (pc := 98) dX11_endsWithin_98 <|
pw_ltI fun x13 => pw_istore [(5, .int x13), (6, .int v6), (4, .int x4), (3, .int x2), (0, .ref (pw_ad G 71)), (1, .int a1)] (pc := 99) dX11_endsWithin_99 (by decide) rfl <|
pw_ltA fun x14 hxx14 => pw_iinc (v := x14) [(6, .int x14), (5, .int x13), (4, .int x4), (3, .int x2), (0, .ref (pw_ad G 71)), (1, .int a1)] (pc := 101) dX11_endsWithin_101 1 rfl (by rw [hxx14]; rfl) (by decide) rfl <|
pw_goto (tgt := 43) (pc := 104) dX11_endsWithin_104 (by decide) <|
hn8 x13 x14) (fun k15 hk16 => pw_jn (fun (k17 : Option Int32) => PW K G RX11 cX11_endsWithin 8 (some .int) 1 (pw_MQ K G (pw_Ri m0)) k17 97 [(6, .int v6), (4, .int x4), (3, .int x2), (0, .ref (pw_ad G 71)), (1, .int a1)] [.int v5] m0) (pw_iconst (v := 0) (pc := 97) dX11_endsWithin_97 (by decide) <|
hk16 (0 : Int32)) (fun k17 hk18 => pw_icmp_le  (tgt := 97) (pc := 79) dX11_endsWithin_79 (by decide) (fun h22 => pw_sub [1, 3, 4, 5, 6] rfl <| hk18) (fun h23 => pw_iload (pc := 82) dX11_endsWithin_82 0 rfl <|
pw_iload_n (pc := 84) dX11_endsWithin_84 4 rfl <|
pw_iload (pc := 85) dX11_endsWithin_85 3 rfl <|
pw_callS_ri (n := 2) (rest := [.int x10, .int v5]) (tX11_most K.2.1 G x2 x4 m0) miX11_most mlX11_66 (pc := 87) dX11_endsWithin_87 rfl rfl (by decide) (Nat.le_of_ble_eq_true rfl) fun y19 =>
pw_icmp_ge  (tgt := 97) (pc := 90) dX11_endsWithin_90 (by decide) (fun h20 => pw_sub [1, 3, 4, 5, 6] rfl <| hk18) (fun h21 => pw_iconst (v := 1) (pc := 93) dX11_endsWithin_93 (by decide) <|
pw_goto (tgt := 98) (pc := 94) dX11_endsWithin_94 (by decide) <|
pw_sub [1, 3, 4, 5, 6] rfl <| hk16 (1 : Int32))))))) FU (0 : Int32) (2 : Int32))
set_option maxHeartbeats 4000000 in
theorem tX11_doCross (l : Launch) (G : pw_G) (a1 : Int32) (a2 : Int32) (m0 : pw_Mem) : PMet l G yX11_doCross cX11_doCross 3 (some .boolean) 2 [.ref (pw_ad G 71), .int a1, .int a2] m0 (pw_Rz m0) (fX11_doCross a1 a2 m0) :=
  pw_met (own := RX11) (l0 := [(0, .ref (pw_ad G 71)), (1, .int a1), (2, .int a2)]) rfl (by decide) rfl (Nat.le_of_ble_eq_true rfl) fun K hK hH => by
  delta fX11_doCross
  exact (pw_aload_n (pc := 0) dX11_doCross_0 0 rfl <|
pw_iload_n (pc := 1) dX11_doCross_1 1 rfl <|
pw_iload_n (pc := 2) dX11_doCross_2 2 rfl <|
pw_callV_ri (n := 2) (rest := []) (tX11_endsWithin K.2.1 G a1 a2 m0) (pw_sh_71) cfX11 rfl miX11_endsWithin mlX11_206 (pc := 3) dX11_doCross_3 rfl rfl (by decide) (Nat.le_of_ble_eq_true rfl) fun y1 =>
pw_iconst (v := 1) (pc := 6) dX11_doCross_6 (by decide) <|
pw_icmp_ne  (tgt := 24) (pc := 7) dX11_doCross_7 (by decide) (fun h5 => pw_iconst (v := 0) (pc := 24) dX11_doCross_24 (by decide) <|
pw_zret (b := false) hH rfl (pc := 25) dX11_doCross_25) (fun h6 => pw_aload_n (pc := 10) dX11_doCross_10 0 rfl <|
pw_iload_n (pc := 11) dX11_doCross_11 2 rfl <|
pw_iload_n (pc := 12) dX11_doCross_12 1 rfl <|
pw_callV_ri (n := 2) (rest := []) (tX11_endsWithin K.2.1 G a2 a1 m0) (pw_sh_71) cfX11 rfl miX11_endsWithin mlX11_206 (pc := 13) dX11_doCross_13 rfl rfl (by decide) (Nat.le_of_ble_eq_true rfl) fun y2 =>
pw_iconst (v := 1) (pc := 16) dX11_doCross_16 (by decide) <|
pw_icmp_ne  (tgt := 24) (pc := 17) dX11_doCross_17 (by decide) (fun h3 => pw_iconst (v := 0) (pc := 24) dX11_doCross_24 (by decide) <|
pw_zret (b := false) hH rfl (pc := 25) dX11_doCross_25) (fun h4 => pw_iconst (v := 1) (pc := 20) dX11_doCross_20 (by decide) <|
pw_goto (tgt := 25) (pc := 21) dX11_doCross_21 (by decide) <|
pw_zret (b := true) hH rfl (pc := 25) dX11_doCross_25)))
set_option maxHeartbeats 4000000 in
theorem tX11_crossing (l : Launch) (G : pw_G) (a1 : Int32) (m0 : pw_Mem) : PMet l G yX11_crossing cX11_crossing 6 (some .int) 3 [.ref (pw_ad G 71), .int a1] m0 (pw_Ri m0) (fX11_crossing a1 m0) :=
  pw_met (own := RX11) (l0 := [(0, .ref (pw_ad G 71)), (1, .int a1)]) rfl (by decide) rfl (Nat.le_of_ble_eq_true rfl) fun K hK hH => by
  delta fX11_crossing
  exact (pw_iload_n (pc := 0) dX11_crossing_0 1 rfl <|
pw_iconst (v := 0) (pc := 1) dX11_crossing_1 (by decide) <|
pw_iconst (v := 1) (pc := 2) dX11_crossing_2 (by decide) <|
pw_callS_rz (n := 3) (rest := []) (tX11_isIn K.2.1 G a1 (0 : Int32) (1 : Int32) m0) miX11_isIn mlX11_52 (pc := 3) dX11_crossing_3 rfl rfl (by decide) (Nat.le_of_ble_eq_true rfl) fun y1 =>
pw_ifz_ne (tgt := 11) (pc := 6) dX11_crossing_6 (by decide) (fun h42 => pw_iconst (v := 0) (pc := 11) dX11_crossing_11 (by decide) <|
pw_istore_n [(2, .int (0 : Int32)), (0, .ref (pw_ad G 71)), (1, .int a1)] (pc := 12) dX11_crossing_12 (by decide) rfl <|
pw_bipush (v := -4) (pc := 13) dX11_crossing_13 (by decide) <|
pw_istore_n [(3, .int (-4 : Int32)), (2, .int (0 : Int32)), (0, .ref (pw_ad G 71)), (1, .int a1)] (pc := 15) dX11_crossing_15 (by decide) rfl <|
pw_iconst (v := 0) (pc := 16) dX11_crossing_16 (by decide) <|
pw_istore [(4, .int (0 : Int32)), (3, .int (-4 : Int32)), (2, .int (0 : Int32)), (0, .ref (pw_ad G 71)), (1, .int a1)] (pc := 17) dX11_crossing_17 (by decide) rfl <|
pw_lp (fun (kk41 : Int32 → Int32 → Int32 → Option Int32) => ∀ (v2 : Int32) (v3 : Int32) (v4 : Int32), PW K G RX11 cX11_crossing 6 (some .int) 3 (pw_MQ K G (pw_Ri m0)) (kk41 v2 v3 v4) 19 [(4, .int v4), (3, .int v3), (2, .int v2), (0, .ref (pw_ad G 71)), (1, .int a1)] [] m0) (fun _ _ _ => pw_none) (fun nx5 hn6 v2 v3 v4 => pw_iload (pc := 19) dX11_crossing_19 0 rfl <|
pw_aload_n (pc := 21) dX11_crossing_21 3 rfl <|
pw_getR (o := 71) (k := 0) (t := 72) (pw_sh_71) cfX11 rfl (by decide) flX11_9 (pc := 22) dX11_crossing_22 <|
pw_iconst (v := 1) (pc := 25) dX11_crossing_25 (by decide) <|
pw_iald (pw_shRow pw_r72) (pc := 26) dX11_crossing_26 <|
pw_icmp_ge  (tgt := 117) (pc := 27) dX11_crossing_27 (by decide) (fun h39 => pw_iload_n (pc := 117) dX11_crossing_117 4 rfl <|
pw_if_ne (a := a1) (b := 0) (tgt := 125) (pc := 118) dX11_crossing_118 (by decide) (fun h7 => pw_iload_n (pc := 125) dX11_crossing_125 1 rfl <|
pw_iret (a := v3) (v := v3) hH rfl (pc := 126) dX11_crossing_126) (fun h8 => pw_iload_n (pc := 121) dX11_crossing_121 2 rfl <|
pw_goto (tgt := 126) (pc := 122) dX11_crossing_122 (by decide) <|
pw_iret (a := v2) (v := v2) hH rfl (pc := 126) dX11_crossing_126)) (fun h40 => pw_iload (pc := 30) dX11_crossing_30 0 rfl <|
pw_iconst (v := 1) (pc := 32) dX11_crossing_32 (by decide) <|
pw_iadd (pc := 33) dX11_crossing_33 <|
pw_ltI fun x9 => pw_istore [(5, .int x9), (4, .int v4), (3, .int v3), (2, .int v2), (0, .ref (pw_ad G 71)), (1, .int a1)] (pc := 34) dX11_crossing_34 (by decide) rfl <|
pw_lp (fun (kk38 : Int32 → Int32 → Int32 → Option Int32) => ∀ (v10 : Int32) (v11 : Int32) (v12 : Int32), PW K G RX11 cX11_crossing 6 (some .int) 3 (pw_MQ K G (pw_Ri m0)) (kk38 v10 v11 v12) 36 [(5, .int v12), (4, .int v4), (3, .int v11), (2, .int v10), (0, .ref (pw_ad G 71)), (1, .int a1)] [] m0) (fun _ _ _ => pw_none) (fun nx13 hn14 v10 v11 v12 => pw_iload (pc := 36) dX11_crossing_36 0 rfl <|
pw_aload_n (pc := 38) dX11_crossing_38 4 rfl <|
pw_getR (o := 71) (k := 0) (t := 72) (pw_sh_71) cfX11 rfl (by decide) flX11_9 (pc := 39) dX11_crossing_39 <|
pw_iconst (v := 1) (pc := 42) dX11_crossing_42 (by decide) <|
pw_iald (pw_shRow pw_r72) (pc := 43) dX11_crossing_43 <|
pw_icmp_ge  (tgt := 111) (pc := 44) dX11_crossing_44 (by decide) (fun h36 => pw_ltA fun x15 hxx15 => pw_iinc (v := x15) [(4, .int x15), (5, .int v12), (3, .int v11), (2, .int v10), (0, .ref (pw_ad G 71)), (1, .int a1)] (pc := 111) dX11_crossing_111 1 rfl (by rw [hxx15]; rfl) (by decide) rfl <|
pw_goto (tgt := 19) (pc := 114) dX11_crossing_114 (by decide) <|
pw_sub [0, 2, 3, 4, 5] rfl <| hn6 v10 v11 x15) (fun h37 => pw_aload_n (pc := 47) dX11_crossing_47 4 rfl <|
pw_getR (o := 71) (k := 0) (t := 72) (pw_sh_71) cfX11 rfl (by decide) flX11_9 (pc := 48) dX11_crossing_48 <|
pw_iload (pc := 51) dX11_crossing_51 1 rfl <|
pw_callS_rz (n := 2) (rest := []) (tX11_isWhole K.2.1 G pw_r72 v4 m0) miX11_isWhole mlX11_69 (pc := 53) dX11_crossing_53 rfl rfl (by decide) (Nat.le_of_ble_eq_true rfl) fun y16 =>
pw_jn (fun (k20 : Int32 → Int32 → Option Int32) => ∀ (v17 : Int32) (v18 : Int32), PW K G RX11 cX11_crossing 6 (some .int) 3 (pw_MQ K G (pw_Ri m0)) (k20 v17 v18) 105 [(5, .int v12), (4, .int v4), (3, .int v18), (2, .int v17), (0, .ref (pw_ad G 71)), (1, .int a1)] [] m0) (fun v17 v18 => pw_ltA fun x19 hxx19 => pw_iinc (v := x19) [(5, .int x19), (4, .int v4), (3, .int v18), (2, .int v17), (0, .ref (pw_ad G 71)), (1, .int a1)] (pc := 105) dX11_crossing_105 0 rfl (by rw [hxx19]; rfl) (by decide) rfl <|
pw_goto (tgt := 36) (pc := 108) dX11_crossing_108 (by decide) <|
hn14 v17 v18 x19) (fun k20 hk21 => pw_ifz_eq (tgt := 105) (pc := 56) dX11_crossing_56 (by decide) (fun h34 => pw_aload_n (pc := 59) dX11_crossing_59 4 rfl <|
pw_getR (o := 71) (k := 0) (t := 72) (pw_sh_71) cfX11 rfl (by decide) flX11_9 (pc := 60) dX11_crossing_60 <|
pw_iload (pc := 63) dX11_crossing_63 0 rfl <|
pw_callS_rz (n := 2) (rest := []) (tX11_isWhole K.2.1 G pw_r72 v12 m0) miX11_isWhole mlX11_69 (pc := 65) dX11_crossing_65 rfl rfl (by decide) (Nat.le_of_ble_eq_true rfl) fun y22 =>
pw_ifz_eq (tgt := 105) (pc := 68) dX11_crossing_68 (by decide) (fun h32 => pw_aload_n (pc := 71) dX11_crossing_71 4 rfl <|
pw_iload (pc := 72) dX11_crossing_72 1 rfl <|
pw_iload (pc := 74) dX11_crossing_74 0 rfl <|
pw_callV_rz (n := 2) (rest := []) (tX11_doCross K.2.1 G v4 v12 m0) (pw_sh_71) cfX11 rfl miX11_doCross mlX11_209 (pc := 76) dX11_crossing_76 rfl rfl (by decide) (Nat.le_of_ble_eq_true rfl) fun y23 =>
pw_ifz_ne (tgt := 85) (pc := 79) dX11_crossing_79 (by decide) (fun h30 => pw_iload_n (pc := 85) dX11_crossing_85 3 rfl <|
pw_jn (fun (k26 : Int32 → Option Int32) => ∀ (w24 : Int32), PW K G RX11 cX11_crossing 6 (some .int) 3 (pw_MQ K G (pw_Ri m0)) (k26 w24) 101 [(5, .int v12), (4, .int v4), (2, .int v10), (0, .ref (pw_ad G 71)), (1, .int a1)] [.int w24] m0) (fun w24 => pw_istore_n [(3, .int w24), (5, .int v12), (4, .int v4), (2, .int v10), (0, .ref (pw_ad G 71)), (1, .int a1)] (pc := 101) dX11_crossing_101 (by decide) rfl <|
pw_ltA fun x25 hxx25 => pw_iinc (v := x25) [(2, .int x25), (3, .int w24), (5, .int v12), (4, .int v4), (0, .ref (pw_ad G 71)), (1, .int a1)] (pc := 102) dX11_crossing_102 3 rfl (by rw [hxx25]; rfl) (by decide) rfl <|
pw_sub [2, 3, 1, 0, 4, 5] rfl <| hk21 x25 w24) (fun k26 hk27 => pw_if_ne (a := v10) (b := 0) (tgt := 100) (pc := 86) dX11_crossing_86 (by decide) (fun h28 => pw_iload_n (pc := 100) dX11_crossing_100 2 rfl <|
pw_sub [0, 1, 3, 4, 5] rfl <| hk27 v11) (fun h29 => pw_bipush (v := 10) (pc := 89) dX11_crossing_89 (by decide) <|
pw_iload (pc := 91) dX11_crossing_91 1 rfl <|
pw_imul (pc := 93) dX11_crossing_93 <|
pw_iload (pc := 94) dX11_crossing_94 0 rfl <|
pw_iadd (pc := 96) dX11_crossing_96 <|
pw_goto (tgt := 101) (pc := 97) dX11_crossing_97 (by decide) <|
pw_sub [0, 1, 3, 4, 5] rfl <| hk27 (((10 : Int32) * v4) + v12)))) (fun h31 => pw_goto (tgt := 105) (pc := 82) dX11_crossing_82 (by decide) <|
hk21 v10 v11)) (fun h33 => hk21 v10 v11)) (fun h35 => hk21 v10 v11)))) FU v2 v3 x9)) FU (0 : Int32) (-4 : Int32) (0 : Int32)) (fun h43 => pw_iconst (v := -1) (pc := 9) dX11_crossing_9 (by decide) <|
pw_iret (a := (-1 : Int32)) (v := (-1 : Int32)) hH rfl (pc := 10) dX11_crossing_10))
set_option maxHeartbeats 4000000 in
theorem tX11_isTangled (l : Launch) (G : pw_G) (a1 : Int32) (m0 : pw_Mem) : PMet l G yX11_isTangled cX11_isTangled 5 (some .boolean) 3 [.ref (pw_ad G 71), .int a1] m0 (pw_Rz m0) (fX11_isTangled a1 m0) :=
  pw_met (own := RX11) (l0 := [(0, .ref (pw_ad G 71)), (1, .int a1)]) rfl (by decide) rfl (Nat.le_of_ble_eq_true rfl) fun K hK hH => by
  delta fX11_isTangled
  exact (pw_iconst (v := 0) (pc := 0) dX11_isTangled_0 (by decide) <|
pw_istore_n [(2, .int (0 : Int32)), (0, .ref (pw_ad G 71)), (1, .int a1)] (pc := 1) dX11_isTangled_1 (by decide) rfl <|
pw_lp (fun (kk39 : Int32 → Option Bool) => ∀ (v1 : Int32), PW K G RX11 cX11_isTangled 5 (some .boolean) 3 (pw_MQ K G (pw_Rz m0)) (kk39 v1) 2 [(2, .int v1), (0, .ref (pw_ad G 71)), (1, .int a1)] [] m0) (fun _ => pw_none) (fun nx2 hn3 v1 => pw_iload_n (pc := 2) dX11_isTangled_2 0 rfl <|
pw_aload_n (pc := 3) dX11_isTangled_3 1 rfl <|
pw_getR (o := 71) (k := 0) (t := 72) (pw_sh_71) cfX11 rfl (by decide) flX11_9 (pc := 4) dX11_isTangled_4 <|
pw_iconst (v := 1) (pc := 7) dX11_isTangled_7 (by decide) <|
pw_iald (pw_shRow pw_r72) (pc := 8) dX11_isTangled_8 <|
pw_icmp_ge  (tgt := 99) (pc := 9) dX11_isTangled_9 (by decide) (fun h37 => pw_iconst (v := 0) (pc := 99) dX11_isTangled_99 (by decide) <|
pw_zret (b := false) hH rfl (pc := 100) dX11_isTangled_100) (fun h38 => pw_iload_n (pc := 12) dX11_isTangled_12 0 rfl <|
pw_iconst (v := 1) (pc := 13) dX11_isTangled_13 (by decide) <|
pw_iadd (pc := 14) dX11_isTangled_14 <|
pw_ltI fun x4 => pw_istore_n [(3, .int x4), (2, .int v1), (0, .ref (pw_ad G 71)), (1, .int a1)] (pc := 15) dX11_isTangled_15 (by decide) rfl <|
pw_lp (fun (kk36 : Int32 → Option Bool) => ∀ (v5 : Int32), PW K G RX11 cX11_isTangled 5 (some .boolean) 3 (pw_MQ K G (pw_Rz m0)) (kk36 v5) 16 [(3, .int v5), (2, .int v1), (0, .ref (pw_ad G 71)), (1, .int a1)] [] m0) (fun _ => pw_none) (fun nx6 hn7 v5 => pw_iload_n (pc := 16) dX11_isTangled_16 0 rfl <|
pw_aload_n (pc := 17) dX11_isTangled_17 2 rfl <|
pw_getR (o := 71) (k := 0) (t := 72) (pw_sh_71) cfX11 rfl (by decide) flX11_9 (pc := 18) dX11_isTangled_18 <|
pw_iconst (v := 1) (pc := 21) dX11_isTangled_21 (by decide) <|
pw_iald (pw_shRow pw_r72) (pc := 22) dX11_isTangled_22 <|
pw_icmp_ge  (tgt := 93) (pc := 23) dX11_isTangled_23 (by decide) (fun h34 => pw_ltA fun x8 hxx8 => pw_iinc (v := x8) [(2, .int x8), (3, .int v5), (0, .ref (pw_ad G 71)), (1, .int a1)] (pc := 93) dX11_isTangled_93 1 rfl (by rw [hxx8]; rfl) (by decide) rfl <|
pw_goto (tgt := 2) (pc := 96) dX11_isTangled_96 (by decide) <|
pw_sub [0, 2, 3] rfl <| hn3 x8) (fun h35 => pw_aload_n (pc := 26) dX11_isTangled_26 2 rfl <|
pw_getR (o := 71) (k := 0) (t := 72) (pw_sh_71) cfX11 rfl (by decide) flX11_9 (pc := 27) dX11_isTangled_27 <|
pw_iload_n (pc := 30) dX11_isTangled_30 1 rfl <|
pw_callS_rz (n := 2) (rest := []) (tX11_isWhole K.2.1 G pw_r72 v1 m0) miX11_isWhole mlX11_69 (pc := 31) dX11_isTangled_31 rfl rfl (by decide) (Nat.le_of_ble_eq_true rfl) fun y9 =>
pw_jn (fun (k19 : Int32 → Option Bool) => ∀ (w10 : Int32), PW K G RX11 cX11_isTangled 5 (some .boolean) 3 (pw_MQ K G (pw_Rz m0)) (k19 w10) 69 [(3, .int v5), (2, .int v1), (0, .ref (pw_ad G 71)), (1, .int a1)] [.int w10] m0) (fun w10 => pw_istore [(4, .int w10), (3, .int v5), (2, .int v1), (0, .ref (pw_ad G 71)), (1, .int a1)] (pc := 69) dX11_isTangled_69 (by decide) rfl <|
pw_iload (pc := 71) dX11_isTangled_71 0 rfl <|
pw_jn (fun (k12 : Option Bool) => PW K G RX11 cX11_isTangled 5 (some .boolean) 3 (pw_MQ K G (pw_Rz m0)) k12 87 [(3, .int v5), (2, .int v1), (0, .ref (pw_ad G 71)), (1, .int a1)] [] m0) (pw_ltA fun x11 hxx11 => pw_iinc (v := x11) [(3, .int x11), (2, .int v1), (0, .ref (pw_ad G 71)), (1, .int a1)] (pc := 87) dX11_isTangled_87 0 rfl (by rw [hxx11]; rfl) (by decide) rfl <|
pw_goto (tgt := 16) (pc := 90) dX11_isTangled_90 (by decide) <|
hn7 x11) (fun k12 hk13 => pw_if_eq (a := w10) (b := 0) (tgt := 87) (pc := 73) dX11_isTangled_73 (by decide) (fun h17 => pw_sub [1, 2, 3, 4] rfl <| hk13) (fun h18 => pw_aload_n (pc := 76) dX11_isTangled_76 3 rfl <|
pw_iload_n (pc := 77) dX11_isTangled_77 2 rfl <|
pw_iload_n (pc := 78) dX11_isTangled_78 1 rfl <|
pw_callV_rz (n := 2) (rest := []) (tX11_doCross K.2.1 G v1 v5 m0) (pw_sh_71) cfX11 rfl miX11_doCross mlX11_209 (pc := 79) dX11_isTangled_79 rfl rfl (by decide) (Nat.le_of_ble_eq_true rfl) fun y14 =>
pw_ifz_eq (tgt := 87) (pc := 82) dX11_isTangled_82 (by decide) (fun h15 => pw_iconst (v := 1) (pc := 85) dX11_isTangled_85 (by decide) <|
pw_zret (b := true) hH rfl (pc := 86) dX11_isTangled_86) (fun h16 => pw_sub [1, 2, 3, 4] rfl <| hk13)))) (fun k19 hk20 => pw_jn (fun (k21 : Option Bool) => PW K G RX11 cX11_isTangled 5 (some .boolean) 3 (pw_MQ K G (pw_Rz m0)) k21 68 [(3, .int v5), (2, .int v1), (0, .ref (pw_ad G 71)), (1, .int a1)] [] m0) (pw_iconst (v := 0) (pc := 68) dX11_isTangled_68 (by decide) <|
hk20 (0 : Int32)) (fun k21 hk22 => pw_ifz_eq (tgt := 68) (pc := 34) dX11_isTangled_34 (by decide) (fun h32 => pw_aload_n (pc := 37) dX11_isTangled_37 2 rfl <|
pw_getR (o := 71) (k := 0) (t := 72) (pw_sh_71) cfX11 rfl (by decide) flX11_9 (pc := 38) dX11_isTangled_38 <|
pw_iload_n (pc := 41) dX11_isTangled_41 0 rfl <|
pw_callS_rz (n := 2) (rest := []) (tX11_isWhole K.2.1 G pw_r72 v5 m0) miX11_isWhole mlX11_69 (pc := 42) dX11_isTangled_42 rfl rfl (by decide) (Nat.le_of_ble_eq_true rfl) fun y23 =>
pw_ifz_eq (tgt := 68) (pc := 45) dX11_isTangled_45 (by decide) (fun h30 => pw_iload_n (pc := 48) dX11_isTangled_48 3 rfl <|
pw_iload_n (pc := 49) dX11_isTangled_49 1 rfl <|
pw_callS_rz (n := 2) (rest := []) (tX11_has K.2.1 G a1 v1 m0) miX11_has mlX11_93 (pc := 50) dX11_isTangled_50 rfl rfl (by decide) (Nat.le_of_ble_eq_true rfl) fun y24 =>
pw_ifz_ne (tgt := 68) (pc := 53) dX11_isTangled_53 (by decide) (fun h28 => hk22) (fun h29 => pw_iload_n (pc := 56) dX11_isTangled_56 3 rfl <|
pw_iload_n (pc := 57) dX11_isTangled_57 0 rfl <|
pw_callS_rz (n := 2) (rest := []) (tX11_has K.2.1 G a1 v5 m0) miX11_has mlX11_93 (pc := 58) dX11_isTangled_58 rfl rfl (by decide) (Nat.le_of_ble_eq_true rfl) fun y25 =>
pw_ifz_ne (tgt := 68) (pc := 61) dX11_isTangled_61 (by decide) (fun h26 => hk22) (fun h27 => pw_iconst (v := 1) (pc := 64) dX11_isTangled_64 (by decide) <|
pw_goto (tgt := 69) (pc := 65) dX11_isTangled_65 (by decide) <|
hk20 (1 : Int32)))) (fun h31 => hk22)) (fun h33 => hk22))))) FU x4)) FU (0 : Int32))
set_option maxHeartbeats 4000000 in
theorem tX11_untangle (l : Launch) (G : pw_G)  (m0 : pw_Mem) : PMet l G yX11_untangle cX11_untangle 3 (some .int) 4 [.ref (pw_ad G 71)] m0 (pw_Ri m0) (fX11_untangle m0) :=
  pw_met (own := RX11) (l0 := [(0, .ref (pw_ad G 71))]) rfl (by decide) rfl (Nat.le_of_ble_eq_true rfl) fun K hK hH => by
  delta fX11_untangle
  exact (pw_aload_n (pc := 0) dX11_untangle_0 0 rfl <|
pw_getR (o := 71) (k := 0) (t := 72) (pw_sh_71) cfX11 rfl (by decide) flX11_9 (pc := 1) dX11_untangle_1 <|
pw_callS_ri (n := 1) (rest := []) (tX11_wholeSet K.2.1 G pw_r72 m0) miX11_wholeSet mlX11_212 (pc := 4) dX11_untangle_4 rfl rfl (by decide) (Nat.le_of_ble_eq_true rfl) fun y1 =>
pw_istore_n [(1, .int y1), (0, .ref (pw_ad G 71))] (pc := 7) dX11_untangle_7 (by decide) rfl <|
pw_iconst (v := 0) (pc := 8) dX11_untangle_8 (by decide) <|
pw_istore_n [(2, .int (0 : Int32)), (1, .int y1), (0, .ref (pw_ad G 71))] (pc := 9) dX11_untangle_9 (by decide) rfl <|
pw_lp (fun (kk19 : Int32 → Int32 → Option Int32) => ∀ (v2 : Int32) (v3 : Int32), PW K G RX11 cX11_untangle 3 (some .int) 4 (pw_MQ K G (pw_Ri m0)) (kk19 v2 v3) 10 [(2, .int v3), (1, .int v2), (0, .ref (pw_ad G 71))] [] m0) (fun _ _ => pw_none) (fun nx4 hn5 v2 v3 => pw_iload_n (pc := 10) dX11_untangle_10 0 rfl <|
pw_iconst (v := 1) (pc := 11) dX11_untangle_11 (by decide) <|
pw_aload_n (pc := 12) dX11_untangle_12 2 rfl <|
pw_getR (o := 71) (k := 0) (t := 72) (pw_sh_71) cfX11 rfl (by decide) flX11_9 (pc := 13) dX11_untangle_13 <|
pw_iconst (v := 1) (pc := 16) dX11_untangle_16 (by decide) <|
pw_iald (pw_shRow pw_r72) (pc := 17) dX11_untangle_17 <|
pw_ishl (pc := 18) dX11_untangle_18 <|
pw_icmp_ge  (tgt := 49) (pc := 19) dX11_untangle_19 (by decide) (fun h17 => pw_iload_n (pc := 49) dX11_untangle_49 1 rfl <|
pw_iret (a := v2) (v := v2) hH rfl (pc := 50) dX11_untangle_50) (fun h18 => pw_iload_n (pc := 22) dX11_untangle_22 0 rfl <|
pw_callS_ri (n := 1) (rest := []) (tX11_bits K.2.1 G v3 m0) miX11_bits mlX11_180 (pc := 23) dX11_untangle_23 rfl rfl (by decide) (Nat.le_of_ble_eq_true rfl) fun y6 =>
pw_iload_n (pc := 26) dX11_untangle_26 1 rfl <|
pw_callS_ri (n := 1) (rest := [.int y6]) (tX11_bits K.2.1 G v2 m0) miX11_bits mlX11_180 (pc := 27) dX11_untangle_27 rfl rfl (by decide) (Nat.le_of_ble_eq_true rfl) fun y7 =>
pw_jn (fun (k10 : Int32 → Option Int32) => ∀ (v8 : Int32), PW K G RX11 cX11_untangle 3 (some .int) 4 (pw_MQ K G (pw_Ri m0)) (k10 v8) 43 [(2, .int v3), (1, .int v8), (0, .ref (pw_ad G 71))] [] m0) (fun v8 => pw_ltA fun x9 hxx9 => pw_iinc (v := x9) [(2, .int x9), (1, .int v8), (0, .ref (pw_ad G 71))] (pc := 43) dX11_untangle_43 0 rfl (by rw [hxx9]; rfl) (by decide) rfl <|
pw_goto (tgt := 10) (pc := 46) dX11_untangle_46 (by decide) <|
hn5 v8 x9) (fun k10 hk11 => pw_icmp_ge  (tgt := 43) (pc := 30) dX11_untangle_30 (by decide) (fun h15 => hk11 v2) (fun h16 => pw_aload_n (pc := 33) dX11_untangle_33 2 rfl <|
pw_iload_n (pc := 34) dX11_untangle_34 0 rfl <|
pw_callV_rz (n := 1) (rest := []) (tX11_isTangled K.2.1 G v3 m0) (pw_sh_71) cfX11 rfl miX11_isTangled mlX11_215 (pc := 35) dX11_untangle_35 rfl rfl (by decide) (Nat.le_of_ble_eq_true rfl) fun y12 =>
pw_ifz_ne (tgt := 43) (pc := 38) dX11_untangle_38 (by decide) (fun h13 => hk11 v2) (fun h14 => pw_iload_n (pc := 41) dX11_untangle_41 0 rfl <|
pw_istore_n [(1, .int v3), (2, .int v3), (0, .ref (pw_ad G 71))] (pc := 42) dX11_untangle_42 (by decide) rfl <|
pw_sub [1, 0, 2] rfl <| hk11 v3))))) FU y1 (0 : Int32))
set_option maxHeartbeats 4000000 in
theorem tX11_clanOf (l : Launch) (G : pw_G) (a1 : Int32) (a2 : Int32) (m0 : pw_Mem) : PMet l G yX11_clanOf cX11_clanOf 6 (some .int) 1 [.ref (pw_ad G 71), .int a1, .int a2] m0 (pw_Ri m0) (fX11_clanOf a1 a2 m0) :=
  pw_met (own := RX11) (l0 := [(0, .ref (pw_ad G 71)), (1, .int a1), (2, .int a2)]) rfl (by decide) rfl (Nat.le_of_ble_eq_true rfl) fun K hK hH => by
  delta fX11_clanOf
  exact (pw_iconst (v := 1) (pc := 0) dX11_clanOf_0 (by decide) <|
pw_iload_n (pc := 1) dX11_clanOf_1 1 rfl <|
pw_ishl (pc := 2) dX11_clanOf_2 <|
pw_ltI fun x1 => pw_istore_n [(3, .int x1), (0, .ref (pw_ad G 71)), (1, .int a1), (2, .int a2)] (pc := 3) dX11_clanOf_3 (by decide) rfl <|
pw_iconst (v := 0) (pc := 4) dX11_clanOf_4 (by decide) <|
pw_istore [(4, .int (0 : Int32)), (3, .int x1), (0, .ref (pw_ad G 71)), (1, .int a1), (2, .int a2)] (pc := 5) dX11_clanOf_5 (by decide) rfl <|
pw_sub [0, 1, 2, 4] rfl <| pw_lp (fun (kk36 : Int32 → Int32 → Option Int32) => ∀ (v2 : Int32) (v3 : Int32), PW K G RX11 cX11_clanOf 6 (some .int) 1 (pw_MQ K G (pw_Ri m0)) (kk36 v2 v3) 7 [(4, .int v3), (3, .int v2), (0, .ref (pw_ad G 71)), (2, .int a2)] [] m0) (fun _ _ => pw_none) (fun nx4 hn5 v2 v3 => pw_iload (pc := 7) dX11_clanOf_7 0 rfl <|
pw_bipush (v := 7) (pc := 9) dX11_clanOf_9 (by decide) <|
pw_icmp_ge  (tgt := 115) (pc := 11) dX11_clanOf_11 (by decide) (fun h34 => pw_iload_n (pc := 115) dX11_clanOf_115 1 rfl <|
pw_iret (a := v2) (v := v2) hH rfl (pc := 116) dX11_clanOf_116) (fun h35 => pw_iconst (v := 0) (pc := 14) dX11_clanOf_14 (by decide) <|
pw_istore [(5, .int (0 : Int32)), (4, .int v3), (3, .int v2), (0, .ref (pw_ad G 71)), (2, .int a2)] (pc := 15) dX11_clanOf_15 (by decide) rfl <|
pw_lp (fun (kk33 : Int32 → Int32 → Option Int32) => ∀ (v6 : Int32) (v7 : Int32), PW K G RX11 cX11_clanOf 6 (some .int) 1 (pw_MQ K G (pw_Ri m0)) (kk33 v6 v7) 17 [(5, .int v7), (4, .int v3), (3, .int v6), (0, .ref (pw_ad G 71)), (2, .int a2)] [] m0) (fun _ _ => pw_none) (fun nx8 hn9 v6 v7 => pw_iload (pc := 17) dX11_clanOf_17 0 rfl <|
pw_aload_n (pc := 19) dX11_clanOf_19 3 rfl <|
pw_getR (o := 71) (k := 0) (t := 72) (pw_sh_71) cfX11 rfl (by decide) flX11_9 (pc := 20) dX11_clanOf_20 <|
pw_iconst (v := 1) (pc := 23) dX11_clanOf_23 (by decide) <|
pw_iald (pw_shRow pw_r72) (pc := 24) dX11_clanOf_24 <|
pw_icmp_ge  (tgt := 109) (pc := 25) dX11_clanOf_25 (by decide) (fun h31 => pw_ltA fun x10 hxx10 => pw_iinc (v := x10) [(4, .int x10), (5, .int v7), (3, .int v6), (0, .ref (pw_ad G 71)), (2, .int a2)] (pc := 109) dX11_clanOf_109 1 rfl (by rw [hxx10]; rfl) (by decide) rfl <|
pw_goto (tgt := 7) (pc := 112) dX11_clanOf_112 (by decide) <|
pw_sub [0, 2, 3, 4] rfl <| hn5 v6 x10) (fun h32 => pw_iload_n (pc := 28) dX11_clanOf_28 4 rfl <|
pw_iload (pc := 29) dX11_clanOf_29 0 rfl <|
pw_callS_rz (n := 2) (rest := []) (tX11_has K.2.1 G a2 v7 m0) miX11_has mlX11_93 (pc := 31) dX11_clanOf_31 rfl rfl (by decide) (Nat.le_of_ble_eq_true rfl) fun y11 =>
pw_jn (fun (k14 : Int32 → Option Int32) => ∀ (v12 : Int32), PW K G RX11 cX11_clanOf 6 (some .int) 1 (pw_MQ K G (pw_Ri m0)) (k14 v12) 103 [(5, .int v7), (4, .int v3), (3, .int v12), (0, .ref (pw_ad G 71)), (2, .int a2)] [] m0) (fun v12 => pw_ltA fun x13 hxx13 => pw_iinc (v := x13) [(5, .int x13), (4, .int v3), (3, .int v12), (0, .ref (pw_ad G 71)), (2, .int a2)] (pc := 103) dX11_clanOf_103 0 rfl (by rw [hxx13]; rfl) (by decide) rfl <|
pw_goto (tgt := 17) (pc := 106) dX11_clanOf_106 (by decide) <|
hn9 v12 x13) (fun k14 hk15 => pw_ifz_eq (tgt := 103) (pc := 34) dX11_clanOf_34 (by decide) (fun h29 => pw_iload_n (pc := 37) dX11_clanOf_37 2 rfl <|
pw_aload_n (pc := 38) dX11_clanOf_38 3 rfl <|
pw_getR (o := 71) (k := 0) (t := 72) (pw_sh_71) cfX11 rfl (by decide) flX11_9 (pc := 39) dX11_clanOf_39 <|
pw_iload (pc := 42) dX11_clanOf_42 0 rfl <|
pw_iconst (v := 2) (pc := 44) dX11_clanOf_44 (by decide) <|
pw_callS_ri (n := 2) (rest := [.ref (pw_ad G 72), .int v6]) (tX11_of K.2.1 G v7 (2 : Int32) m0) miX11_of mlX11_56 (pc := 45) dX11_clanOf_45 rfl rfl (by decide) (Nat.le_of_ble_eq_true rfl) fun y16 =>
pw_iald (pw_shRow pw_r72) (pc := 48) dX11_clanOf_48 <|
pw_callS_rz (n := 2) (rest := []) (tX11_has K.2.1 G v6 (m0 72 (y16).toNatClampNeg) m0) miX11_has mlX11_93 (pc := 49) dX11_clanOf_49 rfl rfl (by decide) (Nat.le_of_ble_eq_true rfl) fun y17 =>
pw_jn (fun (k21 : Option Int32) => PW K G RX11 cX11_clanOf 6 (some .int) 1 (pw_MQ K G (pw_Ri m0)) k21 73 [(5, .int v7), (4, .int v3), (3, .int v6), (0, .ref (pw_ad G 71)), (2, .int a2)] [] m0) (pw_iload_n (pc := 73) dX11_clanOf_73 2 rfl <|
pw_iconst (v := 1) (pc := 74) dX11_clanOf_74 (by decide) <|
pw_aload_n (pc := 75) dX11_clanOf_75 3 rfl <|
pw_getR (o := 71) (k := 0) (t := 72) (pw_sh_71) cfX11 rfl (by decide) flX11_9 (pc := 76) dX11_clanOf_76 <|
pw_iload (pc := 79) dX11_clanOf_79 0 rfl <|
pw_iconst (v := 2) (pc := 81) dX11_clanOf_81 (by decide) <|
pw_callS_ri (n := 2) (rest := [.ref (pw_ad G 72), .int (1 : Int32), .int v6]) (tX11_of K.2.1 G v7 (2 : Int32) m0) miX11_of mlX11_56 (pc := 82) dX11_clanOf_82 rfl rfl (by decide) (Nat.le_of_ble_eq_true rfl) fun y18 =>
pw_iald (pw_shRow pw_r72) (pc := 85) dX11_clanOf_85 <|
pw_ishl (pc := 86) dX11_clanOf_86 <|
pw_iconst (v := 1) (pc := 87) dX11_clanOf_87 (by decide) <|
pw_aload_n (pc := 88) dX11_clanOf_88 3 rfl <|
pw_getR (o := 71) (k := 0) (t := 72) (pw_sh_71) cfX11 rfl (by decide) flX11_9 (pc := 89) dX11_clanOf_89 <|
pw_iload (pc := 92) dX11_clanOf_92 0 rfl <|
pw_iconst (v := 3) (pc := 94) dX11_clanOf_94 (by decide) <|
pw_callS_ri (n := 2) (rest := [.ref (pw_ad G 72), .int (1 : Int32), .int ((1 : Int32) <<< ((m0 72 (y18).toNatClampNeg) &&& 31)), .int v6]) (tX11_of K.2.1 G v7 (3 : Int32) m0) miX11_of mlX11_56 (pc := 95) dX11_clanOf_95 rfl rfl (by decide) (Nat.le_of_ble_eq_true rfl) fun y19 =>
pw_iald (pw_shRow pw_r72) (pc := 98) dX11_clanOf_98 <|
pw_ishl (pc := 99) dX11_clanOf_99 <|
pw_ior (pc := 100) dX11_clanOf_100 <|
pw_ior (pc := 101) dX11_clanOf_101 <|
pw_ltI fun x20 => pw_istore_n [(3, .int x20), (5, .int v7), (4, .int v3), (0, .ref (pw_ad G 71)), (2, .int a2)] (pc := 102) dX11_clanOf_102 (by decide) rfl <|
pw_sub [1, 2, 0, 3, 4] rfl <| hk15 x20) (fun k21 hk22 => pw_ifz_ne (tgt := 73) (pc := 52) dX11_clanOf_52 (by decide) (fun h27 => hk22) (fun h28 => pw_iload_n (pc := 55) dX11_clanOf_55 2 rfl <|
pw_aload_n (pc := 56) dX11_clanOf_56 3 rfl <|
pw_getR (o := 71) (k := 0) (t := 72) (pw_sh_71) cfX11 rfl (by decide) flX11_9 (pc := 57) dX11_clanOf_57 <|
pw_iload (pc := 60) dX11_clanOf_60 0 rfl <|
pw_iconst (v := 3) (pc := 62) dX11_clanOf_62 (by decide) <|
pw_callS_ri (n := 2) (rest := [.ref (pw_ad G 72), .int v6]) (tX11_of K.2.1 G v7 (3 : Int32) m0) miX11_of mlX11_56 (pc := 63) dX11_clanOf_63 rfl rfl (by decide) (Nat.le_of_ble_eq_true rfl) fun y23 =>
pw_iald (pw_shRow pw_r72) (pc := 66) dX11_clanOf_66 <|
pw_callS_rz (n := 2) (rest := []) (tX11_has K.2.1 G v6 (m0 72 (y23).toNatClampNeg) m0) miX11_has mlX11_93 (pc := 67) dX11_clanOf_67 rfl rfl (by decide) (Nat.le_of_ble_eq_true rfl) fun y24 =>
pw_ifz_eq (tgt := 103) (pc := 70) dX11_clanOf_70 (by decide) (fun h25 => hk22) (fun h26 => hk15 v6)))) (fun h30 => hk15 v6)))) FU v2 (0 : Int32))) FU x1 (0 : Int32))
set_option maxHeartbeats 4000000 in
theorem tX11_clans (l : Launch) (G : pw_G) (a1 : Int32) (m0 : pw_Mem) : PMet l G yX11_clans cX11_clans 7 (some .int) 4 [.ref (pw_ad G 71), .int a1] m0 (pw_Ri m0) (fX11_clans a1 m0) :=
  pw_met (own := RX11) (l0 := [(0, .ref (pw_ad G 71)), (1, .int a1)]) rfl (by decide) rfl (Nat.le_of_ble_eq_true rfl) fun K hK hH => by
  delta fX11_clans
  exact (pw_iload_n (pc := 0) dX11_clans_0 1 rfl <|
pw_iconst (v := 0) (pc := 1) dX11_clans_1 (by decide) <|
pw_iconst (v := 1) (pc := 2) dX11_clans_2 (by decide) <|
pw_callS_rz (n := 3) (rest := []) (tX11_isIn K.2.1 G a1 (0 : Int32) (1 : Int32) m0) miX11_isIn mlX11_52 (pc := 3) dX11_clans_3 rfl rfl (by decide) (Nat.le_of_ble_eq_true rfl) fun y1 =>
pw_ifz_ne (tgt := 11) (pc := 6) dX11_clans_6 (by decide) (fun h28 => pw_iconst (v := 0) (pc := 11) dX11_clans_11 (by decide) <|
pw_istore_n [(2, .int (0 : Int32)), (0, .ref (pw_ad G 71)), (1, .int a1)] (pc := 12) dX11_clans_12 (by decide) rfl <|
pw_iconst (v := 0) (pc := 13) dX11_clans_13 (by decide) <|
pw_istore_n [(3, .int (0 : Int32)), (2, .int (0 : Int32)), (0, .ref (pw_ad G 71)), (1, .int a1)] (pc := 14) dX11_clans_14 (by decide) rfl <|
pw_iconst (v := 0) (pc := 15) dX11_clans_15 (by decide) <|
pw_istore [(4, .int (0 : Int32)), (3, .int (0 : Int32)), (2, .int (0 : Int32)), (0, .ref (pw_ad G 71)), (1, .int a1)] (pc := 16) dX11_clans_16 (by decide) rfl <|
pw_iconst (v := 0) (pc := 18) dX11_clans_18 (by decide) <|
pw_istore [(5, .int (0 : Int32)), (4, .int (0 : Int32)), (3, .int (0 : Int32)), (2, .int (0 : Int32)), (0, .ref (pw_ad G 71)), (1, .int a1)] (pc := 19) dX11_clans_19 (by decide) rfl <|
pw_lp (fun (kk27 : Int32 → Int32 → Int32 → Int32 → Option Int32) => ∀ (v2 : Int32) (v3 : Int32) (v4 : Int32) (v5 : Int32), PW K G RX11 cX11_clans 7 (some .int) 4 (pw_MQ K G (pw_Ri m0)) (kk27 v2 v3 v4 v5) 21 [(5, .int v5), (4, .int v4), (3, .int v3), (2, .int v2), (0, .ref (pw_ad G 71)), (1, .int a1)] [] m0) (fun _ _ _ _ => pw_none) (fun nx6 hn7 v2 v3 v4 v5 => pw_iload (pc := 21) dX11_clans_21 0 rfl <|
pw_aload_n (pc := 23) dX11_clans_23 4 rfl <|
pw_getR (o := 71) (k := 0) (t := 72) (pw_sh_71) cfX11 rfl (by decide) flX11_9 (pc := 24) dX11_clans_24 <|
pw_iconst (v := 0) (pc := 27) dX11_clans_27 (by decide) <|
pw_iald (pw_shRow pw_r72) (pc := 28) dX11_clans_28 <|
pw_icmp_ge  (tgt := 86) (pc := 29) dX11_clans_29 (by decide) (fun h25 => pw_iload_n (pc := 86) dX11_clans_86 5 rfl <|
pw_if_ne (a := a1) (b := 0) (tgt := 94) (pc := 87) dX11_clans_87 (by decide) (fun h8 => pw_iload_n (pc := 94) dX11_clans_94 2 rfl <|
pw_iret (a := v3) (v := v3) hH rfl (pc := 95) dX11_clans_95) (fun h9 => pw_iload_n (pc := 90) dX11_clans_90 3 rfl <|
pw_goto (tgt := 95) (pc := 91) dX11_clans_91 (by decide) <|
pw_iret (a := v2) (v := v2) hH rfl (pc := 95) dX11_clans_95)) (fun h26 => pw_iload (pc := 32) dX11_clans_32 1 rfl <|
pw_iload (pc := 34) dX11_clans_34 0 rfl <|
pw_callS_rz (n := 2) (rest := []) (tX11_has K.2.1 G v4 v5 m0) miX11_has mlX11_93 (pc := 36) dX11_clans_36 rfl rfl (by decide) (Nat.le_of_ble_eq_true rfl) fun y10 =>
pw_jn (fun (k15 : Int32 → Int32 → Int32 → Option Int32) => ∀ (v11 : Int32) (v12 : Int32) (v13 : Int32), PW K G RX11 cX11_clans 7 (some .int) 4 (pw_MQ K G (pw_Ri m0)) (k15 v11 v12 v13) 80 [(5, .int v5), (4, .int v13), (3, .int v12), (2, .int v11), (0, .ref (pw_ad G 71)), (1, .int a1)] [] m0) (fun v11 v12 v13 => pw_ltA fun x14 hxx14 => pw_iinc (v := x14) [(5, .int x14), (4, .int v13), (3, .int v12), (2, .int v11), (0, .ref (pw_ad G 71)), (1, .int a1)] (pc := 80) dX11_clans_80 0 rfl (by rw [hxx14]; rfl) (by decide) rfl <|
pw_goto (tgt := 21) (pc := 83) dX11_clans_83 (by decide) <|
hn7 v11 v12 v13 x14) (fun k15 hk16 => pw_ifz_eq (tgt := 45) (pc := 39) dX11_clans_39 (by decide) (fun h23 => pw_goto (tgt := 80) (pc := 42) dX11_clans_42 (by decide) <|
hk16 v2 v3 v4) (fun h24 => pw_aload_n (pc := 45) dX11_clans_45 4 rfl <|
pw_iload (pc := 46) dX11_clans_46 0 rfl <|
pw_aload_n (pc := 48) dX11_clans_48 4 rfl <|
pw_getR (o := 71) (k := 0) (t := 72) (pw_sh_71) cfX11 rfl (by decide) flX11_9 (pc := 49) dX11_clans_49 <|
pw_callS_ri (n := 1) (rest := [.int v5, .ref (pw_ad G 71)]) (tX11_wholeSet K.2.1 G pw_r72 m0) miX11_wholeSet mlX11_212 (pc := 52) dX11_clans_52 rfl rfl (by decide) (Nat.le_of_ble_eq_true rfl) fun y17 =>
pw_callV_ri (n := 2) (rest := []) (tX11_clanOf K.2.1 G v5 y17 m0) (pw_sh_71) cfX11 rfl miX11_clanOf mlX11_218 (pc := 55) dX11_clans_55 rfl rfl (by decide) (Nat.le_of_ble_eq_true rfl) fun y18 =>
pw_istore [(6, .int y18), (5, .int v5), (4, .int v4), (3, .int v3), (2, .int v2), (0, .ref (pw_ad G 71)), (1, .int a1)] (pc := 58) dX11_clans_58 (by decide) rfl <|
pw_iload (pc := 60) dX11_clans_60 2 rfl <|
pw_iload (pc := 62) dX11_clans_62 0 rfl <|
pw_ior (pc := 64) dX11_clans_64 <|
pw_ltI fun x19 => pw_istore [(4, .int x19), (6, .int y18), (5, .int v5), (3, .int v3), (2, .int v2), (0, .ref (pw_ad G 71)), (1, .int a1)] (pc := 65) dX11_clans_65 (by decide) rfl <|
pw_ltA fun x20 hxx20 => pw_iinc (v := x20) [(2, .int x20), (4, .int x19), (6, .int y18), (5, .int v5), (3, .int v3), (0, .ref (pw_ad G 71)), (1, .int a1)] (pc := 67) dX11_clans_67 4 rfl (by rw [hxx20]; rfl) (by decide) rfl <|
pw_iload_n (pc := 70) dX11_clans_70 4 rfl <|
pw_iload (pc := 71) dX11_clans_71 2 rfl <|
pw_callS_ri (n := 1) (rest := [.int v3]) (tX11_bits K.2.1 G y18 m0) miX11_bits mlX11_180 (pc := 73) dX11_clans_73 rfl rfl (by decide) (Nat.le_of_ble_eq_true rfl) fun y21 =>
pw_callS_ri (n := 2) (rest := []) (tX11_most K.2.1 G v3 y21 m0) miX11_most mlX11_66 (pc := 76) dX11_clans_76 rfl rfl (by decide) (Nat.le_of_ble_eq_true rfl) fun y22 =>
pw_istore_n [(3, .int y22), (2, .int x20), (4, .int x19), (6, .int y18), (5, .int v5), (0, .ref (pw_ad G 71)), (1, .int a1)] (pc := 79) dX11_clans_79 (by decide) rfl <|
pw_sub [4, 2, 0, 1, 5, 6] rfl <| hk16 x20 y22 x19)))) FU (0 : Int32) (0 : Int32) (0 : Int32) (0 : Int32)) (fun h29 => pw_iconst (v := -1) (pc := 9) dX11_clans_9 (by decide) <|
pw_iret (a := (-1 : Int32)) (v := (-1 : Int32)) hH rfl (pc := 10) dX11_clans_10))
set_option maxHeartbeats 4000000 in
theorem tX11_cousins (l : Launch) (G : pw_G) (a1 : Int32) (a2 : Int32) (m0 : pw_Mem) : PMet l G yX11_cousins cX11_cousins 7 (some .int) 3 [.ref (pw_ad G 71), .int a1, .int a2] m0 (pw_Ri m0) (fX11_cousins a1 a2 m0) :=
  pw_met (own := RX11) (l0 := [(0, .ref (pw_ad G 71)), (1, .int a1), (2, .int a2)]) rfl (by decide) rfl (Nat.le_of_ble_eq_true rfl) fun K hK hH => by
  delta fX11_cousins
  exact (pw_aload_n (pc := 0) dX11_cousins_0 0 rfl <|
pw_iload_n (pc := 1) dX11_cousins_1 1 rfl <|
pw_iload_n (pc := 2) dX11_cousins_2 2 rfl <|
pw_callV_rz (n := 2) (rest := []) (tX11_areTwo K.2.1 G a1 a2 m0) (pw_sh_71) cfX11 rfl miX11_areTwo mlX11_151 (pc := 3) dX11_cousins_3 rfl rfl (by decide) (Nat.le_of_ble_eq_true rfl) fun y1 =>
pw_ifz_ne (tgt := 11) (pc := 6) dX11_cousins_6 (by decide) (fun h41 => pw_iconst (v := 1) (pc := 11) dX11_cousins_11 (by decide) <|
pw_iload_n (pc := 12) dX11_cousins_12 1 rfl <|
pw_ishl (pc := 13) dX11_cousins_13 <|
pw_ltI fun x2 => pw_istore_n [(3, .int x2), (0, .ref (pw_ad G 71)), (1, .int a1), (2, .int a2)] (pc := 14) dX11_cousins_14 (by decide) rfl <|
pw_iconst (v := 1) (pc := 15) dX11_cousins_15 (by decide) <|
pw_istore [(4, .int (1 : Int32)), (3, .int x2), (0, .ref (pw_ad G 71)), (1, .int a1), (2, .int a2)] (pc := 16) dX11_cousins_16 (by decide) rfl <|
pw_sub [0, 1, 2, 4] rfl <| pw_lp (fun (kk40 : Int32 → Int32 → Option Int32) => ∀ (v3 : Int32) (v4 : Int32), PW K G RX11 cX11_cousins 7 (some .int) 3 (pw_MQ K G (pw_Ri m0)) (kk40 v3 v4) 18 [(4, .int v4), (3, .int v3), (0, .ref (pw_ad G 71)), (2, .int a2)] [] m0) (fun _ _ => pw_none) (fun nx5 hn6 v3 v4 => pw_iload (pc := 18) dX11_cousins_18 0 rfl <|
pw_bipush (v := 7) (pc := 20) dX11_cousins_20 (by decide) <|
pw_icmp_ge  (tgt := 148) (pc := 22) dX11_cousins_22 (by decide) (fun h38 => pw_bipush (v := -4) (pc := 148) dX11_cousins_148 (by decide) <|
pw_iret (a := (-4 : Int32)) (v := (-4 : Int32)) hH rfl (pc := 150) dX11_cousins_150) (fun h39 => pw_iload_n (pc := 25) dX11_cousins_25 1 rfl <|
pw_istore [(5, .int v3), (4, .int v4), (3, .int v3), (0, .ref (pw_ad G 71)), (2, .int a2)] (pc := 26) dX11_cousins_26 (by decide) rfl <|
pw_iconst (v := 0) (pc := 28) dX11_cousins_28 (by decide) <|
pw_istore [(6, .int (0 : Int32)), (5, .int v3), (4, .int v4), (3, .int v3), (0, .ref (pw_ad G 71)), (2, .int a2)] (pc := 29) dX11_cousins_29 (by decide) rfl <|
pw_lp (fun (kk37 : Int32 → Int32 → Option Int32) => ∀ (v7 : Int32) (v8 : Int32), PW K G RX11 cX11_cousins 7 (some .int) 3 (pw_MQ K G (pw_Ri m0)) (kk37 v7 v8) 31 [(6, .int v8), (5, .int v7), (4, .int v4), (3, .int v3), (0, .ref (pw_ad G 71)), (2, .int a2)] [] m0) (fun _ _ => pw_none) (fun nx9 hn10 v7 v8 => pw_iload (pc := 31) dX11_cousins_31 0 rfl <|
pw_aload_n (pc := 33) dX11_cousins_33 4 rfl <|
pw_getR (o := 71) (k := 0) (t := 72) (pw_sh_71) cfX11 rfl (by decide) flX11_9 (pc := 34) dX11_cousins_34 <|
pw_iconst (v := 1) (pc := 37) dX11_cousins_37 (by decide) <|
pw_iald (pw_shRow pw_r72) (pc := 38) dX11_cousins_38 <|
pw_icmp_ge  (tgt := 128) (pc := 39) dX11_cousins_39 (by decide) (fun h35 => pw_iload (pc := 128) dX11_cousins_128 1 rfl <|
pw_istore_n [(3, .int v7), (6, .int v8), (5, .int v7), (4, .int v4), (0, .ref (pw_ad G 71)), (2, .int a2)] (pc := 130) dX11_cousins_130 (by decide) rfl <|
pw_iload_n (pc := 131) dX11_cousins_131 0 rfl <|
pw_iload_n (pc := 132) dX11_cousins_132 5 rfl <|
pw_callS_rz (n := 2) (rest := []) (tX11_has K.2.1 G v7 a2 m0) miX11_has mlX11_93 (pc := 133) dX11_cousins_133 rfl rfl (by decide) (Nat.le_of_ble_eq_true rfl) fun y11 =>
pw_ifz_eq (tgt := 142) (pc := 136) dX11_cousins_136 (by decide) (fun h13 => pw_iload (pc := 139) dX11_cousins_139 3 rfl <|
pw_iret (a := v4) (v := v4) hH rfl (pc := 141) dX11_cousins_141) (fun h14 => pw_ltA fun x12 hxx12 => pw_iinc (v := x12) [(4, .int x12), (3, .int v7), (6, .int v8), (5, .int v7), (0, .ref (pw_ad G 71)), (2, .int a2)] (pc := 142) dX11_cousins_142 3 rfl (by rw [hxx12]; rfl) (by decide) rfl <|
pw_goto (tgt := 18) (pc := 145) dX11_cousins_145 (by decide) <|
pw_sub [0, 1, 4, 5] rfl <| hn6 v7 x12)) (fun h36 => pw_aload_n (pc := 42) dX11_cousins_42 4 rfl <|
pw_getR (o := 71) (k := 0) (t := 72) (pw_sh_71) cfX11 rfl (by decide) flX11_9 (pc := 43) dX11_cousins_43 <|
pw_iload (pc := 46) dX11_cousins_46 0 rfl <|
pw_callS_rz (n := 2) (rest := []) (tX11_isWhole K.2.1 G pw_r72 v8 m0) miX11_isWhole mlX11_69 (pc := 48) dX11_cousins_48 rfl rfl (by decide) (Nat.le_of_ble_eq_true rfl) fun y15 =>
pw_jn (fun (k18 : Int32 → Option Int32) => ∀ (v16 : Int32), PW K G RX11 cX11_cousins 7 (some .int) 3 (pw_MQ K G (pw_Ri m0)) (k18 v16) 122 [(6, .int v8), (5, .int v16), (4, .int v4), (3, .int v3), (0, .ref (pw_ad G 71)), (2, .int a2)] [] m0) (fun v16 => pw_ltA fun x17 hxx17 => pw_iinc (v := x17) [(6, .int x17), (5, .int v16), (4, .int v4), (3, .int v3), (0, .ref (pw_ad G 71)), (2, .int a2)] (pc := 122) dX11_cousins_122 0 rfl (by rw [hxx17]; rfl) (by decide) rfl <|
pw_goto (tgt := 31) (pc := 125) dX11_cousins_125 (by decide) <|
hn10 v16 x17) (fun k18 hk19 => pw_ifz_eq (tgt := 122) (pc := 51) dX11_cousins_51 (by decide) (fun h33 => pw_iload_n (pc := 54) dX11_cousins_54 3 rfl <|
pw_aload_n (pc := 55) dX11_cousins_55 4 rfl <|
pw_getR (o := 71) (k := 0) (t := 72) (pw_sh_71) cfX11 rfl (by decide) flX11_9 (pc := 56) dX11_cousins_56 <|
pw_iload (pc := 59) dX11_cousins_59 0 rfl <|
pw_iconst (v := 2) (pc := 61) dX11_cousins_61 (by decide) <|
pw_callS_ri (n := 2) (rest := [.ref (pw_ad G 72), .int v3]) (tX11_of K.2.1 G v8 (2 : Int32) m0) miX11_of mlX11_56 (pc := 62) dX11_cousins_62 rfl rfl (by decide) (Nat.le_of_ble_eq_true rfl) fun y20 =>
pw_iald (pw_shRow pw_r72) (pc := 65) dX11_cousins_65 <|
pw_callS_rz (n := 2) (rest := []) (tX11_has K.2.1 G v3 (m0 72 (y20).toNatClampNeg) m0) miX11_has mlX11_93 (pc := 66) dX11_cousins_66 rfl rfl (by decide) (Nat.le_of_ble_eq_true rfl) fun y21 =>
pw_jn (fun (k25 : Option Int32) => PW K G RX11 cX11_cousins 7 (some .int) 3 (pw_MQ K G (pw_Ri m0)) k25 90 [(6, .int v8), (5, .int v7), (4, .int v4), (3, .int v3), (0, .ref (pw_ad G 71)), (2, .int a2)] [] m0) (pw_iload (pc := 90) dX11_cousins_90 1 rfl <|
pw_iconst (v := 1) (pc := 92) dX11_cousins_92 (by decide) <|
pw_aload_n (pc := 93) dX11_cousins_93 4 rfl <|
pw_getR (o := 71) (k := 0) (t := 72) (pw_sh_71) cfX11 rfl (by decide) flX11_9 (pc := 94) dX11_cousins_94 <|
pw_iload (pc := 97) dX11_cousins_97 0 rfl <|
pw_iconst (v := 2) (pc := 99) dX11_cousins_99 (by decide) <|
pw_callS_ri (n := 2) (rest := [.ref (pw_ad G 72), .int (1 : Int32), .int v7]) (tX11_of K.2.1 G v8 (2 : Int32) m0) miX11_of mlX11_56 (pc := 100) dX11_cousins_100 rfl rfl (by decide) (Nat.le_of_ble_eq_true rfl) fun y22 =>
pw_iald (pw_shRow pw_r72) (pc := 103) dX11_cousins_103 <|
pw_ishl (pc := 104) dX11_cousins_104 <|
pw_iconst (v := 1) (pc := 105) dX11_cousins_105 (by decide) <|
pw_aload_n (pc := 106) dX11_cousins_106 4 rfl <|
pw_getR (o := 71) (k := 0) (t := 72) (pw_sh_71) cfX11 rfl (by decide) flX11_9 (pc := 107) dX11_cousins_107 <|
pw_iload (pc := 110) dX11_cousins_110 0 rfl <|
pw_iconst (v := 3) (pc := 112) dX11_cousins_112 (by decide) <|
pw_callS_ri (n := 2) (rest := [.ref (pw_ad G 72), .int (1 : Int32), .int ((1 : Int32) <<< ((m0 72 (y22).toNatClampNeg) &&& 31)), .int v7]) (tX11_of K.2.1 G v8 (3 : Int32) m0) miX11_of mlX11_56 (pc := 113) dX11_cousins_113 rfl rfl (by decide) (Nat.le_of_ble_eq_true rfl) fun y23 =>
pw_iald (pw_shRow pw_r72) (pc := 116) dX11_cousins_116 <|
pw_ishl (pc := 117) dX11_cousins_117 <|
pw_ior (pc := 118) dX11_cousins_118 <|
pw_ior (pc := 119) dX11_cousins_119 <|
pw_ltI fun x24 => pw_istore [(5, .int x24), (6, .int v8), (4, .int v4), (3, .int v3), (0, .ref (pw_ad G 71)), (2, .int a2)] (pc := 120) dX11_cousins_120 (by decide) rfl <|
pw_sub [1, 0, 2, 3, 4, 5] rfl <| hk19 x24) (fun k25 hk26 => pw_ifz_ne (tgt := 90) (pc := 69) dX11_cousins_69 (by decide) (fun h31 => hk26) (fun h32 => pw_iload_n (pc := 72) dX11_cousins_72 3 rfl <|
pw_aload_n (pc := 73) dX11_cousins_73 4 rfl <|
pw_getR (o := 71) (k := 0) (t := 72) (pw_sh_71) cfX11 rfl (by decide) flX11_9 (pc := 74) dX11_cousins_74 <|
pw_iload (pc := 77) dX11_cousins_77 0 rfl <|
pw_iconst (v := 3) (pc := 79) dX11_cousins_79 (by decide) <|
pw_callS_ri (n := 2) (rest := [.ref (pw_ad G 72), .int v3]) (tX11_of K.2.1 G v8 (3 : Int32) m0) miX11_of mlX11_56 (pc := 80) dX11_cousins_80 rfl rfl (by decide) (Nat.le_of_ble_eq_true rfl) fun y27 =>
pw_iald (pw_shRow pw_r72) (pc := 83) dX11_cousins_83 <|
pw_callS_rz (n := 2) (rest := []) (tX11_has K.2.1 G v3 (m0 72 (y27).toNatClampNeg) m0) miX11_has mlX11_93 (pc := 84) dX11_cousins_84 rfl rfl (by decide) (Nat.le_of_ble_eq_true rfl) fun y28 =>
pw_ifz_eq (tgt := 122) (pc := 87) dX11_cousins_87 (by decide) (fun h29 => hk26) (fun h30 => hk19 v7)))) (fun h34 => hk19 v7)))) FU v3 (0 : Int32))) FU x2 (1 : Int32)) (fun h42 => pw_iconst (v := -1) (pc := 9) dX11_cousins_9 (by decide) <|
pw_iret (a := (-1 : Int32)) (v := (-1 : Int32)) hH rfl (pc := 10) dX11_cousins_10))
set_option maxHeartbeats 4000000 in
theorem tX11_bridges (l : Launch) (G : pw_G)  (m0 : pw_Mem) : PMet l G yX11_bridges cX11_bridges 4 (some .int) 4 [.ref (pw_ad G 71)] m0 (pw_Ri m0) (fX11_bridges m0) :=
  pw_met (own := RX11) (l0 := [(0, .ref (pw_ad G 71))]) rfl (by decide) rfl (Nat.le_of_ble_eq_true rfl) fun K hK hH => by
  delta fX11_bridges
  exact (pw_iconst (v := 0) (pc := 0) dX11_bridges_0 (by decide) <|
pw_istore_n [(1, .int (0 : Int32)), (0, .ref (pw_ad G 71))] (pc := 1) dX11_bridges_1 (by decide) rfl <|
pw_aload_n (pc := 2) dX11_bridges_2 1 rfl <|
pw_getR (o := 71) (k := 0) (t := 72) (pw_sh_71) cfX11 rfl (by decide) flX11_9 (pc := 3) dX11_bridges_3 <|
pw_callS_ri (n := 1) (rest := []) (tX11_wholeSet K.2.1 G pw_r72 m0) miX11_wholeSet mlX11_212 (pc := 6) dX11_bridges_6 rfl rfl (by decide) (Nat.le_of_ble_eq_true rfl) fun y1 =>
pw_istore_n [(2, .int y1), (1, .int (0 : Int32)), (0, .ref (pw_ad G 71))] (pc := 9) dX11_bridges_9 (by decide) rfl <|
pw_iconst (v := 0) (pc := 10) dX11_bridges_10 (by decide) <|
pw_istore_n [(3, .int (0 : Int32)), (2, .int y1), (1, .int (0 : Int32)), (0, .ref (pw_ad G 71))] (pc := 11) dX11_bridges_11 (by decide) rfl <|
pw_lp (fun (kk24 : Int32 → Int32 → Option Int32) => ∀ (v2 : Int32) (v3 : Int32), PW K G RX11 cX11_bridges 4 (some .int) 4 (pw_MQ K G (pw_Ri m0)) (kk24 v2 v3) 12 [(3, .int v3), (2, .int y1), (1, .int v2), (0, .ref (pw_ad G 71))] [] m0) (fun _ _ => pw_none) (fun nx4 hn5 v2 v3 => pw_iload_n (pc := 12) dX11_bridges_12 0 rfl <|
pw_aload_n (pc := 13) dX11_bridges_13 3 rfl <|
pw_getR (o := 71) (k := 0) (t := 72) (pw_sh_71) cfX11 rfl (by decide) flX11_9 (pc := 14) dX11_bridges_14 <|
pw_iconst (v := 1) (pc := 17) dX11_bridges_17 (by decide) <|
pw_iald (pw_shRow pw_r72) (pc := 18) dX11_bridges_18 <|
pw_icmp_ge  (tgt := 83) (pc := 19) dX11_bridges_19 (by decide) (fun h22 => pw_iload_n (pc := 83) dX11_bridges_83 2 rfl <|
pw_iret (a := v2) (v := v2) hH rfl (pc := 84) dX11_bridges_84) (fun h23 => pw_iload_n (pc := 22) dX11_bridges_22 2 rfl <|
pw_iload_n (pc := 23) dX11_bridges_23 1 rfl <|
pw_iload_n (pc := 24) dX11_bridges_24 0 rfl <|
pw_callS_rz (n := 2) (rest := [.int v2]) (tX11_has K.2.1 G y1 v3 m0) miX11_has mlX11_93 (pc := 25) dX11_bridges_25 rfl rfl (by decide) (Nat.le_of_ble_eq_true rfl) fun y6 =>
pw_jn (fun (k10 : Int32 → Option Int32) => ∀ (w7 : Int32), PW K G RX11 cX11_bridges 4 (some .int) 4 (pw_MQ K G (pw_Ri m0)) (k10 w7) 75 [(3, .int v3), (2, .int y1), (0, .ref (pw_ad G 71))] [.int w7, .int v2] m0) (fun w7 => pw_ior (pc := 75) dX11_bridges_75 <|
pw_ltI fun x8 => pw_istore_n [(1, .int x8), (3, .int v3), (2, .int y1), (0, .ref (pw_ad G 71))] (pc := 76) dX11_bridges_76 (by decide) rfl <|
pw_ltA fun x9 hxx9 => pw_iinc (v := x9) [(3, .int x9), (1, .int x8), (2, .int y1), (0, .ref (pw_ad G 71))] (pc := 77) dX11_bridges_77 1 rfl (by rw [hxx9]; rfl) (by decide) rfl <|
pw_goto (tgt := 12) (pc := 80) dX11_bridges_80 (by decide) <|
pw_sub [0, 2, 1, 3] rfl <| hn5 x8 x9) (fun k10 hk11 => pw_jn (fun (k12 : Option Int32) => PW K G RX11 cX11_bridges 4 (some .int) 4 (pw_MQ K G (pw_Ri m0)) k12 74 [(3, .int v3), (2, .int y1), (0, .ref (pw_ad G 71))] [.int v2] m0) (pw_iconst (v := 0) (pc := 74) dX11_bridges_74 (by decide) <|
hk11 (0 : Int32)) (fun k12 hk13 => pw_ifz_eq (tgt := 74) (pc := 28) dX11_bridges_28 (by decide) (fun h20 => pw_aload_n (pc := 31) dX11_bridges_31 3 rfl <|
pw_aload_n (pc := 32) dX11_bridges_32 3 rfl <|
pw_getR (o := 71) (k := 0) (t := 72) (pw_sh_71) cfX11 rfl (by decide) flX11_9 (pc := 33) dX11_bridges_33 <|
pw_iload_n (pc := 36) dX11_bridges_36 0 rfl <|
pw_iconst (v := 2) (pc := 37) dX11_bridges_37 (by decide) <|
pw_callS_ri (n := 2) (rest := [.ref (pw_ad G 72), .ref (pw_ad G 71), .int v2]) (tX11_of K.2.1 G v3 (2 : Int32) m0) miX11_of mlX11_56 (pc := 38) dX11_bridges_38 rfl rfl (by decide) (Nat.le_of_ble_eq_true rfl) fun y14 =>
pw_iald (pw_shRow pw_r72) (pc := 41) dX11_bridges_41 <|
pw_iload_n (pc := 42) dX11_bridges_42 1 rfl <|
pw_iconst (v := 1) (pc := 43) dX11_bridges_43 (by decide) <|
pw_iload_n (pc := 44) dX11_bridges_44 0 rfl <|
pw_ishl (pc := 45) dX11_bridges_45 <|
pw_iconst (v := -1) (pc := 46) dX11_bridges_46 (by decide) <|
pw_ixor (pc := 47) dX11_bridges_47 <|
pw_iand (pc := 48) dX11_bridges_48 <|
pw_callV_ri (n := 2) (rest := [.int v2]) (tX11_clanOf K.2.1 G (m0 72 (y14).toNatClampNeg) (y1 &&& (((1 : Int32) <<< (v3 &&& 31)) ^^^ (-1 : Int32))) m0) (pw_sh_71) cfX11 rfl miX11_clanOf mlX11_218 (pc := 49) dX11_bridges_49 rfl rfl (by decide) (Nat.le_of_ble_eq_true rfl) fun y15 =>
pw_aload_n (pc := 52) dX11_bridges_52 3 rfl <|
pw_getR (o := 71) (k := 0) (t := 72) (pw_sh_71) cfX11 rfl (by decide) flX11_9 (pc := 53) dX11_bridges_53 <|
pw_iload_n (pc := 56) dX11_bridges_56 0 rfl <|
pw_iconst (v := 3) (pc := 57) dX11_bridges_57 (by decide) <|
pw_callS_ri (n := 2) (rest := [.ref (pw_ad G 72), .int y15, .int v2]) (tX11_of K.2.1 G v3 (3 : Int32) m0) miX11_of mlX11_56 (pc := 58) dX11_bridges_58 rfl rfl (by decide) (Nat.le_of_ble_eq_true rfl) fun y16 =>
pw_iald (pw_shRow pw_r72) (pc := 61) dX11_bridges_61 <|
pw_callS_rz (n := 2) (rest := [.int v2]) (tX11_has K.2.1 G y15 (m0 72 (y16).toNatClampNeg) m0) miX11_has mlX11_93 (pc := 62) dX11_bridges_62 rfl rfl (by decide) (Nat.le_of_ble_eq_true rfl) fun y17 =>
pw_ifz_ne (tgt := 74) (pc := 65) dX11_bridges_65 (by decide) (fun h18 => pw_sub [0, 1, 3] rfl <| hk13) (fun h19 => pw_iconst (v := 1) (pc := 68) dX11_bridges_68 (by decide) <|
pw_iload_n (pc := 69) dX11_bridges_69 0 rfl <|
pw_ishl (pc := 70) dX11_bridges_70 <|
pw_goto (tgt := 75) (pc := 71) dX11_bridges_71 (by decide) <|
pw_sub [0, 1, 3] rfl <| hk11 ((1 : Int32) <<< (v3 &&& 31)))) (fun h21 => pw_sub [0, 1, 3] rfl <| hk13))))) FU (0 : Int32) (0 : Int32))
set_option maxHeartbeats 4000000 in
theorem tX11_sumWith (l : Launch) (G : pw_G) (a1 : Int32) (m0 : pw_Mem) : PMet l G yX11_sumWith cX11_sumWith 4 (some .int) 2 [.ref (pw_ad G 71), .int a1] m0 pw_Wi (fX11_sumWith a1 m0) :=
  pw_met (own := RX11) (l0 := [(0, .ref (pw_ad G 71)), (1, .int a1)]) rfl (by decide) rfl (Nat.le_of_ble_eq_true rfl) fun K hK hH => by
  delta fX11_sumWith
  exact (pw_aload_n (pc := 0) dX11_sumWith_0 0 rfl <|
pw_getR (o := 71) (k := 0) (t := 72) (pw_sh_71) cfX11 rfl (by decide) flX11_9 (pc := 1) dX11_sumWith_1 <|
pw_aload_n (pc := 4) dX11_sumWith_4 0 rfl <|
pw_getR (o := 71) (k := 1) (t := 73) (pw_sh_71) cfX11 rfl (by decide) flX11_13 (pc := 5) dX11_sumWith_5 <|
pw_callS_wv (n := 2) (rest := []) (tX11_copies K.2.1 G pw_r72 pw_r73 m0) miX11_copies mlX11_112 (pc := 8) dX11_sumWith_8 rfl rfl (by decide) (Nat.le_of_ble_eq_true rfl) fun m1 =>
pw_iconst (v := 0) (pc := 11) dX11_sumWith_11 (by decide) <|
pw_istore_n [(2, .int (0 : Int32)), (0, .ref (pw_ad G 71)), (1, .int a1)] (pc := 12) dX11_sumWith_12 (by decide) rfl <|
pw_iconst (v := 0) (pc := 13) dX11_sumWith_13 (by decide) <|
pw_istore_n [(3, .int (0 : Int32)), (2, .int (0 : Int32)), (0, .ref (pw_ad G 71)), (1, .int a1)] (pc := 14) dX11_sumWith_14 (by decide) rfl <|
pw_lp (fun (kk28 : Int32 → Int32 → pw_Mem → Option (Int32 × pw_Mem)) => ∀ (v2 : Int32) (v3 : Int32) (m4 : pw_Mem), PW K G RX11 cX11_sumWith 4 (some .int) 2 (pw_MQ K G pw_Wi) (kk28 v2 v3 m4) 15 [(3, .int v3), (2, .int v2), (0, .ref (pw_ad G 71)), (1, .int a1)] [] m4) (fun _ _ _ => pw_none) (fun nx5 hn6 v2 v3 m4 => pw_iload_n (pc := 15) dX11_sumWith_15 0 rfl <|
pw_aload_n (pc := 16) dX11_sumWith_16 2 rfl <|
pw_getR (o := 71) (k := 1) (t := 73) (pw_sh_71) cfX11 rfl (by decide) flX11_13 (pc := 17) dX11_sumWith_17 <|
pw_iconst (v := 1) (pc := 20) dX11_sumWith_20 (by decide) <|
pw_iald (pw_shRow pw_r73) (pc := 21) dX11_sumWith_21 <|
pw_icmp_ge  (tgt := 98) (pc := 22) dX11_sumWith_22 (by decide) (fun h26 => pw_iload_n (pc := 98) dX11_sumWith_98 1 rfl <|
pw_iret (a := v2) (v := (v2, m4)) hH rfl (pc := 99) dX11_sumWith_99) (fun h27 => pw_aload_n (pc := 25) dX11_sumWith_25 2 rfl <|
pw_getR (o := 71) (k := 1) (t := 73) (pw_sh_71) cfX11 rfl (by decide) flX11_13 (pc := 26) dX11_sumWith_26 <|
pw_iload_n (pc := 29) dX11_sumWith_29 0 rfl <|
pw_iconst (v := 4) (pc := 30) dX11_sumWith_30 (by decide) <|
pw_callS_ri (n := 2) (rest := [.ref (pw_ad G 73)]) (tX11_of K.2.1 G v3 (4 : Int32) m4) miX11_of mlX11_56 (pc := 31) dX11_sumWith_31 rfl rfl (by decide) (Nat.le_of_ble_eq_true rfl) fun y7 =>
pw_iload_n (pc := 34) dX11_sumWith_34 3 rfl <|
pw_iload_n (pc := 35) dX11_sumWith_35 0 rfl <|
pw_callS_rz (n := 2) (rest := [.int y7, .ref (pw_ad G 73)]) (tX11_has K.2.1 G a1 v3 m4) miX11_has mlX11_93 (pc := 36) dX11_sumWith_36 rfl rfl (by decide) (Nat.le_of_ble_eq_true rfl) fun y8 =>
pw_jn (fun (k21 : Int32 → Option (Int32 × pw_Mem)) => ∀ (w9 : Int32), PW K G RX11 cX11_sumWith 4 (some .int) 2 (pw_MQ K G pw_Wi) (k21 w9) 56 [(3, .int v3), (2, .int v2), (0, .ref (pw_ad G 71)), (1, .int a1)] [.int w9, .int y7, .ref (pw_ad G 73)] m4) (fun w9 => pw_iast (pw_shRow pw_r73) (pc := 56) dX11_sumWith_56 <| pw_ltM fun m10 =>
pw_iload_n (pc := 57) dX11_sumWith_57 1 rfl <|
pw_aload_n (pc := 58) dX11_sumWith_58 2 rfl <|
pw_getR (o := 71) (k := 1) (t := 73) (pw_sh_71) cfX11 rfl (by decide) flX11_13 (pc := 59) dX11_sumWith_59 <|
pw_iload_n (pc := 62) dX11_sumWith_62 0 rfl <|
pw_callS_rz (n := 2) (rest := [.int v2]) (tX11_isWhole K.2.1 G pw_r73 v3 m10) miX11_isWhole mlX11_69 (pc := 63) dX11_sumWith_63 rfl rfl (by decide) (Nat.le_of_ble_eq_true rfl) fun y11 =>
pw_jn (fun (k15 : Int32 → Option (Int32 × pw_Mem)) => ∀ (w12 : Int32), PW K G RX11 cX11_sumWith 4 (some .int) 2 (pw_MQ K G pw_Wi) (k15 w12) 90 [(3, .int v3), (0, .ref (pw_ad G 71)), (1, .int a1)] [.int w12, .int v2] m10) (fun w12 => pw_iadd (pc := 90) dX11_sumWith_90 <|
pw_ltI fun x13 => pw_istore_n [(2, .int x13), (3, .int v3), (0, .ref (pw_ad G 71)), (1, .int a1)] (pc := 91) dX11_sumWith_91 (by decide) rfl <|
pw_ltA fun x14 hxx14 => pw_iinc (v := x14) [(3, .int x14), (2, .int x13), (0, .ref (pw_ad G 71)), (1, .int a1)] (pc := 92) dX11_sumWith_92 1 rfl (by rw [hxx14]; rfl) (by decide) rfl <|
pw_goto (tgt := 15) (pc := 95) dX11_sumWith_95 (by decide) <|
hn6 x13 x14 m10) (fun k15 hk16 => pw_ifz_eq (tgt := 89) (pc := 66) dX11_sumWith_66 (by decide) (fun h19 => pw_aload_n (pc := 69) dX11_sumWith_69 2 rfl <|
pw_getR (o := 71) (k := 1) (t := 73) (pw_sh_71) cfX11 rfl (by decide) flX11_13 (pc := 70) dX11_sumWith_70 <|
pw_iload_n (pc := 73) dX11_sumWith_73 0 rfl <|
pw_callS_ri (n := 2) (rest := [.int v2]) (tX11_holdsNow K.2.1 G pw_r73 v3 m10) miX11_holdsNow mlX11_84 (pc := 74) dX11_sumWith_74 rfl rfl (by decide) (Nat.le_of_ble_eq_true rfl) fun y17 =>
pw_aload_n (pc := 77) dX11_sumWith_77 2 rfl <|
pw_getR (o := 71) (k := 1) (t := 73) (pw_sh_71) cfX11 rfl (by decide) flX11_13 (pc := 78) dX11_sumWith_78 <|
pw_iload_n (pc := 81) dX11_sumWith_81 0 rfl <|
pw_callS_ri (n := 2) (rest := [.int y17, .int v2]) (tX11_stretch K.2.1 G pw_r73 v3 m10) miX11_stretch mlX11_73 (pc := 82) dX11_sumWith_82 rfl rfl (by decide) (Nat.le_of_ble_eq_true rfl) fun y18 =>
pw_isub (pc := 85) dX11_sumWith_85 <|
pw_goto (tgt := 90) (pc := 86) dX11_sumWith_86 (by decide) <|
pw_sub [0, 2, 3] rfl <| hk16 (y17 - y18)) (fun h20 => pw_iconst (v := 0) (pc := 89) dX11_sumWith_89 (by decide) <|
pw_sub [0, 2, 3] rfl <| hk16 (0 : Int32)))) (fun k21 hk22 => pw_ifz_eq (tgt := 46) (pc := 39) dX11_sumWith_39 (by decide) (fun h24 => pw_iconst (v := 0) (pc := 42) dX11_sumWith_42 (by decide) <|
pw_goto (tgt := 56) (pc := 43) dX11_sumWith_43 (by decide) <|
hk22 (0 : Int32)) (fun h25 => pw_aload_n (pc := 46) dX11_sumWith_46 2 rfl <|
pw_getR (o := 71) (k := 1) (t := 73) (pw_sh_71) cfX11 rfl (by decide) flX11_13 (pc := 47) dX11_sumWith_47 <|
pw_iload_n (pc := 50) dX11_sumWith_50 0 rfl <|
pw_iconst (v := 4) (pc := 51) dX11_sumWith_51 (by decide) <|
pw_callS_ri (n := 2) (rest := [.ref (pw_ad G 73), .int y7, .ref (pw_ad G 73)]) (tX11_of K.2.1 G v3 (4 : Int32) m4) miX11_of mlX11_56 (pc := 52) dX11_sumWith_52 rfl rfl (by decide) (Nat.le_of_ble_eq_true rfl) fun y23 =>
pw_iald (pw_shRow pw_r73) (pc := 55) dX11_sumWith_55 <|
hk22 (m4 73 (y23).toNatClampNeg))))) FU (0 : Int32) (0 : Int32) m1)
set_option maxHeartbeats 4000000 in
theorem tX11_renew (l : Launch) (G : pw_G) (a1 : Int32) (a2 : Int32) (m0 : pw_Mem) : PMet l G yX11_renew cX11_renew 6 (some .int) 4 [.ref (pw_ad G 71), .int a1, .int a2] m0 pw_Wi (fX11_renew a1 a2 m0) :=
  pw_met (own := RX11) (l0 := [(0, .ref (pw_ad G 71)), (1, .int a1), (2, .int a2)]) rfl (by decide) rfl (Nat.le_of_ble_eq_true rfl) fun K hK hH => by
  delta fX11_renew
  exact (pw_iload_n (pc := 0) dX11_renew_0 1 rfl <|
pw_iconst (v := 0) (pc := 1) dX11_renew_1 (by decide) <|
pw_iconst (v := 4) (pc := 2) dX11_renew_2 (by decide) <|
pw_callS_rz (n := 3) (rest := []) (tX11_isIn K.2.1 G a1 (0 : Int32) (4 : Int32) m0) miX11_isIn mlX11_52 (pc := 3) dX11_renew_3 rfl rfl (by decide) (Nat.le_of_ble_eq_true rfl) fun y1 =>
pw_ifz_eq (tgt := 18) (pc := 6) dX11_renew_6 (by decide) (fun h36 => pw_iload_n (pc := 9) dX11_renew_9 2 rfl <|
pw_iconst (v := 0) (pc := 10) dX11_renew_10 (by decide) <|
pw_iconst (v := 1) (pc := 11) dX11_renew_11 (by decide) <|
pw_callS_rz (n := 3) (rest := []) (tX11_isIn K.2.1 G a2 (0 : Int32) (1 : Int32) m0) miX11_isIn mlX11_52 (pc := 12) dX11_renew_12 rfl rfl (by decide) (Nat.le_of_ble_eq_true rfl) fun y2 =>
pw_ifz_ne (tgt := 20) (pc := 15) dX11_renew_15 (by decide) (fun h34 => pw_iconst (v := 0) (pc := 20) dX11_renew_20 (by decide) <|
pw_istore_n [(3, .int (0 : Int32)), (0, .ref (pw_ad G 71)), (1, .int a1), (2, .int a2)] (pc := 21) dX11_renew_21 (by decide) rfl <|
pw_aload_n (pc := 22) dX11_renew_22 1 rfl <|
pw_iconst (v := 0) (pc := 23) dX11_renew_23 (by decide) <|
pw_callV_wi (n := 1) (rest := []) (tX11_sumWith K.2.1 G (0 : Int32) m0) (pw_sh_71) cfX11 rfl miX11_sumWith mlX11_221 (pc := 24) dX11_renew_24 rfl rfl (by decide) (Nat.le_of_ble_eq_true rfl) fun y3 m4 =>
pw_istore [(4, .int y3), (3, .int (0 : Int32)), (0, .ref (pw_ad G 71)), (1, .int a1), (2, .int a2)] (pc := 27) dX11_renew_27 (by decide) rfl <|
pw_iconst (v := 1) (pc := 29) dX11_renew_29 (by decide) <|
pw_istore [(5, .int (1 : Int32)), (4, .int y3), (3, .int (0 : Int32)), (0, .ref (pw_ad G 71)), (1, .int a1), (2, .int a2)] (pc := 30) dX11_renew_30 (by decide) rfl <|
pw_lp (fun (kk33 : Int32 → Int32 → Int32 → pw_Mem → Option (Int32 × pw_Mem)) => ∀ (v5 : Int32) (v6 : Int32) (v7 : Int32) (m8 : pw_Mem), PW K G RX11 cX11_renew 6 (some .int) 4 (pw_MQ K G pw_Wi) (kk33 v5 v6 v7 m8) 32 [(5, .int v7), (4, .int v6), (3, .int v5), (0, .ref (pw_ad G 71)), (1, .int a1), (2, .int a2)] [] m8) (fun _ _ _ _ => pw_none) (fun nx9 hn10 v5 v6 v7 m8 => pw_iload (pc := 32) dX11_renew_32 0 rfl <|
pw_iconst (v := 1) (pc := 34) dX11_renew_34 (by decide) <|
pw_aload_n (pc := 35) dX11_renew_35 3 rfl <|
pw_getR (o := 71) (k := 0) (t := 72) (pw_sh_71) cfX11 rfl (by decide) flX11_9 (pc := 36) dX11_renew_36 <|
pw_iconst (v := 1) (pc := 39) dX11_renew_39 (by decide) <|
pw_iald (pw_shRow pw_r72) (pc := 40) dX11_renew_40 <|
pw_ishl (pc := 41) dX11_renew_41 <|
pw_icmp_ge  (tgt := 100) (pc := 42) dX11_renew_42 (by decide) (fun h31 => pw_iload_n (pc := 100) dX11_renew_100 5 rfl <|
pw_if_ne (a := a2) (b := 0) (tgt := 108) (pc := 101) dX11_renew_101 (by decide) (fun h11 => pw_iload (pc := 108) dX11_renew_108 1 rfl <|
pw_iret (a := v6) (v := (v6, m8)) hH rfl (pc := 110) dX11_renew_110) (fun h12 => pw_iload_n (pc := 104) dX11_renew_104 2 rfl <|
pw_goto (tgt := 110) (pc := 105) dX11_renew_105 (by decide) <|
pw_iret (a := v5) (v := (v5, m8)) hH rfl (pc := 110) dX11_renew_110)) (fun h32 => pw_iload (pc := 45) dX11_renew_45 0 rfl <|
pw_callS_ri (n := 1) (rest := []) (tX11_bits K.2.1 G v7 m8) miX11_bits mlX11_180 (pc := 47) dX11_renew_47 rfl rfl (by decide) (Nat.le_of_ble_eq_true rfl) fun y13 =>
pw_iload_n (pc := 50) dX11_renew_50 4 rfl <|
pw_jn (fun (k18 : Int32 → Int32 → pw_Mem → Option (Int32 × pw_Mem)) => ∀ (v14 : Int32) (v15 : Int32) (m16 : pw_Mem), PW K G RX11 cX11_renew 6 (some .int) 4 (pw_MQ K G pw_Wi) (k18 v14 v15 m16) 94 [(5, .int v7), (4, .int v15), (3, .int v14), (0, .ref (pw_ad G 71)), (1, .int a1), (2, .int a2)] [] m16) (fun v14 v15 m16 => pw_ltA fun x17 hxx17 => pw_iinc (v := x17) [(5, .int x17), (4, .int v15), (3, .int v14), (0, .ref (pw_ad G 71)), (1, .int a1), (2, .int a2)] (pc := 94) dX11_renew_94 0 rfl (by rw [hxx17]; rfl) (by decide) rfl <|
pw_goto (tgt := 32) (pc := 97) dX11_renew_97 (by decide) <|
hn10 v14 v15 x17 m16) (fun k18 hk19 => pw_icmp_gt  (tgt := 94) (pc := 51) dX11_renew_51 (by decide) (fun h29 => hk19 v5 v6 m8) (fun h30 => pw_iload (pc := 54) dX11_renew_54 0 rfl <|
pw_aload_n (pc := 56) dX11_renew_56 3 rfl <|
pw_getR (o := 71) (k := 0) (t := 72) (pw_sh_71) cfX11 rfl (by decide) flX11_9 (pc := 57) dX11_renew_57 <|
pw_callS_ri (n := 1) (rest := [.int v7]) (tX11_wholeSet K.2.1 G pw_r72 m8) miX11_wholeSet mlX11_212 (pc := 60) dX11_renew_60 rfl rfl (by decide) (Nat.le_of_ble_eq_true rfl) fun y20 =>
pw_iconst (v := -1) (pc := 63) dX11_renew_63 (by decide) <|
pw_ixor (pc := 64) dX11_renew_64 <|
pw_iand (pc := 65) dX11_renew_65 <|
pw_if_ne (a := (v7 &&& (y20 ^^^ (-1 : Int32)))) (b := 0) (tgt := 94) (pc := 66) dX11_renew_66 (by decide) (fun h27 => hk19 v5 v6 m8) (fun h28 => pw_aload_n (pc := 69) dX11_renew_69 3 rfl <|
pw_iload (pc := 70) dX11_renew_70 0 rfl <|
pw_callV_wi (n := 1) (rest := []) (tX11_sumWith K.2.1 G v7 m8) (pw_sh_71) cfX11 rfl miX11_sumWith mlX11_221 (pc := 72) dX11_renew_72 rfl rfl (by decide) (Nat.le_of_ble_eq_true rfl) fun y21 m22 =>
pw_iload (pc := 75) dX11_renew_75 1 rfl <|
pw_icmp_gt  (tgt := 83) (pc := 77) dX11_renew_77 (by decide) (fun h25 => pw_iload (pc := 83) dX11_renew_83 0 rfl <|
pw_istore_n [(3, .int v7), (5, .int v7), (4, .int v6), (0, .ref (pw_ad G 71)), (1, .int a1), (2, .int a2)] (pc := 85) dX11_renew_85 (by decide) rfl <|
pw_aload_n (pc := 86) dX11_renew_86 3 rfl <|
pw_iload (pc := 87) dX11_renew_87 1 rfl <|
pw_callV_wi (n := 1) (rest := []) (tX11_sumWith K.2.1 G v7 m22) (pw_sh_71) cfX11 rfl miX11_sumWith mlX11_221 (pc := 89) dX11_renew_89 rfl rfl (by decide) (Nat.le_of_ble_eq_true rfl) fun y23 m24 =>
pw_istore [(4, .int y23), (3, .int v7), (5, .int v7), (0, .ref (pw_ad G 71)), (1, .int a1), (2, .int a2)] (pc := 92) dX11_renew_92 (by decide) rfl <|
pw_sub [2, 0, 1, 3, 4, 5] rfl <| hk19 v7 y23 m24) (fun h26 => pw_goto (tgt := 94) (pc := 80) dX11_renew_80 (by decide) <|
hk19 v5 v6 m22)))))) FU (0 : Int32) y3 (1 : Int32) m4) (fun h35 => pw_iconst (v := -1) (pc := 18) dX11_renew_18 (by decide) <|
pw_iret (a := (-1 : Int32)) (v := ((-1 : Int32), m0)) hH rfl (pc := 19) dX11_renew_19)) (fun h37 => pw_iconst (v := -1) (pc := 18) dX11_renew_18 (by decide) <|
pw_iret (a := (-1 : Int32)) (v := ((-1 : Int32), m0)) hH rfl (pc := 19) dX11_renew_19))
set_option maxHeartbeats 4000000 in
theorem tX11_frost (l : Launch) (G : pw_G) (a1 : Int32) (m0 : pw_Mem) : PMet l G yX11_frost cX11_frost 4 (some .int) 3 [.ref (pw_ad G 71), .int a1] m0 pw_Wi (fX11_frost a1 m0) :=
  pw_met (own := RX11) (l0 := [(0, .ref (pw_ad G 71)), (1, .int a1)]) rfl (by decide) rfl (Nat.le_of_ble_eq_true rfl) fun K hK hH => by
  delta fX11_frost
  exact (pw_iload_n (pc := 0) dX11_frost_0 1 rfl <|
pw_iconst (v := 0) (pc := 1) dX11_frost_1 (by decide) <|
pw_iconst (v := 1) (pc := 2) dX11_frost_2 (by decide) <|
pw_callS_rz (n := 3) (rest := []) (tX11_isIn K.2.1 G a1 (0 : Int32) (1 : Int32) m0) miX11_isIn mlX11_52 (pc := 3) dX11_frost_3 rfl rfl (by decide) (Nat.le_of_ble_eq_true rfl) fun y1 =>
pw_ifz_ne (tgt := 11) (pc := 6) dX11_frost_6 (by decide) (fun h24 => pw_aload_n (pc := 11) dX11_frost_11 0 rfl <|
pw_getR (o := 71) (k := 0) (t := 72) (pw_sh_71) cfX11 rfl (by decide) flX11_9 (pc := 12) dX11_frost_12 <|
pw_aload_n (pc := 15) dX11_frost_15 0 rfl <|
pw_getR (o := 71) (k := 1) (t := 73) (pw_sh_71) cfX11 rfl (by decide) flX11_13 (pc := 16) dX11_frost_16 <|
pw_callS_wv (n := 2) (rest := []) (tX11_copies K.2.1 G pw_r72 pw_r73 m0) miX11_copies mlX11_112 (pc := 19) dX11_frost_19 rfl rfl (by decide) (Nat.le_of_ble_eq_true rfl) fun m2 =>
pw_iconst (v := 0) (pc := 22) dX11_frost_22 (by decide) <|
pw_istore_n [(2, .int (0 : Int32)), (0, .ref (pw_ad G 71)), (1, .int a1)] (pc := 23) dX11_frost_23 (by decide) rfl <|
pw_lp (fun (kk23 : Int32 → pw_Mem → Option (Int32 × pw_Mem)) => ∀ (v3 : Int32) (m4 : pw_Mem), PW K G RX11 cX11_frost 4 (some .int) 3 (pw_MQ K G pw_Wi) (kk23 v3 m4) 24 [(2, .int v3), (0, .ref (pw_ad G 71)), (1, .int a1)] [] m4) (fun _ _ => pw_none) (fun nx5 hn6 v3 m4 => pw_iload_n (pc := 24) dX11_frost_24 0 rfl <|
pw_bipush (v := 10) (pc := 25) dX11_frost_25 (by decide) <|
pw_icmp_ge  (tgt := 82) (pc := 27) dX11_frost_27 (by decide) (fun h21 => pw_bipush (v := -4) (pc := 82) dX11_frost_82 (by decide) <|
pw_iret (a := (-4 : Int32)) (v := ((-4 : Int32), m4)) hH rfl (pc := 84) dX11_frost_84) (fun h22 => pw_aload_n (pc := 30) dX11_frost_30 1 rfl <|
pw_getR (o := 71) (k := 1) (t := 73) (pw_sh_71) cfX11 rfl (by decide) flX11_13 (pc := 31) dX11_frost_31 <|
pw_iconst (v := 3) (pc := 34) dX11_frost_34 (by decide) <|
pw_iload_n (pc := 35) dX11_frost_35 0 rfl <|
pw_iast (pw_shRow pw_r73) (pc := 36) dX11_frost_36 <| pw_ltM fun m7 =>
pw_iconst (v := 0) (pc := 37) dX11_frost_37 (by decide) <|
pw_istore_n [(3, .int (0 : Int32)), (2, .int v3), (0, .ref (pw_ad G 71)), (1, .int a1)] (pc := 38) dX11_frost_38 (by decide) rfl <|
pw_lp (fun (kk20 : Int32 → Option (Int32 × pw_Mem)) => ∀ (v8 : Int32), PW K G RX11 cX11_frost 4 (some .int) 3 (pw_MQ K G pw_Wi) (kk20 v8) 39 [(3, .int v8), (2, .int v3), (0, .ref (pw_ad G 71)), (1, .int a1)] [] m7) (fun _ => pw_none) (fun nx9 hn10 v8 => pw_iload_n (pc := 39) dX11_frost_39 0 rfl <|
pw_aload_n (pc := 40) dX11_frost_40 2 rfl <|
pw_getR (o := 71) (k := 1) (t := 73) (pw_sh_71) cfX11 rfl (by decide) flX11_13 (pc := 41) dX11_frost_41 <|
pw_iconst (v := 1) (pc := 44) dX11_frost_44 (by decide) <|
pw_iald (pw_shRow pw_r73) (pc := 45) dX11_frost_45 <|
pw_icmp_ge  (tgt := 76) (pc := 46) dX11_frost_46 (by decide) (fun h18 => pw_ltA fun x11 hxx11 => pw_iinc (v := x11) [(2, .int x11), (3, .int v8), (0, .ref (pw_ad G 71)), (1, .int a1)] (pc := 76) dX11_frost_76 1 rfl (by rw [hxx11]; rfl) (by decide) rfl <|
pw_goto (tgt := 24) (pc := 79) dX11_frost_79 (by decide) <|
pw_sub [0, 2, 3] rfl <| hn6 x11 m7) (fun h19 => pw_aload_n (pc := 49) dX11_frost_49 2 rfl <|
pw_getR (o := 71) (k := 1) (t := 73) (pw_sh_71) cfX11 rfl (by decide) flX11_13 (pc := 50) dX11_frost_50 <|
pw_iload_n (pc := 53) dX11_frost_53 0 rfl <|
pw_callS_rz (n := 2) (rest := []) (tX11_isOver K.2.1 G pw_r73 v8 m7) miX11_isOver mlX11_90 (pc := 54) dX11_frost_54 rfl rfl (by decide) (Nat.le_of_ble_eq_true rfl) fun y12 =>
pw_ifz_eq (tgt := 70) (pc := 57) dX11_frost_57 (by decide) (fun h16 => pw_iload_n (pc := 60) dX11_frost_60 3 rfl <|
pw_if_ne (a := a1) (b := 0) (tgt := 68) (pc := 61) dX11_frost_61 (by decide) (fun h14 => pw_iload_n (pc := 68) dX11_frost_68 0 rfl <|
pw_iret (a := v8) (v := (v8, m7)) hH rfl (pc := 69) dX11_frost_69) (fun h15 => pw_iload_n (pc := 64) dX11_frost_64 1 rfl <|
pw_goto (tgt := 69) (pc := 65) dX11_frost_65 (by decide) <|
pw_iret (a := v3) (v := (v3, m7)) hH rfl (pc := 69) dX11_frost_69)) (fun h17 => pw_ltA fun x13 hxx13 => pw_iinc (v := x13) [(3, .int x13), (2, .int v3), (0, .ref (pw_ad G 71)), (1, .int a1)] (pc := 70) dX11_frost_70 0 rfl (by rw [hxx13]; rfl) (by decide) rfl <|
pw_goto (tgt := 39) (pc := 73) dX11_frost_73 (by decide) <|
hn10 x13))) FU (0 : Int32))) FU (0 : Int32) m2) (fun h25 => pw_iconst (v := -1) (pc := 9) dX11_frost_9 (by decide) <|
pw_iret (a := (-1 : Int32)) (v := ((-1 : Int32), m0)) hH rfl (pc := 10) dX11_frost_10))
set_option maxHeartbeats 4000000 in
theorem tX11_leastOf (l : Launch) (G : pw_G) (a1 : Int32) (m0 : pw_Mem) : PMet l G yX11_leastOf cX11_leastOf 1 (some .int) 0 [.int a1] m0 (pw_Ri m0) (fX11_leastOf a1 m0) :=
  pw_met (own := RX11) (l0 := [(0, .int a1)]) rfl (by decide) rfl (Nat.le_of_ble_eq_true rfl) fun K hK hH => by
  delta fX11_leastOf
  exact (pw_iload_n (pc := 0) dX11_leastOf_0 0 rfl <|
pw_if_ne (a := a1) (b := 0) (tgt := 9) (pc := 1) dX11_leastOf_1 (by decide) (fun h3 => pw_iload_n (pc := 9) dX11_leastOf_9 0 rfl <|
pw_iconst (v := 1) (pc := 10) dX11_leastOf_10 (by decide) <|
pw_icmp_ne  (tgt := 20) (pc := 11) dX11_leastOf_11 (by decide) (fun h1 => pw_ldc (v := -2147483648) (pc := 20) dX11_leastOf_20 klX11_224 <|
pw_iret (a := (-2147483648 : Int32)) (v := (-2147483648 : Int32)) hH rfl (pc := 22) dX11_leastOf_22) (fun h2 => pw_sipush (v := -32768) (pc := 14) dX11_leastOf_14 (by decide) <|
pw_goto (tgt := 22) (pc := 17) dX11_leastOf_17 (by decide) <|
pw_iret (a := (-32768 : Int32)) (v := (-32768 : Int32)) hH rfl (pc := 22) dX11_leastOf_22)) (fun h4 => pw_bipush (v := -128) (pc := 4) dX11_leastOf_4 (by decide) <|
pw_goto (tgt := 22) (pc := 6) dX11_leastOf_6 (by decide) <|
pw_iret (a := (-128 : Int32)) (v := (-128 : Int32)) hH rfl (pc := 22) dX11_leastOf_22))
set_option maxHeartbeats 4000000 in
theorem tX11_isLurching (l : Launch) (G : pw_G) (a1 : Int32) (m0 : pw_Mem) : PMet l G yX11_isLurching cX11_isLurching 4 (some .boolean) 4 [.ref (pw_ad G 71), .int a1] m0 (pw_Rz m0) (fX11_isLurching a1 m0) :=
  pw_met (own := RX11) (l0 := [(0, .ref (pw_ad G 71)), (1, .int a1)]) rfl (by decide) rfl (Nat.le_of_ble_eq_true rfl) fun K hK hH => by
  delta fX11_isLurching
  exact (pw_iconst (v := 0) (pc := 0) dX11_isLurching_0 (by decide) <|
pw_istore_n [(2, .int (0 : Int32)), (0, .ref (pw_ad G 71)), (1, .int a1)] (pc := 1) dX11_isLurching_1 (by decide) rfl <|
pw_lp (fun (kk17 : Int32 → Option Bool) => ∀ (v1 : Int32), PW K G RX11 cX11_isLurching 4 (some .boolean) 4 (pw_MQ K G (pw_Rz m0)) (kk17 v1) 2 [(2, .int v1), (0, .ref (pw_ad G 71)), (1, .int a1)] [] m0) (fun _ => pw_none) (fun nx2 hn3 v1 => pw_iload_n (pc := 2) dX11_isLurching_2 0 rfl <|
pw_aload_n (pc := 3) dX11_isLurching_3 1 rfl <|
pw_getR (o := 71) (k := 19) (t := 84) (pw_sh_71) cfX11 rfl (by decide) flX11_46 (pc := 4) dX11_isLurching_4 <|
pw_iload_n (pc := 7) dX11_isLurching_7 2 rfl <|
pw_iald (pw_sh_84) (pc := 8) dX11_isLurching_8 <|
pw_icmp_ge  (tgt := 68) (pc := 9) dX11_isLurching_9 (by decide) (fun h15 => pw_iconst (v := 1) (pc := 68) dX11_isLurching_68 (by decide) <|
pw_zret (b := true) hH rfl (pc := 69) dX11_isLurching_69) (fun h16 => pw_aload_n (pc := 12) dX11_isLurching_12 1 rfl <|
pw_getR (o := 71) (k := 20) (t := 85) (pw_sh_71) cfX11 rfl (by decide) flX11_49 (pc := 13) dX11_isLurching_13 <|
pw_bipush (v := 100) (pc := 16) dX11_isLurching_16 (by decide) <|
pw_iload_n (pc := 18) dX11_isLurching_18 2 rfl <|
pw_imul (pc := 19) dX11_isLurching_19 <|
pw_iload_n (pc := 20) dX11_isLurching_20 0 rfl <|
pw_iadd (pc := 21) dX11_isLurching_21 <|
pw_iald (pw_sh_85) (pc := 22) dX11_isLurching_22 <|
pw_ltI fun x4 => pw_istore_n [(3, .int x4), (2, .int v1), (0, .ref (pw_ad G 71)), (1, .int a1)] (pc := 23) dX11_isLurching_23 (by decide) rfl <|
pw_iload_n (pc := 24) dX11_isLurching_24 0 rfl <|
pw_aload_n (pc := 25) dX11_isLurching_25 2 rfl <|
pw_getR (o := 71) (k := 18) (t := 83) (pw_sh_71) cfX11 rfl (by decide) flX11_43 (pc := 26) dX11_isLurching_26 <|
pw_iload_n (pc := 29) dX11_isLurching_29 3 rfl <|
pw_iald (pw_sh_83) (pc := 30) dX11_isLurching_30 <|
pw_callS_ri (n := 1) (rest := [.int x4]) (tX11_leastOf K.2.1 G (m0 83 (a1).toNatClampNeg) m0) miX11_leastOf mlX11_225 (pc := 31) dX11_isLurching_31 rfl rfl (by decide) (Nat.le_of_ble_eq_true rfl) fun y5 =>
pw_jn (fun (k7 : Option Bool) => PW K G RX11 cX11_isLurching 4 (some .boolean) 4 (pw_MQ K G (pw_Rz m0)) k7 62 [(2, .int v1), (0, .ref (pw_ad G 71)), (1, .int a1)] [] m0) (pw_ltA fun x6 hxx6 => pw_iinc (v := x6) [(2, .int x6), (0, .ref (pw_ad G 71)), (1, .int a1)] (pc := 62) dX11_isLurching_62 0 rfl (by rw [hxx6]; rfl) (by decide) rfl <|
pw_goto (tgt := 2) (pc := 65) dX11_isLurching_65 (by decide) <|
hn3 x6) (fun k7 hk8 => pw_icmp_eq  (tgt := 62) (pc := 34) dX11_isLurching_34 (by decide) (fun h13 => pw_sub [1, 2, 3] rfl <| hk8) (fun h14 => pw_iload_n (pc := 37) dX11_isLurching_37 0 rfl <|
pw_aload_n (pc := 38) dX11_isLurching_38 2 rfl <|
pw_getR (o := 71) (k := 1) (t := 73) (pw_sh_71) cfX11 rfl (by decide) flX11_13 (pc := 39) dX11_isLurching_39 <|
pw_iload_n (pc := 42) dX11_isLurching_42 1 rfl <|
pw_iconst (v := 1) (pc := 43) dX11_isLurching_43 (by decide) <|
pw_callS_ri (n := 3) (rest := [.int x4]) (tX11_pulled K.2.1 G pw_r73 v1 (1 : Int32) m0) miX11_pulled mlX11_116 (pc := 44) dX11_isLurching_44 rfl rfl (by decide) (Nat.le_of_ble_eq_true rfl) fun y9 =>
pw_aload_n (pc := 47) dX11_isLurching_47 2 rfl <|
pw_getR (o := 71) (k := 1) (t := 73) (pw_sh_71) cfX11 rfl (by decide) flX11_13 (pc := 48) dX11_isLurching_48 <|
pw_iload_n (pc := 51) dX11_isLurching_51 1 rfl <|
pw_iconst (v := -1) (pc := 52) dX11_isLurching_52 (by decide) <|
pw_callS_ri (n := 3) (rest := [.int y9, .int x4]) (tX11_pulled K.2.1 G pw_r73 v1 (-1 : Int32) m0) miX11_pulled mlX11_116 (pc := 53) dX11_isLurching_53 rfl rfl (by decide) (Nat.le_of_ble_eq_true rfl) fun y10 =>
pw_isub (pc := 56) dX11_isLurching_56 <|
pw_icmp_eq  (tgt := 62) (pc := 57) dX11_isLurching_57 (by decide) (fun h11 => pw_sub [1, 2, 3] rfl <| hk8) (fun h12 => pw_iconst (v := 0) (pc := 60) dX11_isLurching_60 (by decide) <|
pw_zret (b := false) hH rfl (pc := 61) dX11_isLurching_61))))) FU (0 : Int32))
set_option maxHeartbeats 4000000 in
theorem tX11_lurch (l : Launch) (G : pw_G) (a1 : Int32) (a2 : Int32) (m0 : pw_Mem) : PMet l G yX11_lurch cX11_lurch 6 (some .int) 5 [.ref (pw_ad G 71), .int a1, .int a2] m0 pw_Wi (fX11_lurch a1 a2 m0) :=
  pw_met (own := RX11) (l0 := [(0, .ref (pw_ad G 71)), (1, .int a1), (2, .int a2)]) rfl (by decide) rfl (Nat.le_of_ble_eq_true rfl) fun K hK hH => by
  delta fX11_lurch
  exact (pw_iload_n (pc := 0) dX11_lurch_0 2 rfl <|
pw_iconst (v := 0) (pc := 1) dX11_lurch_1 (by decide) <|
pw_iconst (v := 1) (pc := 2) dX11_lurch_2 (by decide) <|
pw_callS_rz (n := 3) (rest := []) (tX11_isIn K.2.1 G a2 (0 : Int32) (1 : Int32) m0) miX11_isIn mlX11_52 (pc := 3) dX11_lurch_3 rfl rfl (by decide) (Nat.le_of_ble_eq_true rfl) fun y1 =>
pw_ifz_ne (tgt := 11) (pc := 6) dX11_lurch_6 (by decide) (fun h39 => pw_aload_n (pc := 11) dX11_lurch_11 0 rfl <|
pw_iload_n (pc := 12) dX11_lurch_12 1 rfl <|
pw_iconst (v := -1) (pc := 13) dX11_lurch_13 (by decide) <|
pw_callV_ri (n := 2) (rest := []) (tX11_wrongRow K.2.1 G a1 (-1 : Int32) m0) (pw_sh_71) cfX11 rfl miX11_wrongRow mlX11_167 (pc := 14) dX11_lurch_14 rfl rfl (by decide) (Nat.le_of_ble_eq_true rfl) fun y2 =>
pw_istore_n [(3, .int y2), (0, .ref (pw_ad G 71)), (1, .int a1), (2, .int a2)] (pc := 17) dX11_lurch_17 (by decide) rfl <|
pw_iload_n (pc := 18) dX11_lurch_18 0 rfl <|
pw_jn (fun (k33 : Int32 → Option (Int32 × pw_Mem)) => ∀ (v3 : Int32), PW K G RX11 cX11_lurch 6 (some .int) 5 (pw_MQ K G pw_Wi) (k33 v3) 40 [(3, .int v3), (0, .ref (pw_ad G 71)), (1, .int a1), (2, .int a2)] [] m0) (fun v3 => pw_iload_n (pc := 40) dX11_lurch_40 0 rfl <|
pw_if_eq (a := v3) (b := 0) (tgt := 46) (pc := 41) dX11_lurch_41 (by decide) (fun h31 => pw_iconst (v := 0) (pc := 46) dX11_lurch_46 (by decide) <|
pw_istore [(4, .int (0 : Int32)), (3, .int v3), (0, .ref (pw_ad G 71)), (1, .int a1), (2, .int a2)] (pc := 47) dX11_lurch_47 (by decide) rfl <|
pw_iconst (v := 0) (pc := 49) dX11_lurch_49 (by decide) <|
pw_istore [(5, .int (0 : Int32)), (4, .int (0 : Int32)), (3, .int v3), (0, .ref (pw_ad G 71)), (1, .int a1), (2, .int a2)] (pc := 50) dX11_lurch_50 (by decide) rfl <|
pw_sub [0, 1, 3, 4, 5] rfl <| pw_lp (fun (kk30 : Int32 → Int32 → pw_Mem → Option (Int32 × pw_Mem)) => ∀ (v4 : Int32) (v5 : Int32) (m6 : pw_Mem), PW K G RX11 cX11_lurch 6 (some .int) 5 (pw_MQ K G pw_Wi) (kk30 v4 v5 m6) 52 [(5, .int v5), (4, .int v4), (0, .ref (pw_ad G 71)), (1, .int a1), (2, .int a2)] [] m6) (fun _ _ _ => pw_none) (fun nx7 hn8 v4 v5 m6 => pw_iload (pc := 52) dX11_lurch_52 0 rfl <|
pw_aload_n (pc := 54) dX11_lurch_54 2 rfl <|
pw_getR (o := 71) (k := 0) (t := 72) (pw_sh_71) cfX11 rfl (by decide) flX11_9 (pc := 55) dX11_lurch_55 <|
pw_iconst (v := 1) (pc := 58) dX11_lurch_58 (by decide) <|
pw_iald (pw_shRow pw_r72) (pc := 59) dX11_lurch_59 <|
pw_icmp_ge  (tgt := 125) (pc := 60) dX11_lurch_60 (by decide) (fun h28 => pw_iload_n (pc := 125) dX11_lurch_125 4 rfl <|
pw_if_ne (a := a2) (b := 0) (tgt := 134) (pc := 126) dX11_lurch_126 (by decide) (fun h10 => pw_iload (pc := 134) dX11_lurch_134 1 rfl <|
pw_callS_ri (n := 1) (rest := []) (tX11_bits K.2.1 G v4 m6) miX11_bits mlX11_180 (pc := 136) dX11_lurch_136 rfl rfl (by decide) (Nat.le_of_ble_eq_true rfl) fun y9 =>
pw_iret (a := y9) (v := (y9, m6)) hH rfl (pc := 139) dX11_lurch_139) (fun h11 => pw_iload (pc := 129) dX11_lurch_129 1 rfl <|
pw_goto (tgt := 139) (pc := 131) dX11_lurch_131 (by decide) <|
pw_iret (a := v4) (v := (v4, m6)) hH rfl (pc := 139) dX11_lurch_139)) (fun h29 => pw_aload_n (pc := 63) dX11_lurch_63 2 rfl <|
pw_getR (o := 71) (k := 0) (t := 72) (pw_sh_71) cfX11 rfl (by decide) flX11_9 (pc := 64) dX11_lurch_64 <|
pw_aload_n (pc := 67) dX11_lurch_67 2 rfl <|
pw_getR (o := 71) (k := 1) (t := 73) (pw_sh_71) cfX11 rfl (by decide) flX11_13 (pc := 68) dX11_lurch_68 <|
pw_callS_wv (n := 2) (rest := []) (tX11_copies K.2.1 G pw_r72 pw_r73 m6) miX11_copies mlX11_112 (pc := 71) dX11_lurch_71 rfl rfl (by decide) (Nat.le_of_ble_eq_true rfl) fun m12 =>
pw_aload_n (pc := 74) dX11_lurch_74 2 rfl <|
pw_getR (o := 71) (k := 1) (t := 73) (pw_sh_71) cfX11 rfl (by decide) flX11_13 (pc := 75) dX11_lurch_75 <|
pw_iload (pc := 78) dX11_lurch_78 0 rfl <|
pw_iconst (v := 5) (pc := 80) dX11_lurch_80 (by decide) <|
pw_callS_ri (n := 2) (rest := [.ref (pw_ad G 73)]) (tX11_of K.2.1 G v5 (5 : Int32) m12) miX11_of mlX11_56 (pc := 81) dX11_lurch_81 rfl rfl (by decide) (Nat.le_of_ble_eq_true rfl) fun y13 =>
pw_iconst (v := 1) (pc := 84) dX11_lurch_84 (by decide) <|
pw_iast (pw_shRow pw_r73) (pc := 85) dX11_lurch_85 <| pw_ltM fun m14 =>
pw_iload (pc := 86) dX11_lurch_86 1 rfl <|
pw_aload_n (pc := 88) dX11_lurch_88 2 rfl <|
pw_getR (o := 71) (k := 0) (t := 72) (pw_sh_71) cfX11 rfl (by decide) flX11_9 (pc := 89) dX11_lurch_89 <|
pw_iload (pc := 92) dX11_lurch_92 0 rfl <|
pw_callS_rz (n := 2) (rest := [.int v4]) (tX11_isWhole K.2.1 G pw_r72 v5 m14) miX11_isWhole mlX11_69 (pc := 94) dX11_lurch_94 rfl rfl (by decide) (Nat.le_of_ble_eq_true rfl) fun y15 =>
pw_jn (fun (k19 : Int32 → Option (Int32 × pw_Mem)) => ∀ (w16 : Int32), PW K G RX11 cX11_lurch 6 (some .int) 5 (pw_MQ K G pw_Wi) (k19 w16) 116 [(5, .int v5), (0, .ref (pw_ad G 71)), (1, .int a1), (2, .int a2)] [.int w16, .int v4] m14) (fun w16 => pw_ior (pc := 116) dX11_lurch_116 <|
pw_ltI fun x17 => pw_istore [(4, .int x17), (5, .int v5), (0, .ref (pw_ad G 71)), (1, .int a1), (2, .int a2)] (pc := 117) dX11_lurch_117 (by decide) rfl <|
pw_ltA fun x18 hxx18 => pw_iinc (v := x18) [(5, .int x18), (4, .int x17), (0, .ref (pw_ad G 71)), (1, .int a1), (2, .int a2)] (pc := 119) dX11_lurch_119 1 rfl (by rw [hxx18]; rfl) (by decide) rfl <|
pw_goto (tgt := 52) (pc := 122) dX11_lurch_122 (by decide) <|
hn8 x17 x18 m14) (fun k19 hk20 => pw_jn (fun (k21 : Option (Int32 × pw_Mem)) => PW K G RX11 cX11_lurch 6 (some .int) 5 (pw_MQ K G pw_Wi) k21 115 [(5, .int v5), (0, .ref (pw_ad G 71)), (1, .int a1), (2, .int a2)] [.int v4] m14) (pw_iconst (v := 0) (pc := 115) dX11_lurch_115 (by decide) <|
hk20 (0 : Int32)) (fun k21 hk22 => pw_ifz_eq (tgt := 115) (pc := 97) dX11_lurch_97 (by decide) (fun h26 => pw_aload_n (pc := 100) dX11_lurch_100 2 rfl <|
pw_iload_n (pc := 101) dX11_lurch_101 3 rfl <|
pw_callV_rz (n := 1) (rest := [.int v4]) (tX11_isLurching K.2.1 G a1 m14) (pw_sh_71) cfX11 rfl miX11_isLurching mlX11_228 (pc := 102) dX11_lurch_102 rfl rfl (by decide) (Nat.le_of_ble_eq_true rfl) fun y23 =>
pw_ifz_eq (tgt := 115) (pc := 105) dX11_lurch_105 (by decide) (fun h24 => pw_iconst (v := 1) (pc := 108) dX11_lurch_108 (by decide) <|
pw_iload (pc := 109) dX11_lurch_109 0 rfl <|
pw_ishl (pc := 111) dX11_lurch_111 <|
pw_goto (tgt := 116) (pc := 112) dX11_lurch_112 (by decide) <|
pw_sub [0, 2, 3, 4] rfl <| hk20 ((1 : Int32) <<< (v5 &&& 31))) (fun h25 => pw_sub [0, 2, 3, 4] rfl <| hk22)) (fun h27 => pw_sub [0, 2, 3, 4] rfl <| hk22))))) FU (0 : Int32) (0 : Int32) m0) (fun h32 => pw_iload_n (pc := 44) dX11_lurch_44 0 rfl <|
pw_iret (a := v3) (v := (v3, m0)) hH rfl (pc := 45) dX11_lurch_45)) (fun k33 hk34 => pw_if_ne (a := y2) (b := 0) (tgt := 40) (pc := 19) dX11_lurch_19 (by decide) (fun h37 => hk34 y2) (fun h38 => pw_aload_n (pc := 22) dX11_lurch_22 1 rfl <|
pw_getR (o := 71) (k := 19) (t := 84) (pw_sh_71) cfX11 rfl (by decide) flX11_46 (pc := 23) dX11_lurch_23 <|
pw_iload_n (pc := 26) dX11_lurch_26 2 rfl <|
pw_iald (pw_sh_84) (pc := 27) dX11_lurch_27 <|
pw_aload_n (pc := 28) dX11_lurch_28 1 rfl <|
pw_getR (o := 71) (k := 0) (t := 72) (pw_sh_71) cfX11 rfl (by decide) flX11_9 (pc := 29) dX11_lurch_29 <|
pw_iconst (v := 0) (pc := 32) dX11_lurch_32 (by decide) <|
pw_iald (pw_shRow pw_r72) (pc := 33) dX11_lurch_33 <|
pw_icmp_le  (tgt := 40) (pc := 34) dX11_lurch_34 (by decide) (fun h35 => hk34 y2) (fun h36 => pw_bipush (v := -13) (pc := 37) dX11_lurch_37 (by decide) <|
pw_istore_n [(3, .int (-13 : Int32)), (0, .ref (pw_ad G 71)), (1, .int a1), (2, .int a2)] (pc := 39) dX11_lurch_39 (by decide) rfl <|
hk34 (-13 : Int32))))) (fun h40 => pw_iconst (v := -1) (pc := 9) dX11_lurch_9 (by decide) <|
pw_iret (a := (-1 : Int32)) (v := ((-1 : Int32), m0)) hH rfl (pc := 10) dX11_lurch_10))
set_option maxHeartbeats 4000000 in
theorem tX11_gauges (l : Launch) (G : pw_G) (a1 : Int32) (a2 : Int32) (a3 : Int32) (m0 : pw_Mem) : PMet l G yX11_gauges cX11_gauges 10 (some .int) 3 [.ref (pw_ad G 71), .int a1, .int a2, .int a3] m0 (pw_Ri m0) (fX11_gauges a1 a2 a3 m0) :=
  pw_met (own := RX11) (l0 := [(0, .ref (pw_ad G 71)), (1, .int a1), (2, .int a2), (3, .int a3)]) rfl (by decide) rfl (Nat.le_of_ble_eq_true rfl) fun K hK hH => by
  delta fX11_gauges
  exact (pw_iload_n (pc := 0) dX11_gauges_0 2 rfl <|
pw_iconst (v := 0) (pc := 1) dX11_gauges_1 (by decide) <|
pw_bipush (v := 9) (pc := 2) dX11_gauges_2 (by decide) <|
pw_callS_rz (n := 3) (rest := []) (tX11_isIn K.2.1 G a2 (0 : Int32) (9 : Int32) m0) miX11_isIn mlX11_52 (pc := 4) dX11_gauges_4 rfl rfl (by decide) (Nat.le_of_ble_eq_true rfl) fun y1 =>
pw_ifz_eq (tgt := 19) (pc := 7) dX11_gauges_7 (by decide) (fun h48 => pw_iload_n (pc := 10) dX11_gauges_10 3 rfl <|
pw_iconst (v := 0) (pc := 11) dX11_gauges_11 (by decide) <|
pw_iconst (v := 1) (pc := 12) dX11_gauges_12 (by decide) <|
pw_callS_rz (n := 3) (rest := []) (tX11_isIn K.2.1 G a3 (0 : Int32) (1 : Int32) m0) miX11_isIn mlX11_52 (pc := 13) dX11_gauges_13 rfl rfl (by decide) (Nat.le_of_ble_eq_true rfl) fun y2 =>
pw_ifz_ne (tgt := 21) (pc := 16) dX11_gauges_16 (by decide) (fun h46 => pw_aload_n (pc := 21) dX11_gauges_21 0 rfl <|
pw_iload_n (pc := 22) dX11_gauges_22 1 rfl <|
pw_iconst (v := -1) (pc := 23) dX11_gauges_23 (by decide) <|
pw_callV_ri (n := 2) (rest := []) (tX11_wrongRow K.2.1 G a1 (-1 : Int32) m0) (pw_sh_71) cfX11 rfl miX11_wrongRow mlX11_167 (pc := 24) dX11_gauges_24 rfl rfl (by decide) (Nat.le_of_ble_eq_true rfl) fun y3 =>
pw_istore [(4, .int y3), (0, .ref (pw_ad G 71)), (1, .int a1), (2, .int a2), (3, .int a3)] (pc := 27) dX11_gauges_27 (by decide) rfl <|
pw_iload (pc := 29) dX11_gauges_29 0 rfl <|
pw_if_eq (a := y3) (b := 0) (tgt := 37) (pc := 31) dX11_gauges_31 (by decide) (fun h44 => pw_iconst (v := 0) (pc := 37) dX11_gauges_37 (by decide) <|
pw_istore [(5, .int (0 : Int32)), (4, .int y3), (0, .ref (pw_ad G 71)), (1, .int a1), (2, .int a2), (3, .int a3)] (pc := 38) dX11_gauges_38 (by decide) rfl <|
pw_iconst (v := 0) (pc := 40) dX11_gauges_40 (by decide) <|
pw_istore [(6, .int (0 : Int32)), (5, .int (0 : Int32)), (4, .int y3), (0, .ref (pw_ad G 71)), (1, .int a1), (2, .int a2), (3, .int a3)] (pc := 41) dX11_gauges_41 (by decide) rfl <|
pw_sub [0, 1, 3, 4, 5, 6] rfl <| pw_lp (fun (kk43 : Int32 → Int32 → Option Int32) => ∀ (v4 : Int32) (v5 : Int32), PW K G RX11 cX11_gauges 10 (some .int) 3 (pw_MQ K G (pw_Ri m0)) (kk43 v4 v5) 43 [(6, .int v5), (5, .int v4), (0, .ref (pw_ad G 71)), (1, .int a1), (2, .int a2), (3, .int a3)] [] m0) (fun _ _ => pw_none) (fun nx6 hn7 v4 v5 => pw_iload (pc := 43) dX11_gauges_43 0 rfl <|
pw_bipush (v := 8) (pc := 45) dX11_gauges_45 (by decide) <|
pw_icmp_ge  (tgt := 159) (pc := 47) dX11_gauges_47 (by decide) (fun h41 => pw_iload_n (pc := 159) dX11_gauges_159 5 rfl <|
pw_if_ne (a := a3) (b := 0) (tgt := 168) (pc := 160) dX11_gauges_160 (by decide) (fun h9 => pw_iload (pc := 168) dX11_gauges_168 1 rfl <|
pw_callS_ri (n := 1) (rest := []) (tX11_bits K.2.1 G v4 m0) miX11_bits mlX11_180 (pc := 170) dX11_gauges_170 rfl rfl (by decide) (Nat.le_of_ble_eq_true rfl) fun y8 =>
pw_iret (a := y8) (v := y8) hH rfl (pc := 173) dX11_gauges_173) (fun h10 => pw_iload (pc := 163) dX11_gauges_163 1 rfl <|
pw_goto (tgt := 173) (pc := 165) dX11_gauges_165 (by decide) <|
pw_iret (a := v4) (v := v4) hH rfl (pc := 173) dX11_gauges_173)) (fun h42 => pw_iconst (v := 1) (pc := 50) dX11_gauges_50 (by decide) <|
pw_istore [(7, .int (1 : Int32)), (6, .int v5), (5, .int v4), (0, .ref (pw_ad G 71)), (1, .int a1), (2, .int a2), (3, .int a3)] (pc := 51) dX11_gauges_51 (by decide) rfl <|
pw_iconst (v := 0) (pc := 53) dX11_gauges_53 (by decide) <|
pw_istore [(8, .int (0 : Int32)), (7, .int (1 : Int32)), (6, .int v5), (5, .int v4), (0, .ref (pw_ad G 71)), (1, .int a1), (2, .int a2), (3, .int a3)] (pc := 54) dX11_gauges_54 (by decide) rfl <|
pw_lp (fun (kk40 : Int32 → Int32 → Option Int32) => ∀ (v11 : Int32) (v12 : Int32), PW K G RX11 cX11_gauges 10 (some .int) 3 (pw_MQ K G (pw_Ri m0)) (kk40 v11 v12) 56 [(8, .int v12), (7, .int v11), (6, .int v5), (5, .int v4), (0, .ref (pw_ad G 71)), (1, .int a1), (2, .int a2), (3, .int a3)] [] m0) (fun _ _ => pw_none) (fun nx13 hn14 v11 v12 => pw_iload (pc := 56) dX11_gauges_56 0 rfl <|
pw_aload_n (pc := 58) dX11_gauges_58 4 rfl <|
pw_getR (o := 71) (k := 19) (t := 84) (pw_sh_71) cfX11 rfl (by decide) flX11_46 (pc := 59) dX11_gauges_59 <|
pw_iload_n (pc := 62) dX11_gauges_62 5 rfl <|
pw_iald (pw_sh_84) (pc := 63) dX11_gauges_63 <|
pw_icmp_ge  (tgt := 135) (pc := 64) dX11_gauges_64 (by decide) (fun h38 => pw_iload (pc := 135) dX11_gauges_135 3 rfl <|
pw_iload (pc := 137) dX11_gauges_137 1 rfl <|
pw_jn (fun (k18 : Int32 → Option Int32) => ∀ (w15 : Int32), PW K G RX11 cX11_gauges 10 (some .int) 3 (pw_MQ K G (pw_Ri m0)) (k18 w15) 150 [(6, .int v5), (0, .ref (pw_ad G 71)), (1, .int a1), (2, .int a2), (3, .int a3)] [.int w15, .int v4] m0) (fun w15 => pw_ior (pc := 150) dX11_gauges_150 <|
pw_ltI fun x16 => pw_istore [(5, .int x16), (6, .int v5), (0, .ref (pw_ad G 71)), (1, .int a1), (2, .int a2), (3, .int a3)] (pc := 151) dX11_gauges_151 (by decide) rfl <|
pw_ltA fun x17 hxx17 => pw_iinc (v := x17) [(6, .int x17), (5, .int x16), (0, .ref (pw_ad G 71)), (1, .int a1), (2, .int a2), (3, .int a3)] (pc := 153) dX11_gauges_153 1 rfl (by rw [hxx17]; rfl) (by decide) rfl <|
pw_goto (tgt := 43) (pc := 156) dX11_gauges_156 (by decide) <|
hn7 x16 x17) (fun k18 hk19 => pw_if_eq (a := v11) (b := 0) (tgt := 149) (pc := 139) dX11_gauges_139 (by decide) (fun h20 => pw_iconst (v := 0) (pc := 149) dX11_gauges_149 (by decide) <|
pw_sub [2, 4, 5, 6, 7] rfl <| hk19 (0 : Int32)) (fun h21 => pw_iconst (v := 1) (pc := 142) dX11_gauges_142 (by decide) <|
pw_iload (pc := 143) dX11_gauges_143 2 rfl <|
pw_ishl (pc := 145) dX11_gauges_145 <|
pw_goto (tgt := 150) (pc := 146) dX11_gauges_146 (by decide) <|
pw_sub [2, 4, 5, 6, 7] rfl <| hk19 ((1 : Int32) <<< (v5 &&& 31))))) (fun h39 => pw_aload_n (pc := 67) dX11_gauges_67 4 rfl <|
pw_getR (o := 71) (k := 20) (t := 85) (pw_sh_71) cfX11 rfl (by decide) flX11_49 (pc := 68) dX11_gauges_68 <|
pw_bipush (v := 100) (pc := 71) dX11_gauges_71 (by decide) <|
pw_iload_n (pc := 73) dX11_gauges_73 5 rfl <|
pw_imul (pc := 74) dX11_gauges_74 <|
pw_iload (pc := 75) dX11_gauges_75 0 rfl <|
pw_iadd (pc := 77) dX11_gauges_77 <|
pw_iald (pw_sh_85) (pc := 78) dX11_gauges_78 <|
pw_ltI fun x22 => pw_istore [(9, .int x22), (8, .int v12), (7, .int v11), (6, .int v5), (5, .int v4), (0, .ref (pw_ad G 71)), (1, .int a1), (2, .int a2), (3, .int a3)] (pc := 79) dX11_gauges_79 (by decide) rfl <|
pw_iload (pc := 81) dX11_gauges_81 2 rfl <|
pw_iload (pc := 83) dX11_gauges_83 0 rfl <|
pw_aload_n (pc := 85) dX11_gauges_85 5 rfl <|
pw_getR (o := 71) (k := 18) (t := 83) (pw_sh_71) cfX11 rfl (by decide) flX11_43 (pc := 86) dX11_gauges_86 <|
pw_iload_n (pc := 89) dX11_gauges_89 6 rfl <|
pw_iald (pw_sh_83) (pc := 90) dX11_gauges_90 <|
pw_callS_ri (n := 1) (rest := [.int x22, .int v11]) (tX11_leastOf K.2.1 G (m0 83 (a1).toNatClampNeg) m0) miX11_leastOf mlX11_225 (pc := 91) dX11_gauges_91 rfl rfl (by decide) (Nat.le_of_ble_eq_true rfl) fun y23 =>
pw_jn (fun (k27 : Int32 → Option Int32) => ∀ (w24 : Int32), PW K G RX11 cX11_gauges 10 (some .int) 3 (pw_MQ K G (pw_Ri m0)) (k27 w24) 126 [(8, .int v12), (6, .int v5), (5, .int v4), (0, .ref (pw_ad G 71)), (1, .int a1), (2, .int a2), (3, .int a3)] [.int w24, .int v11] m0) (fun w24 => pw_iand (pc := 126) dX11_gauges_126 <|
pw_ltI fun x25 => pw_istore [(7, .int x25), (8, .int v12), (6, .int v5), (5, .int v4), (0, .ref (pw_ad G 71)), (1, .int a1), (2, .int a2), (3, .int a3)] (pc := 127) dX11_gauges_127 (by decide) rfl <|
pw_ltA fun x26 hxx26 => pw_iinc (v := x26) [(8, .int x26), (7, .int x25), (6, .int v5), (5, .int v4), (0, .ref (pw_ad G 71)), (1, .int a1), (2, .int a2), (3, .int a3)] (pc := 129) dX11_gauges_129 1 rfl (by rw [hxx26]; rfl) (by decide) rfl <|
pw_goto (tgt := 56) (pc := 132) dX11_gauges_132 (by decide) <|
hn14 x25 x26) (fun k27 hk28 => pw_jn (fun (k29 : Option Int32) => PW K G RX11 cX11_gauges 10 (some .int) 3 (pw_MQ K G (pw_Ri m0)) k29 121 [(8, .int v12), (6, .int v5), (5, .int v4), (0, .ref (pw_ad G 71)), (1, .int a1), (2, .int a2), (3, .int a3)] [.int v11] m0) (pw_iconst (v := 1) (pc := 121) dX11_gauges_121 (by decide) <|
pw_goto (tgt := 126) (pc := 122) dX11_gauges_122 (by decide) <|
hk28 (1 : Int32)) (fun k29 hk30 => pw_icmp_eq  (tgt := 121) (pc := 94) dX11_gauges_94 (by decide) (fun h36 => pw_sub [1, 3, 4, 5, 6, 7, 8] rfl <| hk30) (fun h37 => pw_iload (pc := 97) dX11_gauges_97 0 rfl <|
pw_iconst (v := 0) (pc := 99) dX11_gauges_99 (by decide) <|
pw_iload (pc := 100) dX11_gauges_100 1 rfl <|
pw_iload (pc := 102) dX11_gauges_102 3 rfl <|
pw_iload_n (pc := 104) dX11_gauges_104 7 rfl <|
pw_callS_ri (n := 2) (rest := [.int v12, .int (0 : Int32), .int x22, .int v11]) (tX11_slack K.2.1 G v5 a2 m0) miX11_slack mlX11_63 (pc := 105) dX11_gauges_105 rfl rfl (by decide) (Nat.le_of_ble_eq_true rfl) fun y31 =>
pw_isub (pc := 108) dX11_gauges_108 <|
pw_callS_ri (n := 2) (rest := [.int x22, .int v11]) (tX11_most K.2.1 G (0 : Int32) (v12 - y31) m0) miX11_most mlX11_66 (pc := 109) dX11_gauges_109 rfl rfl (by decide) (Nat.le_of_ble_eq_true rfl) fun y32 =>
pw_iload (pc := 112) dX11_gauges_112 3 rfl <|
pw_callS_ri (n := 1) (rest := [.int y32, .int x22, .int v11]) (tX11_gauge K.2.1 G v5 m0) miX11_gauge mlX11_77 (pc := 114) dX11_gauges_114 rfl rfl (by decide) (Nat.le_of_ble_eq_true rfl) fun y33 =>
pw_imul (pc := 117) dX11_gauges_117 <|
pw_icmp_ne  (tgt := 125) (pc := 118) dX11_gauges_118 (by decide) (fun h34 => pw_iconst (v := 0) (pc := 125) dX11_gauges_125 (by decide) <|
pw_sub [1, 3, 4, 5, 6, 7, 8] rfl <| hk28 (0 : Int32)) (fun h35 => pw_sub [1, 3, 4, 5, 6, 7, 8] rfl <| hk30)))))) FU (1 : Int32) (0 : Int32))) FU (0 : Int32) (0 : Int32)) (fun h45 => pw_iload (pc := 34) dX11_gauges_34 0 rfl <|
pw_iret (a := y3) (v := y3) hH rfl (pc := 36) dX11_gauges_36)) (fun h47 => pw_iconst (v := -1) (pc := 19) dX11_gauges_19 (by decide) <|
pw_iret (a := (-1 : Int32)) (v := (-1 : Int32)) hH rfl (pc := 20) dX11_gauges_20)) (fun h49 => pw_iconst (v := -1) (pc := 19) dX11_gauges_19 (by decide) <|
pw_iret (a := (-1 : Int32)) (v := (-1 : Int32)) hH rfl (pc := 20) dX11_gauges_20))
set_option maxHeartbeats 4000000 in
theorem tX11_hasBy (l : Launch) (G : pw_G) (a1 : Int32) (a2 : Int32) (a3 : Int32) (a4 : Int32) (m0 : pw_Mem) : PMet l G yX11_hasBy cX11_hasBy 9 (some .int) 3 [.ref (pw_ad G 71), .int a1, .int a2, .int a3, .int a4] m0 pw_Wi (fX11_hasBy a1 a2 a3 a4 m0) :=
  pw_met (own := RX11) (l0 := [(0, .ref (pw_ad G 71)), (1, .int a1), (2, .int a2), (3, .int a3), (4, .int a4)]) rfl (by decide) rfl (Nat.le_of_ble_eq_true rfl) fun K hK hH => by
  delta fX11_hasBy
  exact (pw_aload_n (pc := 0) dX11_hasBy_0 0 rfl <|
pw_getR (o := 71) (k := 0) (t := 72) (pw_sh_71) cfX11 rfl (by decide) flX11_9 (pc := 1) dX11_hasBy_1 <|
pw_aload_n (pc := 4) dX11_hasBy_4 0 rfl <|
pw_getR (o := 71) (k := 1) (t := 73) (pw_sh_71) cfX11 rfl (by decide) flX11_13 (pc := 5) dX11_hasBy_5 <|
pw_callS_wv (n := 2) (rest := []) (tX11_copies K.2.1 G pw_r72 pw_r73 m0) miX11_copies mlX11_112 (pc := 8) dX11_hasBy_8 rfl rfl (by decide) (Nat.le_of_ble_eq_true rfl) fun m1 =>
pw_aload_n (pc := 11) dX11_hasBy_11 0 rfl <|
pw_getR (o := 71) (k := 0) (t := 72) (pw_sh_71) cfX11 rfl (by decide) flX11_9 (pc := 12) dX11_hasBy_12 <|
pw_iconst (v := 4) (pc := 15) dX11_hasBy_15 (by decide) <|
pw_iload_n (pc := 16) dX11_hasBy_16 1 rfl <|
pw_iadd (pc := 17) dX11_hasBy_17 <|
pw_iald (pw_shRow pw_r72) (pc := 18) dX11_hasBy_18 <|
pw_aload_n (pc := 19) dX11_hasBy_19 0 rfl <|
pw_getR (o := 71) (k := 0) (t := 72) (pw_sh_71) cfX11 rfl (by decide) flX11_9 (pc := 20) dX11_hasBy_20 <|
pw_iconst (v := 4) (pc := 23) dX11_hasBy_23 (by decide) <|
pw_iload_n (pc := 24) dX11_hasBy_24 2 rfl <|
pw_iadd (pc := 25) dX11_hasBy_25 <|
pw_iald (pw_shRow pw_r72) (pc := 26) dX11_hasBy_26 <|
pw_jn (fun (k55 : Int32 → Option (Int32 × pw_Mem)) => ∀ (w2 : Int32), PW K G RX11 cX11_hasBy 9 (some .int) 3 (pw_MQ K G pw_Wi) (k55 w2) 35 [(0, .ref (pw_ad G 71)), (1, .int a1), (2, .int a2), (3, .int a3), (4, .int a4)] [.int w2] m1) (fun w2 => pw_istore [(5, .int w2), (0, .ref (pw_ad G 71)), (1, .int a1), (2, .int a2), (3, .int a3), (4, .int a4)] (pc := 35) dX11_hasBy_35 (by decide) rfl <|
pw_aload_n (pc := 37) dX11_hasBy_37 1 rfl <|
pw_getR (o := 71) (k := 0) (t := 72) (pw_sh_71) cfX11 rfl (by decide) flX11_9 (pc := 38) dX11_hasBy_38 <|
pw_iconst (v := 4) (pc := 41) dX11_hasBy_41 (by decide) <|
pw_iload_n (pc := 42) dX11_hasBy_42 2 rfl <|
pw_iadd (pc := 43) dX11_hasBy_43 <|
pw_iald (pw_shRow pw_r72) (pc := 44) dX11_hasBy_44 <|
pw_iload (pc := 45) dX11_hasBy_45 0 rfl <|
pw_iadd (pc := 47) dX11_hasBy_47 <|
pw_callS_rz (n := 1) (rest := []) (tX11_isPlace K.2.1 G ((m1 72 ((4 : Int32) + a1).toNatClampNeg) + w2) m1) miX11_isPlace mlX11_144 (pc := 48) dX11_hasBy_48 rfl rfl (by decide) (Nat.le_of_ble_eq_true rfl) fun y3 =>
pw_istore [(6, .int (bI y3)), (5, .int w2), (0, .ref (pw_ad G 71)), (1, .int a1), (2, .int a2), (3, .int a3), (4, .int a4)] (pc := 51) dX11_hasBy_51 (by decide) rfl <|
pw_aload_n (pc := 53) dX11_hasBy_53 2 rfl <|
pw_getR (o := 71) (k := 1) (t := 73) (pw_sh_71) cfX11 rfl (by decide) flX11_13 (pc := 54) dX11_hasBy_54 <|
pw_iconst (v := 4) (pc := 57) dX11_hasBy_57 (by decide) <|
pw_iload_n (pc := 58) dX11_hasBy_58 3 rfl <|
pw_iadd (pc := 59) dX11_hasBy_59 <|
pw_dup2 (pc := 60) dX11_hasBy_60 rfl rfl <|
pw_iald (pw_shRow pw_r73) (pc := 61) dX11_hasBy_61 <|
pw_iload_n (pc := 62) dX11_hasBy_62 5 rfl <|
pw_iconst (v := 1) (pc := 63) dX11_hasBy_63 (by decide) <|
pw_jn (fun (k47 : Int32 → Option (Int32 × pw_Mem)) => ∀ (w4 : Int32), PW K G RX11 cX11_hasBy 9 (some .int) 3 (pw_MQ K G pw_Wi) (k47 w4) 78 [(6, .int (bI y3)), (5, .int w2), (0, .ref (pw_ad G 71)), (1, .int a1), (2, .int a2), (3, .int a3), (4, .int a4)] [.int w4, .int (m1 73 ((4 : Int32) + a1).toNatClampNeg), .int ((4 : Int32) + a1), .ref (pw_ad G 73)] m1) (fun w4 => pw_iadd (pc := 78) dX11_hasBy_78 <|
pw_iast (pw_shRow pw_r73) (pc := 79) dX11_hasBy_79 <| pw_ltM fun m5 =>
pw_aload_n (pc := 80) dX11_hasBy_80 2 rfl <|
pw_getR (o := 71) (k := 1) (t := 73) (pw_sh_71) cfX11 rfl (by decide) flX11_13 (pc := 81) dX11_hasBy_81 <|
pw_iconst (v := 4) (pc := 84) dX11_hasBy_84 (by decide) <|
pw_iload_n (pc := 85) dX11_hasBy_85 4 rfl <|
pw_iadd (pc := 86) dX11_hasBy_86 <|
pw_dup2 (pc := 87) dX11_hasBy_87 rfl rfl <|
pw_iald (pw_shRow pw_r73) (pc := 88) dX11_hasBy_88 <|
pw_iload (pc := 89) dX11_hasBy_89 6 rfl <|
pw_iconst (v := 1) (pc := 91) dX11_hasBy_91 (by decide) <|
pw_jn (fun (k38 : Int32 → Option (Int32 × pw_Mem)) => ∀ (w6 : Int32), PW K G RX11 cX11_hasBy 9 (some .int) 3 (pw_MQ K G pw_Wi) (k38 w6) 118 [(6, .int (bI y3)), (0, .ref (pw_ad G 71)), (1, .int a1), (2, .int a2), (3, .int a3)] [.int w6, .int (m5 73 ((4 : Int32) + a2).toNatClampNeg), .int ((4 : Int32) + a2), .ref (pw_ad G 73)] m5) (fun w6 => pw_isub (pc := 118) dX11_hasBy_118 <|
pw_iast (pw_shRow pw_r73) (pc := 119) dX11_hasBy_119 <| pw_ltM fun m7 =>
pw_iload_n (pc := 120) dX11_hasBy_120 4 rfl <|
pw_iconst (v := 1) (pc := 121) dX11_hasBy_121 (by decide) <|
pw_jn (fun (k30 : Int32 → Option (Int32 × pw_Mem)) => ∀ (w8 : Int32), PW K G RX11 cX11_hasBy 9 (some .int) 3 (pw_MQ K G pw_Wi) (k30 w8) 135 [(0, .ref (pw_ad G 71)), (1, .int a1), (2, .int a2)] [.int w8] m7) (fun w8 => pw_istore [(7, .int w8), (0, .ref (pw_ad G 71)), (1, .int a1), (2, .int a2)] (pc := 135) dX11_hasBy_135 (by decide) rfl <|
pw_iconst (v := 0) (pc := 137) dX11_hasBy_137 (by decide) <|
pw_istore [(8, .int (0 : Int32)), (7, .int w8), (0, .ref (pw_ad G 71)), (1, .int a1), (2, .int a2)] (pc := 138) dX11_hasBy_138 (by decide) rfl <|
pw_lp (fun (kk29 : Int32 → Int32 → Option (Int32 × pw_Mem)) => ∀ (v9 : Int32) (v10 : Int32), PW K G RX11 cX11_hasBy 9 (some .int) 3 (pw_MQ K G pw_Wi) (kk29 v9 v10) 140 [(8, .int v10), (7, .int v9), (0, .ref (pw_ad G 71)), (1, .int a1), (2, .int a2)] [] m7) (fun _ _ => pw_none) (fun nx11 hn12 v9 v10 => pw_iload (pc := 140) dX11_hasBy_140 0 rfl <|
pw_aload_n (pc := 142) dX11_hasBy_142 2 rfl <|
pw_getR (o := 71) (k := 1) (t := 73) (pw_sh_71) cfX11 rfl (by decide) flX11_13 (pc := 143) dX11_hasBy_143 <|
pw_iconst (v := 1) (pc := 146) dX11_hasBy_146 (by decide) <|
pw_iald (pw_shRow pw_r73) (pc := 147) dX11_hasBy_147 <|
pw_icmp_ge  (tgt := 201) (pc := 148) dX11_hasBy_148 (by decide) (fun h27 => pw_iload (pc := 201) dX11_hasBy_201 1 rfl <|
pw_iret (a := v9) (v := (v9, m7)) hH rfl (pc := 203) dX11_hasBy_203) (fun h28 => pw_iload (pc := 151) dX11_hasBy_151 1 rfl <|
pw_aload_n (pc := 153) dX11_hasBy_153 2 rfl <|
pw_getR (o := 71) (k := 1) (t := 73) (pw_sh_71) cfX11 rfl (by decide) flX11_13 (pc := 154) dX11_hasBy_154 <|
pw_iload (pc := 157) dX11_hasBy_157 0 rfl <|
pw_iload_n (pc := 159) dX11_hasBy_159 3 rfl <|
pw_callS_rz (n := 3) (rest := [.int v9]) (tX11_isRound K.2.1 G pw_r73 v10 a1 m7) miX11_isRound mlX11_101 (pc := 160) dX11_hasBy_160 rfl rfl (by decide) (Nat.le_of_ble_eq_true rfl) fun y13 =>
pw_jn (fun (k17 : Int32 → Option (Int32 × pw_Mem)) => ∀ (w14 : Int32), PW K G RX11 cX11_hasBy 9 (some .int) 3 (pw_MQ K G pw_Wi) (k17 w14) 192 [(8, .int v10), (0, .ref (pw_ad G 71)), (1, .int a1), (2, .int a2)] [.int w14, .int v9] m7) (fun w14 => pw_isub (pc := 192) dX11_hasBy_192 <|
pw_ltI fun x15 => pw_istore [(7, .int x15), (8, .int v10), (0, .ref (pw_ad G 71)), (1, .int a1), (2, .int a2)] (pc := 193) dX11_hasBy_193 (by decide) rfl <|
pw_ltA fun x16 hxx16 => pw_iinc (v := x16) [(8, .int x16), (7, .int x15), (0, .ref (pw_ad G 71)), (1, .int a1), (2, .int a2)] (pc := 195) dX11_hasBy_195 1 rfl (by rw [hxx16]; rfl) (by decide) rfl <|
pw_goto (tgt := 140) (pc := 198) dX11_hasBy_198 (by decide) <|
hn12 x15 x16) (fun k17 hk18 => pw_jn (fun (k19 : Option (Int32 × pw_Mem)) => PW K G RX11 cX11_hasBy 9 (some .int) 3 (pw_MQ K G pw_Wi) k19 191 [(8, .int v10), (0, .ref (pw_ad G 71)), (1, .int a1), (2, .int a2)] [.int v9] m7) (pw_iconst (v := 0) (pc := 191) dX11_hasBy_191 (by decide) <|
hk18 (0 : Int32)) (fun k19 hk20 => pw_ifz_eq (tgt := 191) (pc := 163) dX11_hasBy_163 (by decide) (fun h25 => pw_aload_n (pc := 166) dX11_hasBy_166 2 rfl <|
pw_getR (o := 71) (k := 1) (t := 73) (pw_sh_71) cfX11 rfl (by decide) flX11_13 (pc := 167) dX11_hasBy_167 <|
pw_iload (pc := 170) dX11_hasBy_170 0 rfl <|
pw_iload_n (pc := 172) dX11_hasBy_172 4 rfl <|
pw_callS_rz (n := 3) (rest := [.int v9]) (tX11_isRound K.2.1 G pw_r73 v10 a2 m7) miX11_isRound mlX11_101 (pc := 173) dX11_hasBy_173 rfl rfl (by decide) (Nat.le_of_ble_eq_true rfl) fun y21 =>
pw_ifz_eq (tgt := 191) (pc := 176) dX11_hasBy_176 (by decide) (fun h23 => pw_aload_n (pc := 179) dX11_hasBy_179 2 rfl <|
pw_getR (o := 71) (k := 1) (t := 73) (pw_sh_71) cfX11 rfl (by decide) flX11_13 (pc := 180) dX11_hasBy_180 <|
pw_iload (pc := 183) dX11_hasBy_183 0 rfl <|
pw_callS_ri (n := 2) (rest := [.int v9]) (tX11_pull K.2.1 G pw_r73 v10 m7) miX11_pull mlX11_105 (pc := 185) dX11_hasBy_185 rfl rfl (by decide) (Nat.le_of_ble_eq_true rfl) fun y22 =>
pw_goto (tgt := 192) (pc := 188) dX11_hasBy_188 (by decide) <|
pw_sub [0, 2, 3, 4] rfl <| hk18 y22) (fun h24 => pw_sub [0, 2, 3, 4] rfl <| hk20)) (fun h26 => pw_sub [0, 2, 3, 4] rfl <| hk20))))) FU w8 (0 : Int32)) (fun k30 hk31 => pw_jn (fun (k32 : Option (Int32 × pw_Mem)) => PW K G RX11 cX11_hasBy 9 (some .int) 3 (pw_MQ K G pw_Wi) k32 134 [(0, .ref (pw_ad G 71)), (1, .int a1), (2, .int a2)] [] m7) (pw_iconst (v := 0) (pc := 134) dX11_hasBy_134 (by decide) <|
hk31 (0 : Int32)) (fun k32 hk33 => pw_icmp_ne  (tgt := 134) (pc := 122) dX11_hasBy_122 (by decide) (fun h36 => pw_sub [1, 2, 3] rfl <| hk33) (fun h37 => pw_iload (pc := 125) dX11_hasBy_125 0 rfl <|
pw_ifz_eq (tgt := 134) (pc := 127) dX11_hasBy_127 (by decide) (fun h34 => pw_iconst (v := 3) (pc := 130) dX11_hasBy_130 (by decide) <|
pw_goto (tgt := 135) (pc := 131) dX11_hasBy_131 (by decide) <|
pw_sub [1, 2, 3] rfl <| hk31 (3 : Int32)) (fun h35 => pw_sub [1, 2, 3] rfl <| hk33))))) (fun k38 hk39 => pw_jn (fun (k40 : Option (Int32 × pw_Mem)) => PW K G RX11 cX11_hasBy 9 (some .int) 3 (pw_MQ K G pw_Wi) k40 117 [(6, .int (bI y3)), (0, .ref (pw_ad G 71)), (1, .int a1), (2, .int a2), (3, .int a3)] [.int (m5 73 ((4 : Int32) + a2).toNatClampNeg), .int ((4 : Int32) + a2), .ref (pw_ad G 73)] m5) (pw_iconst (v := 0) (pc := 117) dX11_hasBy_117 (by decide) <|
hk39 (0 : Int32)) (fun k40 hk41 => pw_icmp_ne  (tgt := 117) (pc := 92) dX11_hasBy_92 (by decide) (fun h45 => pw_sub [0, 2, 3, 4, 5] rfl <| hk41) (fun h46 => pw_aload_n (pc := 95) dX11_hasBy_95 2 rfl <|
pw_getR (o := 71) (k := 0) (t := 72) (pw_sh_71) cfX11 rfl (by decide) flX11_9 (pc := 96) dX11_hasBy_96 <|
pw_iconst (v := 4) (pc := 99) dX11_hasBy_99 (by decide) <|
pw_iload_n (pc := 100) dX11_hasBy_100 4 rfl <|
pw_iadd (pc := 101) dX11_hasBy_101 <|
pw_iald (pw_shRow pw_r72) (pc := 102) dX11_hasBy_102 <|
pw_iload (pc := 103) dX11_hasBy_103 1 rfl <|
pw_isub (pc := 105) dX11_hasBy_105 <|
pw_callS_rz (n := 1) (rest := [.int (m5 73 ((4 : Int32) + a2).toNatClampNeg), .int ((4 : Int32) + a2), .ref (pw_ad G 73)]) (tX11_isPlace K.2.1 G ((m5 72 ((4 : Int32) + a2).toNatClampNeg) - w2) m5) miX11_isPlace mlX11_144 (pc := 106) dX11_hasBy_106 rfl rfl (by decide) (Nat.le_of_ble_eq_true rfl) fun y42 =>
pw_ifz_eq (tgt := 117) (pc := 109) dX11_hasBy_109 (by decide) (fun h43 => pw_iload (pc := 112) dX11_hasBy_112 1 rfl <|
pw_goto (tgt := 118) (pc := 114) dX11_hasBy_114 (by decide) <|
pw_sub [0, 2, 3, 4, 5] rfl <| hk39 w2) (fun h44 => pw_sub [0, 2, 3, 4, 5] rfl <| hk41))))) (fun k47 hk48 => pw_jn (fun (k49 : Option (Int32 × pw_Mem)) => PW K G RX11 cX11_hasBy 9 (some .int) 3 (pw_MQ K G pw_Wi) k49 77 [(6, .int (bI y3)), (5, .int w2), (0, .ref (pw_ad G 71)), (1, .int a1), (2, .int a2), (3, .int a3), (4, .int a4)] [.int (m1 73 ((4 : Int32) + a1).toNatClampNeg), .int ((4 : Int32) + a1), .ref (pw_ad G 73)] m1) (pw_iconst (v := 0) (pc := 77) dX11_hasBy_77 (by decide) <|
hk48 (0 : Int32)) (fun k49 hk50 => pw_icmp_ne  (tgt := 77) (pc := 64) dX11_hasBy_64 (by decide) (fun h53 => hk50) (fun h54 => pw_iload (pc := 67) dX11_hasBy_67 0 rfl <|
pw_ifz_eq (tgt := 77) (pc := 69) dX11_hasBy_69 (by decide) (fun h51 => pw_iload (pc := 72) dX11_hasBy_72 1 rfl <|
pw_goto (tgt := 78) (pc := 74) dX11_hasBy_74 (by decide) <|
hk48 w2) (fun h52 => hk50))))) (fun k55 hk56 => pw_icmp_ge  (tgt := 34) (pc := 27) dX11_hasBy_27 (by decide) (fun h57 => pw_iconst (v := 1) (pc := 34) dX11_hasBy_34 (by decide) <|
hk56 (1 : Int32)) (fun h58 => pw_iconst (v := -1) (pc := 30) dX11_hasBy_30 (by decide) <|
pw_goto (tgt := 35) (pc := 31) dX11_hasBy_31 (by decide) <|
hk56 (-1 : Int32))))
set_option maxHeartbeats 4000000 in
theorem tX11_two (l : Launch) (G : pw_G) (a1 : Int32) (a2 : Int32) (m0 : pw_Mem) : PMet l G yX11_two cX11_two 6 (some .int) 4 [.ref (pw_ad G 71), .int a1, .int a2] m0 pw_Wi (fX11_two a1 a2 m0) :=
  pw_met (own := RX11) (l0 := [(0, .ref (pw_ad G 71)), (1, .int a1), (2, .int a2)]) rfl (by decide) rfl (Nat.le_of_ble_eq_true rfl) fun K hK hH => by
  delta fX11_two
  exact (pw_aload_n (pc := 0) dX11_two_0 0 rfl <|
pw_iload_n (pc := 1) dX11_two_1 1 rfl <|
pw_iload_n (pc := 2) dX11_two_2 2 rfl <|
pw_callV_rz (n := 2) (rest := []) (tX11_areTwo K.2.1 G a1 a2 m0) (pw_sh_71) cfX11 rfl miX11_areTwo mlX11_151 (pc := 3) dX11_two_3 rfl rfl (by decide) (Nat.le_of_ble_eq_true rfl) fun y1 =>
pw_ifz_ne (tgt := 11) (pc := 6) dX11_two_6 (by decide) (fun h29 => pw_aload_n (pc := 11) dX11_two_11 0 rfl <|
pw_getR (o := 71) (k := 0) (t := 72) (pw_sh_71) cfX11 rfl (by decide) flX11_9 (pc := 12) dX11_two_12 <|
pw_iconst (v := 4) (pc := 15) dX11_two_15 (by decide) <|
pw_iload_n (pc := 16) dX11_two_16 1 rfl <|
pw_iadd (pc := 17) dX11_two_17 <|
pw_iald (pw_shRow pw_r72) (pc := 18) dX11_two_18 <|
pw_aload_n (pc := 19) dX11_two_19 0 rfl <|
pw_getR (o := 71) (k := 0) (t := 72) (pw_sh_71) cfX11 rfl (by decide) flX11_9 (pc := 20) dX11_two_20 <|
pw_iconst (v := 4) (pc := 23) dX11_two_23 (by decide) <|
pw_iload_n (pc := 24) dX11_two_24 2 rfl <|
pw_iadd (pc := 25) dX11_two_25 <|
pw_iald (pw_shRow pw_r72) (pc := 26) dX11_two_26 <|
pw_icmp_ne  (tgt := 33) (pc := 27) dX11_two_27 (by decide) (fun h27 => pw_iconst (v := 0) (pc := 33) dX11_two_33 (by decide) <|
pw_istore_n [(3, .int (0 : Int32)), (0, .ref (pw_ad G 71)), (1, .int a1), (2, .int a2)] (pc := 34) dX11_two_34 (by decide) rfl <|
pw_lp (fun (kk26 : Int32 → pw_Mem → Option (Int32 × pw_Mem)) => ∀ (v2 : Int32) (m3 : pw_Mem), PW K G RX11 cX11_two 6 (some .int) 4 (pw_MQ K G pw_Wi) (kk26 v2 m3) 35 [(3, .int v2), (0, .ref (pw_ad G 71)), (1, .int a1), (2, .int a2)] [] m3) (fun _ _ => pw_none) (fun nx4 hn5 v2 m3 => pw_iload_n (pc := 35) dX11_two_35 0 rfl <|
pw_iconst (v := 4) (pc := 36) dX11_two_36 (by decide) <|
pw_icmp_ge  (tgt := 115) (pc := 37) dX11_two_37 (by decide) (fun h24 => pw_bipush (v := -4) (pc := 115) dX11_two_115 (by decide) <|
pw_iret (a := (-4 : Int32)) (v := ((-4 : Int32), m3)) hH rfl (pc := 117) dX11_two_117) (fun h25 => pw_iload_n (pc := 40) dX11_two_40 0 rfl <|
pw_iconst (v := 2) (pc := 41) dX11_two_41 (by decide) <|
pw_idiv (pc := 42) dX11_two_42 (by decide) <|
pw_ltI fun x6 => pw_istore [(4, .int x6), (3, .int v2), (0, .ref (pw_ad G 71)), (1, .int a1), (2, .int a2)] (pc := 43) dX11_two_43 (by decide) rfl <|
pw_iload_n (pc := 45) dX11_two_45 1 rfl <|
pw_iconst (v := 2) (pc := 46) dX11_two_46 (by decide) <|
pw_irem (pc := 47) dX11_two_47 (by decide) <|
pw_ltI fun x7 => pw_istore [(5, .int x7), (4, .int x6), (3, .int v2), (0, .ref (pw_ad G 71)), (1, .int a1), (2, .int a2)] (pc := 48) dX11_two_48 (by decide) rfl <|
pw_aload_n (pc := 50) dX11_two_50 3 rfl <|
pw_iload_n (pc := 51) dX11_two_51 4 rfl <|
pw_iload_n (pc := 52) dX11_two_52 5 rfl <|
pw_iconst (v := 1) (pc := 53) dX11_two_53 (by decide) <|
pw_iload (pc := 54) dX11_two_54 1 rfl <|
pw_isub (pc := 56) dX11_two_56 <|
pw_iload (pc := 57) dX11_two_57 0 rfl <|
pw_callV_wi (n := 4) (rest := []) (tX11_hasBy K.2.1 G a1 a2 ((1 : Int32) - x6) x7 m3) (pw_sh_71) cfX11 rfl miX11_hasBy mlX11_231 (pc := 59) dX11_two_59 rfl rfl (by decide) (Nat.le_of_ble_eq_true rfl) fun y8 m9 =>
pw_aload_n (pc := 62) dX11_two_62 3 rfl <|
pw_iload_n (pc := 63) dX11_two_63 4 rfl <|
pw_iload_n (pc := 64) dX11_two_64 5 rfl <|
pw_iload (pc := 65) dX11_two_65 1 rfl <|
pw_iload (pc := 67) dX11_two_67 0 rfl <|
pw_callV_wi (n := 4) (rest := [.int y8]) (tX11_hasBy K.2.1 G a1 a2 x6 x7 m9) (pw_sh_71) cfX11 rfl miX11_hasBy mlX11_231 (pc := 69) dX11_two_69 rfl rfl (by decide) (Nat.le_of_ble_eq_true rfl) fun y10 m11 =>
pw_jn (fun (k14 : pw_Mem → Option (Int32 × pw_Mem)) => ∀ (m12 : pw_Mem), PW K G RX11 cX11_two 6 (some .int) 4 (pw_MQ K G pw_Wi) (k14 m12) 109 [(3, .int v2), (0, .ref (pw_ad G 71)), (1, .int a1), (2, .int a2)] [] m12) (fun m12 => pw_ltA fun x13 hxx13 => pw_iinc (v := x13) [(3, .int x13), (0, .ref (pw_ad G 71)), (1, .int a1), (2, .int a2)] (pc := 109) dX11_two_109 0 rfl (by rw [hxx13]; rfl) (by decide) rfl <|
pw_goto (tgt := 35) (pc := 112) dX11_two_112 (by decide) <|
hn5 x13 m12) (fun k14 hk15 => pw_icmp_gt  (tgt := 109) (pc := 72) dX11_two_72 (by decide) (fun h22 => pw_sub [2, 3, 4, 5] rfl <| hk15 m11) (fun h23 => pw_aload_n (pc := 75) dX11_two_75 3 rfl <|
pw_iload_n (pc := 76) dX11_two_76 5 rfl <|
pw_iload_n (pc := 77) dX11_two_77 4 rfl <|
pw_iconst (v := 1) (pc := 78) dX11_two_78 (by decide) <|
pw_iload (pc := 79) dX11_two_79 0 rfl <|
pw_isub (pc := 81) dX11_two_81 <|
pw_iload (pc := 82) dX11_two_82 1 rfl <|
pw_callV_wi (n := 4) (rest := []) (tX11_hasBy K.2.1 G a2 a1 ((1 : Int32) - x7) x6 m11) (pw_sh_71) cfX11 rfl miX11_hasBy mlX11_231 (pc := 84) dX11_two_84 rfl rfl (by decide) (Nat.le_of_ble_eq_true rfl) fun y16 m17 =>
pw_aload_n (pc := 87) dX11_two_87 3 rfl <|
pw_iload_n (pc := 88) dX11_two_88 5 rfl <|
pw_iload_n (pc := 89) dX11_two_89 4 rfl <|
pw_iload (pc := 90) dX11_two_90 0 rfl <|
pw_iload (pc := 92) dX11_two_92 1 rfl <|
pw_callV_wi (n := 4) (rest := [.int y16]) (tX11_hasBy K.2.1 G a2 a1 x7 x6 m17) (pw_sh_71) cfX11 rfl miX11_hasBy mlX11_231 (pc := 94) dX11_two_94 rfl rfl (by decide) (Nat.le_of_ble_eq_true rfl) fun y18 m19 =>
pw_icmp_gt  (tgt := 109) (pc := 97) dX11_two_97 (by decide) (fun h20 => pw_sub [2, 3, 4, 5] rfl <| hk15 m19) (fun h21 => pw_bipush (v := 10) (pc := 100) dX11_two_100 (by decide) <|
pw_iload (pc := 102) dX11_two_102 1 rfl <|
pw_imul (pc := 104) dX11_two_104 <|
pw_iload (pc := 105) dX11_two_105 0 rfl <|
pw_iadd (pc := 107) dX11_two_107 <|
pw_iret (a := (((10 : Int32) * x6) + x7)) (v := (((10 : Int32) * x6) + x7, m19)) hH rfl (pc := 108) dX11_two_108))))) FU (0 : Int32) m0) (fun h28 => pw_bipush (v := -3) (pc := 30) dX11_two_30 (by decide) <|
pw_iret (a := (-3 : Int32)) (v := ((-3 : Int32), m0)) hH rfl (pc := 32) dX11_two_32)) (fun h30 => pw_iconst (v := -1) (pc := 9) dX11_two_9 (by decide) <|
pw_iret (a := (-1 : Int32)) (v := ((-1 : Int32), m0)) hH rfl (pc := 10) dX11_two_10))
set_option maxHeartbeats 4000000 in
theorem tX11_gcd (l : Launch) (G : pw_G) (a1 : Int64) (a2 : Int64) (m0 : pw_Mem) : PMet l G yX11_gcd cX11_gcd 10 (some .long) 0 [.long a1, .long a2] m0 (pw_Rl m0) (fX11_gcd a1 a2 m0) :=
  pw_met (own := RX11) (l0 := [(0, .long a1), (2, .long a2)]) rfl (by decide) rfl (Nat.le_of_ble_eq_true rfl) fun K hK hH => by
  delta fX11_gcd
  exact (pw_lload_n (pc := 0) dX11_gcd_0 0 rfl <|
pw_lstore [(4, .long a1), (0, .long a1), (2, .long a2)] (pc := 1) dX11_gcd_1 (by decide) rfl <|
pw_lload_n (pc := 3) dX11_gcd_3 2 rfl <|
pw_lstore [(6, .long a2), (4, .long a1), (0, .long a1), (2, .long a2)] (pc := 4) dX11_gcd_4 (by decide) rfl <|
pw_sub [0, 1] rfl <| pw_lp (fun (kk9 : Int64 → Int64 → Option Int64) => ∀ (v1 : Int64) (v2 : Int64), PW K G RX11 cX11_gcd 10 (some .long) 0 (pw_MQ K G (pw_Rl m0)) (kk9 v1 v2) 6 [(6, .long v2), (4, .long v1)] [] m0) (fun _ _ => pw_none) (fun nx3 hn4 v1 v2 => pw_lload (pc := 6) dX11_gcd_6 0 rfl <|
pw_lconst (v := 0) (pc := 8) dX11_gcd_8 rfl <|
pw_lcmp (pc := 9) dX11_gcd_9 <|
pw_if_eq (a := (lg_cmp v2 (0 : Int64))) (b := 0) (tgt := 31) (pc := 10) dX11_gcd_10 (by decide) (fun h7 => pw_lload (pc := 31) dX11_gcd_31 1 rfl <|
pw_lret hH rfl (pc := 33) dX11_gcd_33) (fun h8 => pw_lload (pc := 13) dX11_gcd_13 1 rfl <|
pw_lload (pc := 15) dX11_gcd_15 0 rfl <|
pw_gd fun h5 => pw_lrem (pc := 17) dX11_gcd_17 h5 <|
pw_ltL fun x6 => pw_lstore [(8, .long x6), (6, .long v2), (4, .long v1)] (pc := 18) dX11_gcd_18 (by decide) rfl <|
pw_lload (pc := 20) dX11_gcd_20 1 rfl <|
pw_lstore [(4, .long v2), (8, .long x6), (6, .long v2)] (pc := 22) dX11_gcd_22 (by decide) rfl <|
pw_lload (pc := 24) dX11_gcd_24 1 rfl <|
pw_lstore [(6, .long x6), (4, .long v2), (8, .long x6)] (pc := 26) dX11_gcd_26 (by decide) rfl <|
pw_goto (tgt := 6) (pc := 28) dX11_gcd_28 (by decide) <|
pw_sub [0, 1] rfl <| hn4 v2 x6)) FU a1 a2)
set_option maxHeartbeats 4000000 in
theorem tX11_partOf (l : Launch) (G : pw_G) (a1 : Int64) (a2 : Int64) (a3 : Int32) (m0 : pw_Mem) : PMet l G yX11_partOf cX11_partOf 5 (some .long) 1 [.long a1, .long a2, .int a3] m0 (pw_Rl m0) (fX11_partOf a1 a2 a3 m0) :=
  pw_met (own := RX11) (l0 := [(0, .long a1), (2, .long a2), (4, .int a3)]) rfl (by decide) rfl (Nat.le_of_ble_eq_true rfl) fun K hK hH => by
  delta fX11_partOf
  exact (pw_lload_n (pc := 0) dX11_partOf_0 0 rfl <|
pw_lconst (v := 0) (pc := 1) dX11_partOf_1 rfl <|
pw_lcmp (pc := 2) dX11_partOf_2 <|
pw_if_ne (a := (lg_cmp a1 (0 : Int64))) (b := 0) (tgt := 10) (pc := 3) dX11_partOf_3 (by decide) (fun h7 => pw_iload (pc := 10) dX11_partOf_10 2 rfl <|
pw_if_ne (a := a3) (b := 0) (tgt := 19) (pc := 12) dX11_partOf_12 (by decide) (fun h5 => pw_lload_n (pc := 19) dX11_partOf_19 1 rfl <|
pw_lload_n (pc := 20) dX11_partOf_20 0 rfl <|
pw_lload_n (pc := 21) dX11_partOf_21 1 rfl <|
pw_callS_rl (n := 2) (rest := [.long a2]) (tX11_gcd K.2.1 G a1 a2 m0) miX11_gcd mlX11_235 (pc := 22) dX11_partOf_22 rfl rfl (by decide) (Nat.le_of_ble_eq_true rfl) fun y1 =>
pw_gd fun h2 => pw_ldiv (pc := 25) dX11_partOf_25 h2 <|
pw_lret hH rfl (pc := 26) dX11_partOf_26) (fun h6 => pw_lload_n (pc := 15) dX11_partOf_15 0 rfl <|
pw_goto (tgt := 20) (pc := 16) dX11_partOf_16 (by decide) <|
pw_lload_n (pc := 20) dX11_partOf_20 0 rfl <|
pw_lload_n (pc := 21) dX11_partOf_21 1 rfl <|
pw_callS_rl (n := 2) (rest := [.long a1]) (tX11_gcd K.2.1 G a1 a2 m0) miX11_gcd mlX11_235 (pc := 22) dX11_partOf_22 rfl rfl (by decide) (Nat.le_of_ble_eq_true rfl) fun y3 =>
pw_gd fun h4 => pw_ldiv (pc := 25) dX11_partOf_25 h4 <|
pw_lret hH rfl (pc := 26) dX11_partOf_26)) (fun h8 => pw_iload (pc := 6) dX11_partOf_6 2 rfl <|
pw_i2l (pc := 8) dX11_partOf_8 <|
pw_lret hH rfl (pc := 9) dX11_partOf_9))
set_option maxHeartbeats 4000000 in
theorem tX11_night (l : Launch) (G : pw_G) (a1 : Int32) (a2 : Int32) (a3 : Int32) (a4 : Int32) (m0 : pw_Mem) : PMet l G yX11_night cX11_night 14 (some .long) 4 [.ref (pw_ad G 71), .int a1, .int a2, .int a3, .int a4] m0 (pw_Rl m0) (fX11_night a1 a2 a3 a4 m0) :=
  pw_met (own := RX11) (l0 := [(0, .ref (pw_ad G 71)), (1, .int a1), (2, .int a2), (3, .int a3), (4, .int a4)]) rfl (by decide) rfl (Nat.le_of_ble_eq_true rfl) fun K hK hH => by
  delta fX11_night
  exact (pw_aload_n (pc := 0) dX11_night_0 0 rfl <|
pw_iload_n (pc := 1) dX11_night_1 1 rfl <|
pw_iload_n (pc := 2) dX11_night_2 2 rfl <|
pw_callV_rz (n := 2) (rest := []) (tX11_areTwo K.2.1 G a1 a2 m0) (pw_sh_71) cfX11 rfl miX11_areTwo mlX11_151 (pc := 3) dX11_night_3 rfl rfl (by decide) (Nat.le_of_ble_eq_true rfl) fun y1 =>
pw_ifz_eq (tgt := 29) (pc := 6) dX11_night_6 (by decide) (fun h48 => pw_iload_n (pc := 9) dX11_night_9 3 rfl <|
pw_iconst (v := 2) (pc := 10) dX11_night_10 (by decide) <|
pw_bipush (v := 20) (pc := 11) dX11_night_11 (by decide) <|
pw_callS_rz (n := 3) (rest := []) (tX11_isIn K.2.1 G a3 (2 : Int32) (20 : Int32) m0) miX11_isIn mlX11_52 (pc := 13) dX11_night_13 rfl rfl (by decide) (Nat.le_of_ble_eq_true rfl) fun y2 =>
pw_ifz_eq (tgt := 29) (pc := 16) dX11_night_16 (by decide) (fun h46 => pw_iload (pc := 19) dX11_night_19 4 rfl <|
pw_iconst (v := 0) (pc := 21) dX11_night_21 (by decide) <|
pw_iconst (v := 1) (pc := 22) dX11_night_22 (by decide) <|
pw_callS_rz (n := 3) (rest := []) (tX11_isIn K.2.1 G a4 (0 : Int32) (1 : Int32) m0) miX11_isIn mlX11_52 (pc := 23) dX11_night_23 rfl rfl (by decide) (Nat.le_of_ble_eq_true rfl) fun y3 =>
pw_ifz_ne (tgt := 33) (pc := 26) dX11_night_26 (by decide) (fun h44 => pw_aload_n (pc := 33) dX11_night_33 0 rfl <|
pw_getR (o := 71) (k := 0) (t := 72) (pw_sh_71) cfX11 rfl (by decide) flX11_9 (pc := 34) dX11_night_34 <|
pw_callS_ri (n := 1) (rest := []) (tX11_wholeSet K.2.1 G pw_r72 m0) miX11_wholeSet mlX11_212 (pc := 37) dX11_night_37 rfl rfl (by decide) (Nat.le_of_ble_eq_true rfl) fun y4 =>
pw_istore [(5, .int y4), (0, .ref (pw_ad G 71)), (1, .int a1), (2, .int a2), (3, .int a3), (4, .int a4)] (pc := 40) dX11_night_40 (by decide) rfl <|
pw_lconst (v := 0) (pc := 42) dX11_night_42 rfl <|
pw_lstore [(6, .long (0 : Int64)), (5, .int y4), (0, .ref (pw_ad G 71)), (1, .int a1), (2, .int a2), (3, .int a3), (4, .int a4)] (pc := 43) dX11_night_43 (by decide) rfl <|
pw_lconst (v := 1) (pc := 45) dX11_night_45 rfl <|
pw_lstore [(8, .long (1 : Int64)), (6, .long (0 : Int64)), (5, .int y4), (0, .ref (pw_ad G 71)), (1, .int a1), (2, .int a2), (3, .int a3), (4, .int a4)] (pc := 46) dX11_night_46 (by decide) rfl <|
pw_iconst (v := 0) (pc := 48) dX11_night_48 (by decide) <|
pw_istore [(10, .int (0 : Int32)), (8, .long (1 : Int64)), (6, .long (0 : Int64)), (5, .int y4), (0, .ref (pw_ad G 71)), (1, .int a1), (2, .int a2), (3, .int a3), (4, .int a4)] (pc := 49) dX11_night_49 (by decide) rfl <|
pw_lp (fun (kk43 : Int64 → Int32 → Option Int64) => ∀ (v5 : Int64) (v6 : Int32), PW K G RX11 cX11_night 14 (some .long) 4 (pw_MQ K G (pw_Rl m0)) (kk43 v5 v6) 51 [(10, .int v6), (8, .long v5), (6, .long (0 : Int64)), (5, .int y4), (0, .ref (pw_ad G 71)), (1, .int a1), (2, .int a2), (3, .int a3), (4, .int a4)] [] m0) (fun _ _ => pw_none) (fun nx7 hn8 v5 v6 => pw_iload (pc := 51) dX11_night_51 0 rfl <|
pw_iload (pc := 53) dX11_night_53 3 rfl <|
pw_callS_ri (n := 1) (rest := [.int v6]) (tX11_bits K.2.1 G y4 m0) miX11_bits mlX11_180 (pc := 55) dX11_night_55 rfl rfl (by decide) (Nat.le_of_ble_eq_true rfl) fun y9 =>
pw_icmp_ge  (tgt := 74) (pc := 58) dX11_night_58 (by decide) (fun h41 => pw_iconst (v := 0) (pc := 74) dX11_night_74 (by decide) <|
pw_istore [(10, .int (0 : Int32)), (8, .long v5), (6, .long (0 : Int64)), (5, .int y4), (0, .ref (pw_ad G 71)), (1, .int a1), (2, .int a2), (3, .int a3), (4, .int a4)] (pc := 75) dX11_night_75 (by decide) rfl <|
pw_lp (fun (kk38 : Int64 → Int32 → Option Int64) => ∀ (v10 : Int64) (v11 : Int32), PW K G RX11 cX11_night 14 (some .long) 4 (pw_MQ K G (pw_Rl m0)) (kk38 v10 v11) 77 [(10, .int v11), (8, .long v5), (6, .long v10), (5, .int y4), (0, .ref (pw_ad G 71)), (1, .int a1), (2, .int a2), (3, .int a3), (4, .int a4)] [] m0) (fun _ _ => pw_none) (fun nx12 hn13 v10 v11 => pw_iload (pc := 77) dX11_night_77 0 rfl <|
pw_iload (pc := 79) dX11_night_79 3 rfl <|
pw_icmp_gt  (tgt := 155) (pc := 81) dX11_night_81 (by decide) (fun h36 => pw_lload (pc := 155) dX11_night_155 2 rfl <|
pw_lload (pc := 157) dX11_night_157 1 rfl <|
pw_iload (pc := 159) dX11_night_159 8 rfl <|
pw_callS_rl (n := 3) (rest := []) (tX11_partOf K.2.1 G v10 v5 a4 m0) miX11_partOf mlX11_241 (pc := 161) dX11_night_161 rfl rfl (by decide) (Nat.le_of_ble_eq_true rfl) fun y14 =>
pw_lret hH rfl (pc := 164) dX11_night_164) (fun h37 => pw_iload (pc := 84) dX11_night_84 0 rfl <|
pw_iload (pc := 86) dX11_night_86 3 rfl <|
pw_iconst (v := -1) (pc := 88) dX11_night_88 (by decide) <|
pw_ixor (pc := 89) dX11_night_89 <|
pw_iand (pc := 90) dX11_night_90 <|
pw_jn (fun (k17 : Int64 → Option Int64) => ∀ (v15 : Int64), PW K G RX11 cX11_night 14 (some .long) 4 (pw_MQ K G (pw_Rl m0)) (k17 v15) 149 [(10, .int v11), (8, .long v5), (6, .long v15), (5, .int y4), (0, .ref (pw_ad G 71)), (1, .int a1), (2, .int a2), (3, .int a3), (4, .int a4)] [] m0) (fun v15 => pw_ltA fun x16 hxx16 => pw_iinc (v := x16) [(10, .int x16), (8, .long v5), (6, .long v15), (5, .int y4), (0, .ref (pw_ad G 71)), (1, .int a1), (2, .int a2), (3, .int a3), (4, .int a4)] (pc := 149) dX11_night_149 0 rfl (by rw [hxx16]; rfl) (by decide) rfl <|
pw_goto (tgt := 77) (pc := 152) dX11_night_152 (by decide) <|
hn13 v15 x16) (fun k17 hk18 => pw_if_ne (a := (v11 &&& (y4 ^^^ (-1 : Int32)))) (b := 0) (tgt := 149) (pc := 91) dX11_night_91 (by decide) (fun h34 => hk18 v10) (fun h35 => pw_aload_n (pc := 94) dX11_night_94 4 rfl <|
pw_iload_n (pc := 95) dX11_night_95 5 rfl <|
pw_iload (pc := 96) dX11_night_96 0 rfl <|
pw_callV_ri (n := 2) (rest := []) (tX11_clanOf K.2.1 G a1 v11 m0) (pw_sh_71) cfX11 rfl miX11_clanOf mlX11_218 (pc := 98) dX11_night_98 rfl rfl (by decide) (Nat.le_of_ble_eq_true rfl) fun y19 =>
pw_iload_n (pc := 101) dX11_night_101 6 rfl <|
pw_callS_rz (n := 2) (rest := []) (tX11_has K.2.1 G y19 a2 m0) miX11_has mlX11_93 (pc := 102) dX11_night_102 rfl rfl (by decide) (Nat.le_of_ble_eq_true rfl) fun y20 =>
pw_ifz_ne (tgt := 111) (pc := 105) dX11_night_105 (by decide) (fun h32 => pw_lconst (v := 1) (pc := 111) dX11_night_111 rfl <|
pw_lstore [(11, .long (1 : Int64)), (10, .int v11), (8, .long v5), (6, .long v10), (5, .int y4), (0, .ref (pw_ad G 71)), (1, .int a1), (2, .int a2), (3, .int a3), (4, .int a4)] (pc := 112) dX11_night_112 (by decide) rfl <|
pw_iconst (v := 0) (pc := 114) dX11_night_114 (by decide) <|
pw_istore [(13, .int (0 : Int32)), (11, .long (1 : Int64)), (10, .int v11), (8, .long v5), (6, .long v10), (5, .int y4), (0, .ref (pw_ad G 71)), (1, .int a1), (2, .int a2), (3, .int a3), (4, .int a4)] (pc := 115) dX11_night_115 (by decide) rfl <|
pw_lp (fun (kk31 : Int64 → Int32 → Option Int64) => ∀ (v21 : Int64) (v22 : Int32), PW K G RX11 cX11_night 14 (some .long) 4 (pw_MQ K G (pw_Rl m0)) (kk31 v21 v22) 117 [(13, .int v22), (11, .long v21), (10, .int v11), (8, .long v5), (6, .long v10), (5, .int y4), (0, .ref (pw_ad G 71)), (1, .int a1), (2, .int a2), (3, .int a3), (4, .int a4)] [] m0) (fun _ _ => pw_none) (fun nx23 hn24 v21 v22 => pw_iload (pc := 117) dX11_night_117 0 rfl <|
pw_iload (pc := 119) dX11_night_119 2 rfl <|
pw_callS_ri (n := 1) (rest := [.int v22]) (tX11_bits K.2.1 G v11 m0) miX11_bits mlX11_180 (pc := 121) dX11_night_121 rfl rfl (by decide) (Nat.le_of_ble_eq_true rfl) fun y25 =>
pw_icmp_ge  (tgt := 142) (pc := 124) dX11_night_124 (by decide) (fun h29 => pw_lload (pc := 142) dX11_night_142 4 rfl <|
pw_lload (pc := 144) dX11_night_144 1 rfl <|
pw_ladd (pc := 146) dX11_night_146 <|
pw_ltL fun x26 => pw_lstore [(6, .long x26), (13, .int v22), (11, .long v21), (10, .int v11), (8, .long v5), (5, .int y4), (0, .ref (pw_ad G 71)), (1, .int a1), (2, .int a2), (3, .int a3), (4, .int a4)] (pc := 147) dX11_night_147 (by decide) rfl <|
pw_sub [3, 4, 0, 5, 6, 7, 8, 9, 10] rfl <| hk18 x26) (fun h30 => pw_lload (pc := 127) dX11_night_127 1 rfl <|
pw_iload_n (pc := 129) dX11_night_129 9 rfl <|
pw_iconst (v := 1) (pc := 130) dX11_night_130 (by decide) <|
pw_isub (pc := 131) dX11_night_131 <|
pw_i2l (pc := 132) dX11_night_132 <|
pw_lmul (pc := 133) dX11_night_133 <|
pw_ltL fun x27 => pw_lstore [(11, .long x27), (13, .int v22), (10, .int v11), (8, .long v5), (6, .long v10), (5, .int y4), (0, .ref (pw_ad G 71)), (1, .int a1), (2, .int a2), (3, .int a3), (4, .int a4)] (pc := 134) dX11_night_134 (by decide) rfl <|
pw_ltA fun x28 hxx28 => pw_iinc (v := x28) [(13, .int x28), (11, .long x27), (10, .int v11), (8, .long v5), (6, .long v10), (5, .int y4), (0, .ref (pw_ad G 71)), (1, .int a1), (2, .int a2), (3, .int a3), (4, .int a4)] (pc := 136) dX11_night_136 1 rfl (by rw [hxx28]; rfl) (by decide) rfl <|
pw_goto (tgt := 117) (pc := 139) dX11_night_139 (by decide) <|
hn24 x27 x28)) FU (1 : Int64) (0 : Int32)) (fun h33 => pw_goto (tgt := 149) (pc := 108) dX11_night_108 (by decide) <|
hk18 v10))))) FU (0 : Int64) (0 : Int32)) (fun h42 => pw_lload (pc := 61) dX11_night_61 1 rfl <|
pw_iload_n (pc := 63) dX11_night_63 7 rfl <|
pw_i2l (pc := 64) dX11_night_64 <|
pw_lmul (pc := 65) dX11_night_65 <|
pw_ltL fun x39 => pw_lstore [(8, .long x39), (10, .int v6), (6, .long (0 : Int64)), (5, .int y4), (0, .ref (pw_ad G 71)), (1, .int a1), (2, .int a2), (3, .int a3), (4, .int a4)] (pc := 66) dX11_night_66 (by decide) rfl <|
pw_ltA fun x40 hxx40 => pw_iinc (v := x40) [(10, .int x40), (8, .long x39), (6, .long (0 : Int64)), (5, .int y4), (0, .ref (pw_ad G 71)), (1, .int a1), (2, .int a2), (3, .int a3), (4, .int a4)] (pc := 68) dX11_night_68 1 rfl (by rw [hxx40]; rfl) (by decide) rfl <|
pw_goto (tgt := 51) (pc := 71) dX11_night_71 (by decide) <|
hn8 x39 x40)) FU (1 : Int64) (0 : Int32)) (fun h45 => pw_ldc2 (v := 1000000001) (pc := 29) dX11_night_29 klX11_239 <|
pw_lret hH rfl (pc := 32) dX11_night_32)) (fun h47 => pw_ldc2 (v := 1000000001) (pc := 29) dX11_night_29 klX11_239 <|
pw_lret hH rfl (pc := 32) dX11_night_32)) (fun h49 => pw_ldc2 (v := 1000000001) (pc := 29) dX11_night_29 klX11_239 <|
pw_lret hH rfl (pc := 32) dX11_night_32))
set_option maxHeartbeats 4000000 in
theorem tX11_mean (l : Launch) (G : pw_G) (a1 : Int32) (m0 : pw_Mem) : PMet l G yX11_mean cX11_mean 5 (some .long) 4 [.ref (pw_ad G 71), .int a1] m0 (pw_Rl m0) (fX11_mean a1 m0) :=
  pw_met (own := RX11) (l0 := [(0, .ref (pw_ad G 71)), (1, .int a1)]) rfl (by decide) rfl (Nat.le_of_ble_eq_true rfl) fun K hK hH => by
  delta fX11_mean
  exact (pw_iload_n (pc := 0) dX11_mean_0 1 rfl <|
pw_iconst (v := 0) (pc := 1) dX11_mean_1 (by decide) <|
pw_iconst (v := 1) (pc := 2) dX11_mean_2 (by decide) <|
pw_callS_rz (n := 3) (rest := []) (tX11_isIn K.2.1 G a1 (0 : Int32) (1 : Int32) m0) miX11_isIn mlX11_52 (pc := 3) dX11_mean_3 rfl rfl (by decide) (Nat.le_of_ble_eq_true rfl) fun y1 =>
pw_ifz_ne (tgt := 13) (pc := 6) dX11_mean_6 (by decide) (fun h21 => pw_lconst (v := 0) (pc := 13) dX11_mean_13 rfl <|
pw_lstore_n [(2, .long (0 : Int64)), (0, .ref (pw_ad G 71)), (1, .int a1)] (pc := 14) dX11_mean_14 (by decide) rfl <|
pw_iconst (v := 0) (pc := 15) dX11_mean_15 (by decide) <|
pw_istore [(4, .int (0 : Int32)), (2, .long (0 : Int64)), (0, .ref (pw_ad G 71)), (1, .int a1)] (pc := 16) dX11_mean_16 (by decide) rfl <|
pw_lp (fun (kk20 : Int64 → Int32 → Option Int64) => ∀ (v2 : Int64) (v3 : Int32), PW K G RX11 cX11_mean 5 (some .long) 4 (pw_MQ K G (pw_Rl m0)) (kk20 v2 v3) 18 [(4, .int v3), (2, .long v2), (0, .ref (pw_ad G 71)), (1, .int a1)] [] m0) (fun _ _ => pw_none) (fun nx4 hn5 v2 v3 => pw_iload (pc := 18) dX11_mean_18 0 rfl <|
pw_aload_n (pc := 20) dX11_mean_20 2 rfl <|
pw_getR (o := 71) (k := 0) (t := 72) (pw_sh_71) cfX11 rfl (by decide) flX11_9 (pc := 21) dX11_mean_21 <|
pw_iconst (v := 1) (pc := 24) dX11_mean_24 (by decide) <|
pw_iald (pw_shRow pw_r72) (pc := 25) dX11_mean_25 <|
pw_icmp_ge  (tgt := 64) (pc := 26) dX11_mean_26 (by decide) (fun h18 => pw_lload_n (pc := 64) dX11_mean_64 1 rfl <|
pw_aload_n (pc := 65) dX11_mean_65 2 rfl <|
pw_getR (o := 71) (k := 0) (t := 72) (pw_sh_71) cfX11 rfl (by decide) flX11_9 (pc := 66) dX11_mean_66 <|
pw_callS_ri (n := 1) (rest := [.long v2]) (tX11_wholeSet K.2.1 G pw_r72 m0) miX11_wholeSet mlX11_212 (pc := 69) dX11_mean_69 rfl rfl (by decide) (Nat.le_of_ble_eq_true rfl) fun y6 =>
pw_callS_ri (n := 1) (rest := [.long v2]) (tX11_bits K.2.1 G y6 m0) miX11_bits mlX11_180 (pc := 72) dX11_mean_72 rfl rfl (by decide) (Nat.le_of_ble_eq_true rfl) fun y7 =>
pw_i2l (pc := 75) dX11_mean_75 <|
pw_iload_n (pc := 76) dX11_mean_76 3 rfl <|
pw_callS_rl (n := 3) (rest := []) (tX11_partOf K.2.1 G v2 y7.toInt64 a1 m0) miX11_partOf mlX11_241 (pc := 77) dX11_mean_77 rfl rfl (by decide) (Nat.le_of_ble_eq_true rfl) fun y8 =>
pw_lret hH rfl (pc := 80) dX11_mean_80) (fun h19 => pw_lload_n (pc := 29) dX11_mean_29 1 rfl <|
pw_aload_n (pc := 30) dX11_mean_30 2 rfl <|
pw_getR (o := 71) (k := 0) (t := 72) (pw_sh_71) cfX11 rfl (by decide) flX11_9 (pc := 31) dX11_mean_31 <|
pw_iload (pc := 34) dX11_mean_34 0 rfl <|
pw_callS_rz (n := 2) (rest := [.long v2]) (tX11_isWhole K.2.1 G pw_r72 v3 m0) miX11_isWhole mlX11_69 (pc := 36) dX11_mean_36 rfl rfl (by decide) (Nat.le_of_ble_eq_true rfl) fun y9 =>
pw_jn (fun (k13 : Int64 → Option Int64) => ∀ (w10 : Int64), PW K G RX11 cX11_mean 5 (some .long) 4 (pw_MQ K G (pw_Rl m0)) (k13 w10) 56 [(4, .int v3), (0, .ref (pw_ad G 71)), (1, .int a1)] [.long w10, .long v2] m0) (fun w10 => pw_ladd (pc := 56) dX11_mean_56 <|
pw_ltL fun x11 => pw_lstore_n [(2, .long x11), (4, .int v3), (0, .ref (pw_ad G 71)), (1, .int a1)] (pc := 57) dX11_mean_57 (by decide) rfl <|
pw_ltA fun x12 hxx12 => pw_iinc (v := x12) [(4, .int x12), (2, .long x11), (0, .ref (pw_ad G 71)), (1, .int a1)] (pc := 58) dX11_mean_58 1 rfl (by rw [hxx12]; rfl) (by decide) rfl <|
pw_goto (tgt := 18) (pc := 61) dX11_mean_61 (by decide) <|
hn5 x11 x12) (fun k13 hk14 => pw_ifz_eq (tgt := 55) (pc := 39) dX11_mean_39 (by decide) (fun h16 => pw_aload_n (pc := 42) dX11_mean_42 2 rfl <|
pw_getR (o := 71) (k := 0) (t := 72) (pw_sh_71) cfX11 rfl (by decide) flX11_9 (pc := 43) dX11_mean_43 <|
pw_iload (pc := 46) dX11_mean_46 0 rfl <|
pw_callS_ri (n := 2) (rest := [.long v2]) (tX11_stretch K.2.1 G pw_r72 v3 m0) miX11_stretch mlX11_73 (pc := 48) dX11_mean_48 rfl rfl (by decide) (Nat.le_of_ble_eq_true rfl) fun y15 =>
pw_i2l (pc := 51) dX11_mean_51 <|
pw_goto (tgt := 56) (pc := 52) dX11_mean_52 (by decide) <|
pw_sub [0, 2, 3] rfl <| hk14 y15.toInt64) (fun h17 => pw_lconst (v := 0) (pc := 55) dX11_mean_55 rfl <|
pw_sub [0, 2, 3] rfl <| hk14 (0 : Int64))))) FU (0 : Int64) (0 : Int32)) (fun h22 => pw_ldc2 (v := 1000000001) (pc := 9) dX11_mean_9 klX11_239 <|
pw_lret hH rfl (pc := 12) dX11_mean_12))
set_option maxHeartbeats 4000000 in
theorem tX11_farthest (l : Launch) (G : pw_G) (a1 : Int32) (m0 : pw_Mem) : PMet l G yX11_farthest cX11_farthest 7 (some .int) 1 [.ref (pw_ad G 71), .int a1] m0 (pw_Ri m0) (fX11_farthest a1 m0) :=
  pw_met (own := RX11) (l0 := [(0, .ref (pw_ad G 71)), (1, .int a1)]) rfl (by decide) rfl (Nat.le_of_ble_eq_true rfl) fun K hK hH => by
  delta fX11_farthest
  exact (pw_iload_n (pc := 0) dX11_farthest_0 1 rfl <|
pw_iconst (v := 0) (pc := 1) dX11_farthest_1 (by decide) <|
pw_iconst (v := 1) (pc := 2) dX11_farthest_2 (by decide) <|
pw_callS_rz (n := 3) (rest := []) (tX11_isIn K.2.1 G a1 (0 : Int32) (1 : Int32) m0) miX11_isIn mlX11_52 (pc := 3) dX11_farthest_3 rfl rfl (by decide) (Nat.le_of_ble_eq_true rfl) fun y1 =>
pw_ifz_ne (tgt := 11) (pc := 6) dX11_farthest_6 (by decide) (fun h33 => pw_bipush (v := -4) (pc := 11) dX11_farthest_11 (by decide) <|
pw_istore_n [(2, .int (-4 : Int32)), (0, .ref (pw_ad G 71)), (1, .int a1)] (pc := 13) dX11_farthest_13 (by decide) rfl <|
pw_iconst (v := -1) (pc := 14) dX11_farthest_14 (by decide) <|
pw_istore_n [(3, .int (-1 : Int32)), (2, .int (-4 : Int32)), (0, .ref (pw_ad G 71)), (1, .int a1)] (pc := 15) dX11_farthest_15 (by decide) rfl <|
pw_iconst (v := 0) (pc := 16) dX11_farthest_16 (by decide) <|
pw_istore [(4, .int (0 : Int32)), (3, .int (-1 : Int32)), (2, .int (-4 : Int32)), (0, .ref (pw_ad G 71)), (1, .int a1)] (pc := 17) dX11_farthest_17 (by decide) rfl <|
pw_lp (fun (kk32 : Int32 → Int32 → Int32 → Option Int32) => ∀ (v2 : Int32) (v3 : Int32) (v4 : Int32), PW K G RX11 cX11_farthest 7 (some .int) 1 (pw_MQ K G (pw_Ri m0)) (kk32 v2 v3 v4) 19 [(4, .int v4), (3, .int v3), (2, .int v2), (0, .ref (pw_ad G 71)), (1, .int a1)] [] m0) (fun _ _ _ => pw_none) (fun nx5 hn6 v2 v3 v4 => pw_iload (pc := 19) dX11_farthest_19 0 rfl <|
pw_aload_n (pc := 21) dX11_farthest_21 3 rfl <|
pw_getR (o := 71) (k := 0) (t := 72) (pw_sh_71) cfX11 rfl (by decide) flX11_9 (pc := 22) dX11_farthest_22 <|
pw_iconst (v := 0) (pc := 25) dX11_farthest_25 (by decide) <|
pw_iald (pw_shRow pw_r72) (pc := 26) dX11_farthest_26 <|
pw_icmp_ge  (tgt := 103) (pc := 27) dX11_farthest_27 (by decide) (fun h30 => pw_iload_n (pc := 103) dX11_farthest_103 2 rfl <|
pw_if_lt (a := v2) (b := 0) (tgt := 111) (pc := 104) dX11_farthest_104 (by decide) (fun h9 => pw_iload_n (pc := 111) dX11_farthest_111 2 rfl <|
pw_goto (tgt := 116) (pc := 112) dX11_farthest_112 (by decide) <|
pw_iret (a := v2) (v := v2) hH rfl (pc := 116) dX11_farthest_116) (fun h10 => pw_iload_n (pc := 107) dX11_farthest_107 4 rfl <|
pw_if_ne (a := a1) (b := 0) (tgt := 115) (pc := 108) dX11_farthest_108 (by decide) (fun h7 => pw_iload_n (pc := 115) dX11_farthest_115 1 rfl <|
pw_iret (a := v3) (v := v3) hH rfl (pc := 116) dX11_farthest_116) (fun h8 => pw_iload_n (pc := 111) dX11_farthest_111 2 rfl <|
pw_goto (tgt := 116) (pc := 112) dX11_farthest_112 (by decide) <|
pw_iret (a := v2) (v := v2) hH rfl (pc := 116) dX11_farthest_116))) (fun h31 => pw_iload (pc := 30) dX11_farthest_30 0 rfl <|
pw_iconst (v := 1) (pc := 32) dX11_farthest_32 (by decide) <|
pw_iadd (pc := 33) dX11_farthest_33 <|
pw_ltI fun x11 => pw_istore [(5, .int x11), (4, .int v4), (3, .int v3), (2, .int v2), (0, .ref (pw_ad G 71)), (1, .int a1)] (pc := 34) dX11_farthest_34 (by decide) rfl <|
pw_lp (fun (kk29 : Int32 → Int32 → Int32 → Option Int32) => ∀ (v12 : Int32) (v13 : Int32) (v14 : Int32), PW K G RX11 cX11_farthest 7 (some .int) 1 (pw_MQ K G (pw_Ri m0)) (kk29 v12 v13 v14) 36 [(5, .int v14), (4, .int v4), (3, .int v13), (2, .int v12), (0, .ref (pw_ad G 71)), (1, .int a1)] [] m0) (fun _ _ _ => pw_none) (fun nx15 hn16 v12 v13 v14 => pw_iload (pc := 36) dX11_farthest_36 0 rfl <|
pw_aload_n (pc := 38) dX11_farthest_38 4 rfl <|
pw_getR (o := 71) (k := 0) (t := 72) (pw_sh_71) cfX11 rfl (by decide) flX11_9 (pc := 39) dX11_farthest_39 <|
pw_iconst (v := 0) (pc := 42) dX11_farthest_42 (by decide) <|
pw_iald (pw_shRow pw_r72) (pc := 43) dX11_farthest_43 <|
pw_icmp_ge  (tgt := 97) (pc := 44) dX11_farthest_44 (by decide) (fun h27 => pw_ltA fun x17 hxx17 => pw_iinc (v := x17) [(4, .int x17), (5, .int v14), (3, .int v13), (2, .int v12), (0, .ref (pw_ad G 71)), (1, .int a1)] (pc := 97) dX11_farthest_97 1 rfl (by rw [hxx17]; rfl) (by decide) rfl <|
pw_goto (tgt := 19) (pc := 100) dX11_farthest_100 (by decide) <|
pw_sub [0, 2, 3, 4, 5] rfl <| hn6 v12 v13 x17) (fun h28 => pw_aload_n (pc := 47) dX11_farthest_47 4 rfl <|
pw_getR (o := 71) (k := 0) (t := 72) (pw_sh_71) cfX11 rfl (by decide) flX11_9 (pc := 48) dX11_farthest_48 <|
pw_iconst (v := 4) (pc := 51) dX11_farthest_51 (by decide) <|
pw_iload (pc := 52) dX11_farthest_52 1 rfl <|
pw_iadd (pc := 54) dX11_farthest_54 <|
pw_iald (pw_shRow pw_r72) (pc := 55) dX11_farthest_55 <|
pw_aload_n (pc := 56) dX11_farthest_56 4 rfl <|
pw_getR (o := 71) (k := 0) (t := 72) (pw_sh_71) cfX11 rfl (by decide) flX11_9 (pc := 57) dX11_farthest_57 <|
pw_iconst (v := 4) (pc := 60) dX11_farthest_60 (by decide) <|
pw_iload (pc := 61) dX11_farthest_61 0 rfl <|
pw_iadd (pc := 63) dX11_farthest_63 <|
pw_iald (pw_shRow pw_r72) (pc := 64) dX11_farthest_64 <|
pw_callS_ri (n := 2) (rest := []) (tX11_far K.2.1 G (m0 72 ((4 : Int32) + v4).toNatClampNeg) (m0 72 ((4 : Int32) + v14).toNatClampNeg) m0) miX11_far mlX11_60 (pc := 65) dX11_farthest_65 rfl rfl (by decide) (Nat.le_of_ble_eq_true rfl) fun y18 =>
pw_istore [(6, .int y18), (5, .int v14), (4, .int v4), (3, .int v13), (2, .int v12), (0, .ref (pw_ad G 71)), (1, .int a1)] (pc := 68) dX11_farthest_68 (by decide) rfl <|
pw_iload (pc := 70) dX11_farthest_70 0 rfl <|
pw_iload_n (pc := 72) dX11_farthest_72 3 rfl <|
pw_jn (fun (k22 : Int32 → Int32 → Option Int32) => ∀ (v19 : Int32) (v20 : Int32), PW K G RX11 cX11_farthest 7 (some .int) 1 (pw_MQ K G (pw_Ri m0)) (k22 v19 v20) 91 [(5, .int v14), (4, .int v4), (3, .int v20), (2, .int v19), (0, .ref (pw_ad G 71)), (1, .int a1)] [] m0) (fun v19 v20 => pw_ltA fun x21 hxx21 => pw_iinc (v := x21) [(5, .int x21), (4, .int v4), (3, .int v20), (2, .int v19), (0, .ref (pw_ad G 71)), (1, .int a1)] (pc := 91) dX11_farthest_91 0 rfl (by rw [hxx21]; rfl) (by decide) rfl <|
pw_goto (tgt := 36) (pc := 94) dX11_farthest_94 (by decide) <|
hn16 v19 v20 x21) (fun k22 hk23 => pw_icmp_gt  (tgt := 79) (pc := 73) dX11_farthest_73 (by decide) (fun h25 => pw_bipush (v := 10) (pc := 79) dX11_farthest_79 (by decide) <|
pw_iload (pc := 81) dX11_farthest_81 2 rfl <|
pw_imul (pc := 83) dX11_farthest_83 <|
pw_iload (pc := 84) dX11_farthest_84 1 rfl <|
pw_iadd (pc := 86) dX11_farthest_86 <|
pw_ltI fun x24 => pw_istore_n [(2, .int x24), (6, .int y18), (5, .int v14), (4, .int v4), (3, .int v13), (0, .ref (pw_ad G 71)), (1, .int a1)] (pc := 87) dX11_farthest_87 (by decide) rfl <|
pw_iload (pc := 88) dX11_farthest_88 1 rfl <|
pw_istore_n [(3, .int y18), (2, .int x24), (6, .int y18), (5, .int v14), (4, .int v4), (0, .ref (pw_ad G 71)), (1, .int a1)] (pc := 90) dX11_farthest_90 (by decide) rfl <|
pw_sub [3, 4, 0, 1, 5, 6] rfl <| hk23 x24 y18) (fun h26 => pw_goto (tgt := 91) (pc := 76) dX11_farthest_76 (by decide) <|
pw_sub [1, 2, 3, 4, 5, 6] rfl <| hk23 v12 v13)))) FU v2 v3 x11)) FU (-4 : Int32) (-1 : Int32) (0 : Int32)) (fun h34 => pw_iconst (v := -1) (pc := 9) dX11_farthest_9 (by decide) <|
pw_iret (a := (-1 : Int32)) (v := (-1 : Int32)) hH rfl (pc := 10) dX11_farthest_10))
set_option maxHeartbeats 4000000 in
theorem tX11_forged (l : Launch) (G : pw_G) (a1 : Int32) (m0 : pw_Mem) : PMet l G yX11_forged cX11_forged 4 (some .int) 5 [.ref (pw_ad G 71), .int a1] m0 pw_Wi (fX11_forged a1 m0) :=
  pw_met (own := RX11) (l0 := [(0, .ref (pw_ad G 71)), (1, .int a1)]) rfl (by decide) rfl (Nat.le_of_ble_eq_true rfl) fun K hK hH => by
  delta fX11_forged
  exact (pw_aload_n (pc := 0) dX11_forged_0 0 rfl <|
pw_iload_n (pc := 1) dX11_forged_1 1 rfl <|
pw_iconst (v := -1) (pc := 2) dX11_forged_2 (by decide) <|
pw_callV_ri (n := 2) (rest := []) (tX11_wrongRow K.2.1 G a1 (-1 : Int32) m0) (pw_sh_71) cfX11 rfl miX11_wrongRow mlX11_167 (pc := 3) dX11_forged_3 rfl rfl (by decide) (Nat.le_of_ble_eq_true rfl) fun y1 =>
pw_istore_n [(2, .int y1), (0, .ref (pw_ad G 71)), (1, .int a1)] (pc := 6) dX11_forged_6 (by decide) rfl <|
pw_iload_n (pc := 7) dX11_forged_7 0 rfl <|
pw_jn (fun (k41 : Int32 → Option (Int32 × pw_Mem)) => ∀ (v2 : Int32), PW K G RX11 cX11_forged 4 (some .int) 5 (pw_MQ K G pw_Wi) (k41 v2) 26 [(2, .int v2), (0, .ref (pw_ad G 71)), (1, .int a1)] [] m0) (fun v2 => pw_iconst (v := 0) (pc := 26) dX11_forged_26 (by decide) <|
pw_istore_n [(3, .int (0 : Int32)), (2, .int v2), (0, .ref (pw_ad G 71)), (1, .int a1)] (pc := 27) dX11_forged_27 (by decide) rfl <|
pw_lp (fun (kk40 : Int32 → Int32 → Option (Int32 × pw_Mem)) => ∀ (v3 : Int32) (v4 : Int32), PW K G RX11 cX11_forged 4 (some .int) 5 (pw_MQ K G pw_Wi) (kk40 v3 v4) 28 [(3, .int v4), (2, .int v3), (0, .ref (pw_ad G 71)), (1, .int a1)] [] m0) (fun _ _ => pw_none) (fun nx5 hn6 v3 v4 => pw_iload_n (pc := 28) dX11_forged_28 1 rfl <|
pw_jn (fun (k22 : Option (Int32 × pw_Mem)) => PW K G RX11 cX11_forged 4 (some .int) 5 (pw_MQ K G pw_Wi) k22 88 [(2, .int v3), (0, .ref (pw_ad G 71)), (1, .int a1)] [] m0) (pw_iload_n (pc := 88) dX11_forged_88 0 rfl <|
pw_if_eq (a := v3) (b := 0) (tgt := 94) (pc := 89) dX11_forged_89 (by decide) (fun h20 => pw_aload_n (pc := 94) dX11_forged_94 1 rfl <|
pw_getR (o := 71) (k := 0) (t := 72) (pw_sh_71) cfX11 rfl (by decide) flX11_9 (pc := 95) dX11_forged_95 <|
pw_aload_n (pc := 98) dX11_forged_98 1 rfl <|
pw_getR (o := 71) (k := 1) (t := 73) (pw_sh_71) cfX11 rfl (by decide) flX11_13 (pc := 99) dX11_forged_99 <|
pw_callS_wv (n := 2) (rest := []) (tX11_copies K.2.1 G pw_r72 pw_r73 m0) miX11_copies mlX11_112 (pc := 102) dX11_forged_102 rfl rfl (by decide) (Nat.le_of_ble_eq_true rfl) fun m7 =>
pw_iconst (v := 0) (pc := 105) dX11_forged_105 (by decide) <|
pw_istore_n [(3, .int (0 : Int32)), (2, .int v3), (0, .ref (pw_ad G 71)), (1, .int a1)] (pc := 106) dX11_forged_106 (by decide) rfl <|
pw_sub [0, 2, 3] rfl <| pw_lp (fun (kk19 : Int32 → pw_Mem → Option (Int32 × pw_Mem)) => ∀ (v8 : Int32) (m9 : pw_Mem), PW K G RX11 cX11_forged 4 (some .int) 5 (pw_MQ K G pw_Wi) (kk19 v8 m9) 107 [(3, .int v8), (0, .ref (pw_ad G 71)), (1, .int a1)] [] m9) (fun _ _ => pw_none) (fun nx10 hn11 v8 m9 => pw_iload_n (pc := 107) dX11_forged_107 0 rfl <|
pw_aload_n (pc := 108) dX11_forged_108 1 rfl <|
pw_getR (o := 71) (k := 19) (t := 84) (pw_sh_71) cfX11 rfl (by decide) flX11_46 (pc := 109) dX11_forged_109 <|
pw_iload_n (pc := 112) dX11_forged_112 2 rfl <|
pw_iald (pw_sh_84) (pc := 113) dX11_forged_113 <|
pw_icmp_ge  (tgt := 161) (pc := 114) dX11_forged_114 (by decide) (fun h17 => pw_bipush (v := -4) (pc := 161) dX11_forged_161 (by decide) <|
pw_iret (a := (-4 : Int32)) (v := ((-4 : Int32), m9)) hH rfl (pc := 163) dX11_forged_163) (fun h18 => pw_aload_n (pc := 117) dX11_forged_117 1 rfl <|
pw_getR (o := 71) (k := 1) (t := 73) (pw_sh_71) cfX11 rfl (by decide) flX11_13 (pc := 118) dX11_forged_118 <|
pw_aload_n (pc := 121) dX11_forged_121 1 rfl <|
pw_getR (o := 71) (k := 20) (t := 85) (pw_sh_71) cfX11 rfl (by decide) flX11_49 (pc := 122) dX11_forged_122 <|
pw_bipush (v := 100) (pc := 125) dX11_forged_125 (by decide) <|
pw_iload_n (pc := 127) dX11_forged_127 2 rfl <|
pw_imul (pc := 128) dX11_forged_128 <|
pw_iload_n (pc := 129) dX11_forged_129 0 rfl <|
pw_iadd (pc := 130) dX11_forged_130 <|
pw_iald (pw_sh_85) (pc := 131) dX11_forged_131 <|
pw_aload_n (pc := 132) dX11_forged_132 1 rfl <|
pw_getR (o := 71) (k := 20) (t := 85) (pw_sh_71) cfX11 rfl (by decide) flX11_49 (pc := 133) dX11_forged_133 <|
pw_bipush (v := 100) (pc := 136) dX11_forged_136 (by decide) <|
pw_iload_n (pc := 138) dX11_forged_138 2 rfl <|
pw_imul (pc := 139) dX11_forged_139 <|
pw_iload_n (pc := 140) dX11_forged_140 0 rfl <|
pw_iadd (pc := 141) dX11_forged_141 <|
pw_iconst (v := 1) (pc := 142) dX11_forged_142 (by decide) <|
pw_iadd (pc := 143) dX11_forged_143 <|
pw_iald (pw_sh_85) (pc := 144) dX11_forged_144 <|
pw_callS_wi (n := 3) (rest := []) (tX11_goesTo K.2.1 G pw_r73 (m9 85 (((100 : Int32) * a1) + v8).toNatClampNeg) (m9 85 ((((100 : Int32) * a1) + v8) + (1 : Int32)).toNatClampNeg) m9) miX11_goesTo mlX11_158 (pc := 145) dX11_forged_145 rfl rfl (by decide) (Nat.le_of_ble_eq_true rfl) fun y12 m13 =>
pw_if_eq (a := y12) (b := 0) (tgt := 155) (pc := 148) dX11_forged_148 (by decide) (fun h15 => pw_ltA fun x14 hxx14 => pw_iinc (v := x14) [(3, .int x14), (0, .ref (pw_ad G 71)), (1, .int a1)] (pc := 155) dX11_forged_155 0 rfl (by rw [hxx14]; rfl) (by decide) rfl <|
pw_goto (tgt := 107) (pc := 158) dX11_forged_158 (by decide) <|
hn11 x14 m13) (fun h16 => pw_iload_n (pc := 151) dX11_forged_151 0 rfl <|
pw_iconst (v := 2) (pc := 152) dX11_forged_152 (by decide) <|
pw_idiv (pc := 153) dX11_forged_153 (by decide) <|
pw_iret (a := (v8 / (2 : Int32))) (v := (v8 / (2 : Int32), m13)) hH rfl (pc := 154) dX11_forged_154))) FU (0 : Int32) m7) (fun h21 => pw_iload_n (pc := 92) dX11_forged_92 0 rfl <|
pw_iret (a := v3) (v := (v3, m0)) hH rfl (pc := 93) dX11_forged_93)) (fun k22 hk23 => pw_if_ne (a := v3) (b := 0) (tgt := 88) (pc := 29) dX11_forged_29 (by decide) (fun h38 => pw_sub [1, 2, 3] rfl <| hk23) (fun h39 => pw_iload_n (pc := 32) dX11_forged_32 0 rfl <|
pw_aload_n (pc := 33) dX11_forged_33 2 rfl <|
pw_getR (o := 71) (k := 19) (t := 84) (pw_sh_71) cfX11 rfl (by decide) flX11_46 (pc := 34) dX11_forged_34 <|
pw_iload_n (pc := 37) dX11_forged_37 3 rfl <|
pw_iald (pw_sh_84) (pc := 38) dX11_forged_38 <|
pw_icmp_ge  (tgt := 88) (pc := 39) dX11_forged_39 (by decide) (fun h36 => pw_sub [1, 2, 3] rfl <| hk23) (fun h37 => pw_aload_n (pc := 42) dX11_forged_42 2 rfl <|
pw_aload_n (pc := 43) dX11_forged_43 2 rfl <|
pw_getR (o := 71) (k := 20) (t := 85) (pw_sh_71) cfX11 rfl (by decide) flX11_49 (pc := 44) dX11_forged_44 <|
pw_bipush (v := 100) (pc := 47) dX11_forged_47 (by decide) <|
pw_iload_n (pc := 49) dX11_forged_49 3 rfl <|
pw_imul (pc := 50) dX11_forged_50 <|
pw_iload_n (pc := 51) dX11_forged_51 0 rfl <|
pw_iadd (pc := 52) dX11_forged_52 <|
pw_iald (pw_sh_85) (pc := 53) dX11_forged_53 <|
pw_callV_rz (n := 1) (rest := []) (tX11_isPerson K.2.1 G (m0 85 (((100 : Int32) * a1) + v4).toNatClampNeg) m0) (pw_sh_71) cfX11 rfl miX11_isPerson mlX11_140 (pc := 54) dX11_forged_54 rfl rfl (by decide) (Nat.le_of_ble_eq_true rfl) fun y24 =>
pw_jn (fun (k27 : Int32 → Option (Int32 × pw_Mem)) => ∀ (v25 : Int32), PW K G RX11 cX11_forged 4 (some .int) 5 (pw_MQ K G pw_Wi) (k27 v25) 82 [(3, .int v4), (2, .int v25), (0, .ref (pw_ad G 71)), (1, .int a1)] [] m0) (fun v25 => pw_ltA fun x26 hxx26 => pw_iinc (v := x26) [(3, .int x26), (2, .int v25), (0, .ref (pw_ad G 71)), (1, .int a1)] (pc := 82) dX11_forged_82 0 rfl (by rw [hxx26]; rfl) (by decide) rfl <|
pw_goto (tgt := 28) (pc := 85) dX11_forged_85 (by decide) <|
hn6 v25 x26) (fun k27 hk28 => pw_jn (fun (k29 : Option (Int32 × pw_Mem)) => PW K G RX11 cX11_forged 4 (some .int) 5 (pw_MQ K G pw_Wi) k29 79 [(3, .int v4), (0, .ref (pw_ad G 71)), (1, .int a1)] [] m0) (pw_bipush (v := -13) (pc := 79) dX11_forged_79 (by decide) <|
pw_istore_n [(2, .int (-13 : Int32)), (3, .int v4), (0, .ref (pw_ad G 71)), (1, .int a1)] (pc := 81) dX11_forged_81 (by decide) rfl <|
pw_sub [1, 0, 2, 3] rfl <| hk28 (-13 : Int32)) (fun k29 hk30 => pw_ifz_eq (tgt := 79) (pc := 57) dX11_forged_57 (by decide) (fun h34 => pw_aload_n (pc := 60) dX11_forged_60 2 rfl <|
pw_getR (o := 71) (k := 20) (t := 85) (pw_sh_71) cfX11 rfl (by decide) flX11_49 (pc := 61) dX11_forged_61 <|
pw_bipush (v := 100) (pc := 64) dX11_forged_64 (by decide) <|
pw_iload_n (pc := 66) dX11_forged_66 3 rfl <|
pw_imul (pc := 67) dX11_forged_67 <|
pw_iload_n (pc := 68) dX11_forged_68 0 rfl <|
pw_iadd (pc := 69) dX11_forged_69 <|
pw_iconst (v := 1) (pc := 70) dX11_forged_70 (by decide) <|
pw_iadd (pc := 71) dX11_forged_71 <|
pw_iald (pw_sh_85) (pc := 72) dX11_forged_72 <|
pw_callS_rz (n := 1) (rest := []) (tX11_isPlace K.2.1 G (m0 85 ((((100 : Int32) * a1) + v4) + (1 : Int32)).toNatClampNeg) m0) miX11_isPlace mlX11_144 (pc := 73) dX11_forged_73 rfl rfl (by decide) (Nat.le_of_ble_eq_true rfl) fun y31 =>
pw_ifz_ne (tgt := 82) (pc := 76) dX11_forged_76 (by decide) (fun h32 => hk28 v3) (fun h33 => pw_sub [0, 2, 3] rfl <| hk30)) (fun h35 => pw_sub [0, 2, 3] rfl <| hk30))))))) FU v2 (0 : Int32)) (fun k41 hk42 => pw_if_ne (a := y1) (b := 0) (tgt := 26) (pc := 8) dX11_forged_8 (by decide) (fun h45 => hk42 y1) (fun h46 => pw_aload_n (pc := 11) dX11_forged_11 1 rfl <|
pw_getR (o := 71) (k := 19) (t := 84) (pw_sh_71) cfX11 rfl (by decide) flX11_46 (pc := 12) dX11_forged_12 <|
pw_iload_n (pc := 15) dX11_forged_15 2 rfl <|
pw_iald (pw_sh_84) (pc := 16) dX11_forged_16 <|
pw_iconst (v := 2) (pc := 17) dX11_forged_17 (by decide) <|
pw_irem (pc := 18) dX11_forged_18 (by decide) <|
pw_iconst (v := 1) (pc := 19) dX11_forged_19 (by decide) <|
pw_icmp_ne  (tgt := 26) (pc := 20) dX11_forged_20 (by decide) (fun h43 => hk42 y1) (fun h44 => pw_bipush (v := -13) (pc := 23) dX11_forged_23 (by decide) <|
pw_istore_n [(2, .int (-13 : Int32)), (0, .ref (pw_ad G 71)), (1, .int a1)] (pc := 25) dX11_forged_25 (by decide) rfl <|
hk42 (-13 : Int32)))))
set_option maxHeartbeats 4000000 in
theorem tX11_judge (l : Launch) (G : pw_G) (a1 : Int32) (m0 : pw_Mem) : PMet l G yX11_judge cX11_judge 6 (some .int) 5 [.ref (pw_ad G 71), .int a1] m0 pw_Wi (fX11_judge a1 m0) :=
  pw_met (own := RX11) (l0 := [(0, .ref (pw_ad G 71)), (1, .int a1)]) rfl (by decide) rfl (Nat.le_of_ble_eq_true rfl) fun K hK hH => by
  delta fX11_judge
  exact (pw_aload_n (pc := 0) dX11_judge_0 0 rfl <|
pw_iload_n (pc := 1) dX11_judge_1 1 rfl <|
pw_iconst (v := -1) (pc := 2) dX11_judge_2 (by decide) <|
pw_callV_ri (n := 2) (rest := []) (tX11_wrongRow K.2.1 G a1 (-1 : Int32) m0) (pw_sh_71) cfX11 rfl miX11_wrongRow mlX11_167 (pc := 3) dX11_judge_3 rfl rfl (by decide) (Nat.le_of_ble_eq_true rfl) fun y1 =>
pw_istore_n [(2, .int y1), (0, .ref (pw_ad G 71)), (1, .int a1)] (pc := 6) dX11_judge_6 (by decide) rfl <|
pw_iload_n (pc := 7) dX11_judge_7 0 rfl <|
pw_if_eq (a := y1) (b := 0) (tgt := 13) (pc := 8) dX11_judge_8 (by decide) (fun h23 => pw_aload_n (pc := 13) dX11_judge_13 1 rfl <|
pw_getR (o := 71) (k := 0) (t := 72) (pw_sh_71) cfX11 rfl (by decide) flX11_9 (pc := 14) dX11_judge_14 <|
pw_aload_n (pc := 17) dX11_judge_17 1 rfl <|
pw_getR (o := 71) (k := 1) (t := 73) (pw_sh_71) cfX11 rfl (by decide) flX11_13 (pc := 18) dX11_judge_18 <|
pw_callS_wv (n := 2) (rest := []) (tX11_copies K.2.1 G pw_r72 pw_r73 m0) miX11_copies mlX11_112 (pc := 21) dX11_judge_21 rfl rfl (by decide) (Nat.le_of_ble_eq_true rfl) fun m2 =>
pw_iconst (v := 0) (pc := 24) dX11_judge_24 (by decide) <|
pw_istore_n [(3, .int (0 : Int32)), (2, .int y1), (0, .ref (pw_ad G 71)), (1, .int a1)] (pc := 25) dX11_judge_25 (by decide) rfl <|
pw_sub [0, 2, 3] rfl <| pw_lp (fun (kk22 : Int32 → pw_Mem → Option (Int32 × pw_Mem)) => ∀ (v3 : Int32) (m4 : pw_Mem), PW K G RX11 cX11_judge 6 (some .int) 5 (pw_MQ K G pw_Wi) (kk22 v3 m4) 26 [(3, .int v3), (0, .ref (pw_ad G 71)), (1, .int a1)] [] m4) (fun _ _ => pw_none) (fun nx5 hn6 v3 m4 => pw_iload_n (pc := 26) dX11_judge_26 0 rfl <|
pw_aload_n (pc := 27) dX11_judge_27 1 rfl <|
pw_getR (o := 71) (k := 19) (t := 84) (pw_sh_71) cfX11 rfl (by decide) flX11_46 (pc := 28) dX11_judge_28 <|
pw_iload_n (pc := 31) dX11_judge_31 2 rfl <|
pw_iald (pw_sh_84) (pc := 32) dX11_judge_32 <|
pw_icmp_ge  (tgt := 96) (pc := 33) dX11_judge_33 (by decide) (fun h20 => pw_bipush (v := -4) (pc := 96) dX11_judge_96 (by decide) <|
pw_iret (a := (-4 : Int32)) (v := ((-4 : Int32), m4)) hH rfl (pc := 98) dX11_judge_98) (fun h21 => pw_aload_n (pc := 36) dX11_judge_36 1 rfl <|
pw_getR (o := 71) (k := 20) (t := 85) (pw_sh_71) cfX11 rfl (by decide) flX11_49 (pc := 37) dX11_judge_37 <|
pw_bipush (v := 100) (pc := 40) dX11_judge_40 (by decide) <|
pw_iload_n (pc := 42) dX11_judge_42 2 rfl <|
pw_imul (pc := 43) dX11_judge_43 <|
pw_iload_n (pc := 44) dX11_judge_44 0 rfl <|
pw_iadd (pc := 45) dX11_judge_45 <|
pw_iald (pw_sh_85) (pc := 46) dX11_judge_46 <|
pw_ltI fun x7 => pw_istore [(4, .int x7), (3, .int v3), (0, .ref (pw_ad G 71)), (1, .int a1)] (pc := 47) dX11_judge_47 (by decide) rfl <|
pw_iload (pc := 49) dX11_judge_49 0 rfl <|
pw_aload_n (pc := 51) dX11_judge_51 2 rfl <|
pw_getR (o := 71) (k := 18) (t := 83) (pw_sh_71) cfX11 rfl (by decide) flX11_43 (pc := 52) dX11_judge_52 <|
pw_iload_n (pc := 55) dX11_judge_55 3 rfl <|
pw_iald (pw_sh_83) (pc := 56) dX11_judge_56 <|
pw_callS_ri (n := 1) (rest := [.int x7]) (tX11_leastOf K.2.1 G (m4 83 (a1).toNatClampNeg) m4) miX11_leastOf mlX11_225 (pc := 57) dX11_judge_57 rfl rfl (by decide) (Nat.le_of_ble_eq_true rfl) fun y8 =>
pw_jn (fun (k12 : Option (Int32 × pw_Mem)) => PW K G RX11 cX11_judge 6 (some .int) 5 (pw_MQ K G pw_Wi) k12 80 [(3, .int v3), (0, .ref (pw_ad G 71)), (1, .int a1)] [] m4) (pw_aload_n (pc := 80) dX11_judge_80 1 rfl <|
pw_aload_n (pc := 81) dX11_judge_81 1 rfl <|
pw_getR (o := 71) (k := 1) (t := 73) (pw_sh_71) cfX11 rfl (by decide) flX11_13 (pc := 82) dX11_judge_82 <|
pw_callV_wi (n := 1) (rest := []) (tX11_year K.2.1 G pw_r73 m4) (pw_sh_71) cfX11 rfl miX11_year mlX11_161 (pc := 85) dX11_judge_85 rfl rfl (by decide) (Nat.le_of_ble_eq_true rfl) fun y9 m10 =>
pw_istore [(5, .int y9), (3, .int v3), (0, .ref (pw_ad G 71)), (1, .int a1)] (pc := 88) dX11_judge_88 (by decide) rfl <|
pw_ltA fun x11 hxx11 => pw_iinc (v := x11) [(3, .int x11), (5, .int y9), (0, .ref (pw_ad G 71)), (1, .int a1)] (pc := 90) dX11_judge_90 1 rfl (by rw [hxx11]; rfl) (by decide) rfl <|
pw_goto (tgt := 26) (pc := 93) dX11_judge_93 (by decide) <|
pw_sub [0, 2, 3] rfl <| hn6 x11 m10) (fun k12 hk13 => pw_icmp_eq  (tgt := 80) (pc := 60) dX11_judge_60 (by decide) (fun h18 => pw_sub [1, 2, 3] rfl <| hk13) (fun h19 => pw_iload (pc := 63) dX11_judge_63 0 rfl <|
pw_aload_n (pc := 65) dX11_judge_65 2 rfl <|
pw_getR (o := 71) (k := 1) (t := 73) (pw_sh_71) cfX11 rfl (by decide) flX11_13 (pc := 66) dX11_judge_66 <|
pw_callS_ri (n := 1) (rest := [.int x7]) (tX11_snappedSet K.2.1 G pw_r73 m4) miX11_snappedSet mlX11_120 (pc := 69) dX11_judge_69 rfl rfl (by decide) (Nat.le_of_ble_eq_true rfl) fun y14 =>
pw_callS_ri (n := 1) (rest := [.int x7]) (tX11_bits K.2.1 G y14 m4) miX11_bits mlX11_180 (pc := 72) dX11_judge_72 rfl rfl (by decide) (Nat.le_of_ble_eq_true rfl) fun y15 =>
pw_icmp_eq  (tgt := 80) (pc := 75) dX11_judge_75 (by decide) (fun h16 => pw_sub [1, 2, 3] rfl <| hk13) (fun h17 => pw_iload_n (pc := 78) dX11_judge_78 1 rfl <|
pw_iret (a := v3) (v := (v3, m4)) hH rfl (pc := 79) dX11_judge_79))))) FU (0 : Int32) m2) (fun h24 => pw_iload_n (pc := 11) dX11_judge_11 0 rfl <|
pw_iret (a := y1) (v := (y1, m0)) hH rfl (pc := 12) dX11_judge_12))
set_option maxHeartbeats 4000000 in
theorem tX11_drawn (l : Launch) (G : pw_G) (a1 : Int32) (m0 : pw_Mem) : PMet l G yX11_drawn cX11_drawn 2 (some .int) 0 [.ref (pw_ad G 71), .int a1] m0 pw_Wi (fX11_drawn a1 m0) :=
  pw_met (own := RX11) (l0 := [(0, .ref (pw_ad G 71)), (1, .int a1)]) rfl (by decide) rfl (Nat.le_of_ble_eq_true rfl) fun K hK hH => by
  delta fX11_drawn
  exact (pw_aload_n (pc := 0) dX11_drawn_0 0 rfl <|
pw_aload_n (pc := 1) dX11_drawn_1 0 rfl <|
pw_getI (o := 71) (k := 14) (pw_sh_71) cfX11 rfl (by decide) flX11_245 (pc := 2) dX11_drawn_2 <|
pw_ldc (v := 1103515245) (pc := 5) dX11_drawn_5 klX11_248 <|
pw_imul (pc := 7) dX11_drawn_7 <|
pw_sipush (v := 12345) (pc := 8) dX11_drawn_8 (by decide) <|
pw_iadd (pc := 11) dX11_drawn_11 <|
pw_putI (o := 71) (k := 14) (pw_sh_71) cfX11 rfl (by decide) flX11_245 rfl (ft := .int) rfl rfl rfl (pc := 12) dX11_drawn_12 <|
pw_ltM fun m1 => pw_aload_n (pc := 15) dX11_drawn_15 0 rfl <|
pw_getI (o := 71) (k := 14) (pw_sh_71) cfX11 rfl (by decide) flX11_245 (pc := 16) dX11_drawn_16 <|
pw_ldc (v := 2147483647) (pc := 19) dX11_drawn_19 klX11_249 <|
pw_iand (pc := 21) dX11_drawn_21 <|
pw_ldc (v := 65536) (pc := 22) dX11_drawn_22 klX11_250 <|
pw_idiv (pc := 24) dX11_drawn_24 (by decide) <|
pw_iload_n (pc := 25) dX11_drawn_25 1 rfl <|
pw_gd fun h2 => pw_irem (pc := 26) dX11_drawn_26 h2 <|
pw_iret (a := ((((m1 71 14) &&& (2147483647 : Int32)) / (65536 : Int32)) - (((m1 71 14) &&& (2147483647 : Int32)) / (65536 : Int32)) / a1 * a1)) (v := ((((m1 71 14) &&& (2147483647 : Int32)) / (65536 : Int32)) - (((m1 71 14) &&& (2147483647 : Int32)) / (65536 : Int32)) / a1 * a1, m1)) hH rfl (pc := 27) dX11_drawn_27)
set_option maxHeartbeats 4000000 in
theorem tX11_stungAll (l : Launch) (G : pw_G) {o1 : Nat} (ho1 : pw_isRow o1) (m0 : pw_Mem) : PMet l G yX11_stungAll cX11_stungAll 3 (some .int) 0 [.ref (pw_ad G o1)] m0 (pw_Ri m0) (fX11_stungAll o1 m0) :=
  pw_met (own := RX11) (l0 := [(0, .ref (pw_ad G o1))]) rfl (by decide) rfl (Nat.le_of_ble_eq_true rfl) fun K hK hH => by
  delta fX11_stungAll
  exact (pw_iconst (v := 0) (pc := 0) dX11_stungAll_0 (by decide) <|
pw_istore_n [(1, .int (0 : Int32)), (0, .ref (pw_ad G o1))] (pc := 1) dX11_stungAll_1 (by decide) rfl <|
pw_iconst (v := 0) (pc := 2) dX11_stungAll_2 (by decide) <|
pw_istore_n [(2, .int (0 : Int32)), (1, .int (0 : Int32)), (0, .ref (pw_ad G o1))] (pc := 3) dX11_stungAll_3 (by decide) rfl <|
pw_lp (fun (kk9 : Int32 → Int32 → Option Int32) => ∀ (v1 : Int32) (v2 : Int32), PW K G RX11 cX11_stungAll 3 (some .int) 0 (pw_MQ K G (pw_Ri m0)) (kk9 v1 v2) 4 [(2, .int v2), (1, .int v1), (0, .ref (pw_ad G o1))] [] m0) (fun _ _ => pw_none) (fun nx3 hn4 v1 v2 => pw_iload_n (pc := 4) dX11_stungAll_4 0 rfl <|
pw_aload_n (pc := 5) dX11_stungAll_5 2 rfl <|
pw_iconst (v := 0) (pc := 6) dX11_stungAll_6 (by decide) <|
pw_iald (pw_shRow ho1) (pc := 7) dX11_stungAll_7 <|
pw_icmp_ge  (tgt := 26) (pc := 8) dX11_stungAll_8 (by decide) (fun h7 => pw_iload_n (pc := 26) dX11_stungAll_26 1 rfl <|
pw_iret (a := v1) (v := v1) hH rfl (pc := 27) dX11_stungAll_27) (fun h8 => pw_iload_n (pc := 11) dX11_stungAll_11 1 rfl <|
pw_aload_n (pc := 12) dX11_stungAll_12 2 rfl <|
pw_bipush (v := 11) (pc := 13) dX11_stungAll_13 (by decide) <|
pw_iload_n (pc := 15) dX11_stungAll_15 0 rfl <|
pw_iadd (pc := 16) dX11_stungAll_16 <|
pw_iald (pw_shRow ho1) (pc := 17) dX11_stungAll_17 <|
pw_iadd (pc := 18) dX11_stungAll_18 <|
pw_ltI fun x5 => pw_istore_n [(1, .int x5), (2, .int v2), (0, .ref (pw_ad G o1))] (pc := 19) dX11_stungAll_19 (by decide) rfl <|
pw_ltA fun x6 hxx6 => pw_iinc (v := x6) [(2, .int x6), (1, .int x5), (0, .ref (pw_ad G o1))] (pc := 20) dX11_stungAll_20 1 rfl (by rw [hxx6]; rfl) (by decide) rfl <|
pw_goto (tgt := 4) (pc := 23) dX11_stungAll_23 (by decide) <|
hn4 x5 x6)) FU (0 : Int32) (0 : Int32))
set_option maxHeartbeats 4000000 in
theorem tX11_generations (l : Launch) (G : pw_G) (a1 : Int32) (a2 : Int32) (a3 : Int32) (m0 : pw_Mem) : PMet l G yX11_generations cX11_generations 9 (some .int) 5 [.ref (pw_ad G 71), .int a1, .int a2, .int a3] m0 pw_Wi (fX11_generations a1 a2 a3 m0) :=
  pw_met (own := RX11) (l0 := [(0, .ref (pw_ad G 71)), (1, .int a1), (2, .int a2), (3, .int a3)]) rfl (by decide) rfl (Nat.le_of_ble_eq_true rfl) fun K hK hH => by
  delta fX11_generations
  exact (pw_iload_n (pc := 0) dX11_generations_0 1 rfl <|
pw_iconst (v := 1) (pc := 1) dX11_generations_1 (by decide) <|
pw_bipush (v := 20) (pc := 2) dX11_generations_2 (by decide) <|
pw_callS_rz (n := 3) (rest := []) (tX11_isIn K.2.1 G a1 (1 : Int32) (20 : Int32) m0) miX11_isIn mlX11_52 (pc := 4) dX11_generations_4 rfl rfl (by decide) (Nat.le_of_ble_eq_true rfl) fun y1 =>
pw_ifz_eq (tgt := 19) (pc := 7) dX11_generations_7 (by decide) (fun h41 => pw_iload_n (pc := 10) dX11_generations_10 3 rfl <|
pw_iconst (v := 0) (pc := 11) dX11_generations_11 (by decide) <|
pw_iconst (v := 1) (pc := 12) dX11_generations_12 (by decide) <|
pw_callS_rz (n := 3) (rest := []) (tX11_isIn K.2.1 G a3 (0 : Int32) (1 : Int32) m0) miX11_isIn mlX11_52 (pc := 13) dX11_generations_13 rfl rfl (by decide) (Nat.le_of_ble_eq_true rfl) fun y2 =>
pw_ifz_ne (tgt := 21) (pc := 16) dX11_generations_16 (by decide) (fun h39 => pw_aload_n (pc := 21) dX11_generations_21 0 rfl <|
pw_getR (o := 71) (k := 0) (t := 72) (pw_sh_71) cfX11 rfl (by decide) flX11_9 (pc := 22) dX11_generations_22 <|
pw_iconst (v := 0) (pc := 25) dX11_generations_25 (by decide) <|
pw_iald (pw_shRow pw_r72) (pc := 26) dX11_generations_26 <|
pw_if_ne (a := (m0 72 ((0 : Int32)).toNatClampNeg)) (b := 0) (tgt := 33) (pc := 27) dX11_generations_27 (by decide) (fun h37 => pw_aload_n (pc := 33) dX11_generations_33 0 rfl <|
pw_iload_n (pc := 34) dX11_generations_34 2 rfl <|
pw_putI (o := 71) (k := 14) (pw_sh_71) cfX11 rfl (by decide) flX11_245 rfl (ft := .int) rfl rfl rfl (pc := 35) dX11_generations_35 <|
pw_ltM fun m3 => pw_iconst (v := 0) (pc := 38) dX11_generations_38 (by decide) <|
pw_istore [(4, .int (0 : Int32)), (0, .ref (pw_ad G 71)), (1, .int a1), (2, .int a2), (3, .int a3)] (pc := 39) dX11_generations_39 (by decide) rfl <|
pw_iconst (v := 0) (pc := 41) dX11_generations_41 (by decide) <|
pw_istore [(5, .int (0 : Int32)), (4, .int (0 : Int32)), (0, .ref (pw_ad G 71)), (1, .int a1), (2, .int a2), (3, .int a3)] (pc := 42) dX11_generations_42 (by decide) rfl <|
pw_iconst (v := 0) (pc := 44) dX11_generations_44 (by decide) <|
pw_istore [(6, .int (0 : Int32)), (5, .int (0 : Int32)), (4, .int (0 : Int32)), (0, .ref (pw_ad G 71)), (1, .int a1), (2, .int a2), (3, .int a3)] (pc := 45) dX11_generations_45 (by decide) rfl <|
pw_sub [0, 1, 2, 3, 4, 6] rfl <| pw_lp (fun (kk36 : Int32 → Int32 → Int32 → pw_Mem → Option (Int32 × pw_Mem)) => ∀ (v4 : Int32) (v5 : Int32) (v6 : Int32) (m7 : pw_Mem), PW K G RX11 cX11_generations 9 (some .int) 5 (pw_MQ K G pw_Wi) (kk36 v4 v5 v6 m7) 47 [(6, .int v6), (5, .int v5), (4, .int v4), (0, .ref (pw_ad G 71)), (1, .int a1), (3, .int a3)] [] m7) (fun _ _ _ _ => pw_none) (fun nx8 hn9 v4 v5 v6 m7 => pw_iload (pc := 47) dX11_generations_47 0 rfl <|
pw_iload_n (pc := 49) dX11_generations_49 4 rfl <|
pw_icmp_ge  (tgt := 141) (pc := 50) dX11_generations_50 (by decide) (fun h34 => pw_iload_n (pc := 141) dX11_generations_141 5 rfl <|
pw_if_ne (a := a3) (b := 0) (tgt := 150) (pc := 142) dX11_generations_142 (by decide) (fun h10 => pw_iload (pc := 150) dX11_generations_150 1 rfl <|
pw_iret (a := v5) (v := (v5, m7)) hH rfl (pc := 152) dX11_generations_152) (fun h11 => pw_iload (pc := 145) dX11_generations_145 2 rfl <|
pw_goto (tgt := 152) (pc := 147) dX11_generations_147 (by decide) <|
pw_iret (a := v4) (v := (v4, m7)) hH rfl (pc := 152) dX11_generations_152)) (fun h35 => pw_aload_n (pc := 53) dX11_generations_53 3 rfl <|
pw_getR (o := 71) (k := 0) (t := 72) (pw_sh_71) cfX11 rfl (by decide) flX11_9 (pc := 54) dX11_generations_54 <|
pw_aload_n (pc := 57) dX11_generations_57 3 rfl <|
pw_getR (o := 71) (k := 1) (t := 73) (pw_sh_71) cfX11 rfl (by decide) flX11_13 (pc := 58) dX11_generations_58 <|
pw_callS_wv (n := 2) (rest := []) (tX11_copies K.2.1 G pw_r72 pw_r73 m7) miX11_copies mlX11_112 (pc := 61) dX11_generations_61 rfl rfl (by decide) (Nat.le_of_ble_eq_true rfl) fun m12 =>
pw_iconst (v := 0) (pc := 64) dX11_generations_64 (by decide) <|
pw_istore [(7, .int (0 : Int32)), (6, .int v6), (5, .int v5), (4, .int v4), (0, .ref (pw_ad G 71)), (1, .int a1), (3, .int a3)] (pc := 65) dX11_generations_65 (by decide) rfl <|
pw_lp (fun (kk33 : Int32 → Int32 → pw_Mem → Option (Int32 × pw_Mem)) => ∀ (v13 : Int32) (v14 : Int32) (m15 : pw_Mem), PW K G RX11 cX11_generations 9 (some .int) 5 (pw_MQ K G pw_Wi) (kk33 v13 v14 m15) 67 [(7, .int v14), (6, .int v6), (5, .int v5), (4, .int v13), (0, .ref (pw_ad G 71)), (1, .int a1), (3, .int a3)] [] m15) (fun _ _ _ => pw_none) (fun nx16 hn17 v13 v14 m15 => pw_iload (pc := 67) dX11_generations_67 0 rfl <|
pw_bipush (v := 10) (pc := 69) dX11_generations_69 (by decide) <|
pw_icmp_ge  (tgt := 115) (pc := 71) dX11_generations_71 (by decide) (fun h31 => pw_iload (pc := 115) dX11_generations_115 2 rfl <|
pw_aload_n (pc := 117) dX11_generations_117 4 rfl <|
pw_getR (o := 71) (k := 1) (t := 73) (pw_sh_71) cfX11 rfl (by decide) flX11_13 (pc := 118) dX11_generations_118 <|
pw_callS_ri (n := 1) (rest := [.int v5]) (tX11_stungAll K.2.1 G pw_r73 m15) miX11_stungAll mlX11_254 (pc := 121) dX11_generations_121 rfl rfl (by decide) (Nat.le_of_ble_eq_true rfl) fun y18 =>
pw_aload_n (pc := 124) dX11_generations_124 4 rfl <|
pw_getR (o := 71) (k := 0) (t := 72) (pw_sh_71) cfX11 rfl (by decide) flX11_9 (pc := 125) dX11_generations_125 <|
pw_callS_ri (n := 1) (rest := [.int y18, .int v5]) (tX11_stungAll K.2.1 G pw_r72 m15) miX11_stungAll mlX11_254 (pc := 128) dX11_generations_128 rfl rfl (by decide) (Nat.le_of_ble_eq_true rfl) fun y19 =>
pw_isub (pc := 131) dX11_generations_131 <|
pw_iadd (pc := 132) dX11_generations_132 <|
pw_ltI fun x20 => pw_istore [(5, .int x20), (7, .int v14), (6, .int v6), (4, .int v13), (0, .ref (pw_ad G 71)), (1, .int a1), (3, .int a3)] (pc := 133) dX11_generations_133 (by decide) rfl <|
pw_ltA fun x21 hxx21 => pw_iinc (v := x21) [(6, .int x21), (5, .int x20), (7, .int v14), (4, .int v13), (0, .ref (pw_ad G 71)), (1, .int a1), (3, .int a3)] (pc := 135) dX11_generations_135 2 rfl (by rw [hxx21]; rfl) (by decide) rfl <|
pw_goto (tgt := 47) (pc := 138) dX11_generations_138 (by decide) <|
pw_sub [0, 1, 3, 4, 5, 6] rfl <| hn9 v13 x20 x21 m15) (fun h32 => pw_aload_n (pc := 74) dX11_generations_74 4 rfl <|
pw_aload_n (pc := 75) dX11_generations_75 4 rfl <|
pw_getR (o := 71) (k := 0) (t := 72) (pw_sh_71) cfX11 rfl (by decide) flX11_9 (pc := 76) dX11_generations_76 <|
pw_iconst (v := 0) (pc := 79) dX11_generations_79 (by decide) <|
pw_iald (pw_shRow pw_r72) (pc := 80) dX11_generations_80 <|
pw_callV_wi (n := 1) (rest := []) (tX11_drawn K.2.1 G (m15 72 ((0 : Int32)).toNatClampNeg) m15) (pw_sh_71) cfX11 rfl miX11_drawn mlX11_251 (pc := 81) dX11_generations_81 rfl rfl (by decide) (Nat.le_of_ble_eq_true rfl) fun y22 m23 =>
pw_istore [(8, .int y22), (7, .int v14), (6, .int v6), (5, .int v5), (4, .int v13), (0, .ref (pw_ad G 71)), (1, .int a1), (3, .int a3)] (pc := 84) dX11_generations_84 (by decide) rfl <|
pw_iload (pc := 86) dX11_generations_86 4 rfl <|
pw_aload_n (pc := 88) dX11_generations_88 5 rfl <|
pw_getR (o := 71) (k := 1) (t := 73) (pw_sh_71) cfX11 rfl (by decide) flX11_13 (pc := 89) dX11_generations_89 <|
pw_iload (pc := 92) dX11_generations_92 0 rfl <|
pw_aload_n (pc := 94) dX11_generations_94 5 rfl <|
pw_bipush (v := 31) (pc := 95) dX11_generations_95 (by decide) <|
pw_callV_wi (n := 1) (rest := [.int y22, .ref (pw_ad G 73), .int v13]) (tX11_drawn K.2.1 G (31 : Int32) m23) (pw_sh_71) cfX11 rfl miX11_drawn mlX11_251 (pc := 97) dX11_generations_97 rfl rfl (by decide) (Nat.le_of_ble_eq_true rfl) fun y24 m25 =>
pw_callS_wi (n := 3) (rest := [.int v13]) (tX11_goesTo K.2.1 G pw_r73 y22 y24 m25) miX11_goesTo mlX11_158 (pc := 100) dX11_generations_100 rfl rfl (by decide) (Nat.le_of_ble_eq_true rfl) fun y26 m27 =>
pw_callS_ri (n := 1) (rest := [.int v13]) (tX11_bits K.2.1 G y26 m27) miX11_bits mlX11_180 (pc := 103) dX11_generations_103 rfl rfl (by decide) (Nat.le_of_ble_eq_true rfl) fun y28 =>
pw_iadd (pc := 106) dX11_generations_106 <|
pw_ltI fun x29 => pw_istore [(4, .int x29), (8, .int y22), (7, .int v14), (6, .int v6), (5, .int v5), (0, .ref (pw_ad G 71)), (1, .int a1), (3, .int a3)] (pc := 107) dX11_generations_107 (by decide) rfl <|
pw_ltA fun x30 hxx30 => pw_iinc (v := x30) [(7, .int x30), (4, .int x29), (8, .int y22), (6, .int v6), (5, .int v5), (0, .ref (pw_ad G 71)), (1, .int a1), (3, .int a3)] (pc := 109) dX11_generations_109 2 rfl (by rw [hxx30]; rfl) (by decide) rfl <|
pw_goto (tgt := 67) (pc := 112) dX11_generations_112 (by decide) <|
pw_sub [0, 3, 4, 1, 5, 6, 7] rfl <| hn17 x29 x30 m27)) FU v4 (0 : Int32) m12)) FU (0 : Int32) (0 : Int32) (0 : Int32) m3) (fun h38 => pw_bipush (v := -3) (pc := 30) dX11_generations_30 (by decide) <|
pw_iret (a := (-3 : Int32)) (v := ((-3 : Int32), m0)) hH rfl (pc := 32) dX11_generations_32)) (fun h40 => pw_iconst (v := -1) (pc := 19) dX11_generations_19 (by decide) <|
pw_iret (a := (-1 : Int32)) (v := ((-1 : Int32), m0)) hH rfl (pc := 20) dX11_generations_20)) (fun h42 => pw_iconst (v := -1) (pc := 19) dX11_generations_19 (by decide) <|
pw_iret (a := (-1 : Int32)) (v := ((-1 : Int32), m0)) hH rfl (pc := 20) dX11_generations_20))
set_option maxHeartbeats 4000000 in
theorem tX11_image (l : Launch) (G : pw_G)  (m0 : pw_Mem) : PMet l G yX11_image cX11_image 1 (some .int) 1 [.ref (pw_ad G 71)] m0 pw_Wi (fX11_image m0) :=
  pw_met (own := RX11) (l0 := [(0, .ref (pw_ad G 71))]) rfl (by decide) rfl (Nat.le_of_ble_eq_true rfl) fun K hK hH => by
  delta fX11_image
  exact (pw_aload_n (pc := 0) dX11_image_0 0 rfl <|
pw_getR (o := 71) (k := 0) (t := 72) (pw_sh_71) cfX11 rfl (by decide) flX11_9 (pc := 1) dX11_image_1 <|
pw_aload_n (pc := 4) dX11_image_4 0 rfl <|
pw_getR (o := 71) (k := 2) (t := 74) (pw_sh_71) cfX11 rfl (by decide) flX11_16 (pc := 5) dX11_image_5 <|
pw_callS_wv (n := 2) (rest := []) (tX11_copies K.2.1 G pw_r72 pw_r74 m0) miX11_copies mlX11_112 (pc := 8) dX11_image_8 rfl rfl (by decide) (Nat.le_of_ble_eq_true rfl) fun m1 =>
pw_aload_n (pc := 11) dX11_image_11 0 rfl <|
pw_iconst (v := 1) (pc := 12) dX11_image_12 (by decide) <|
pw_putI (o := 71) (k := 5) (pw_sh_71) cfX11 rfl (by decide) flX11_257 rfl (ft := .boolean) rfl rfl rfl (pc := 13) dX11_image_13 <|
pw_ltM fun m2 => pw_aload_n (pc := 16) dX11_image_16 0 rfl <|
pw_getR (o := 71) (k := 0) (t := 72) (pw_sh_71) cfX11 rfl (by decide) flX11_9 (pc := 17) dX11_image_17 <|
pw_iconst (v := 2) (pc := 20) dX11_image_20 (by decide) <|
pw_iald (pw_shRow pw_r72) (pc := 21) dX11_image_21 <|
pw_iret (a := (m2 72 ((2 : Int32)).toNatClampNeg)) (v := (m2 72 ((2 : Int32)).toNatClampNeg, m2)) hH rfl (pc := 22) dX11_image_22)
set_option maxHeartbeats 4000000 in
theorem tX11_restore (l : Launch) (G : pw_G)  (m0 : pw_Mem) : PMet l G yX11_restore cX11_restore 1 (some .int) 1 [.ref (pw_ad G 71)] m0 pw_Wi (fX11_restore m0) :=
  pw_met (own := RX11) (l0 := [(0, .ref (pw_ad G 71))]) rfl (by decide) rfl (Nat.le_of_ble_eq_true rfl) fun K hK hH => by
  delta fX11_restore
  exact (pw_aload_n (pc := 0) dX11_restore_0 0 rfl <|
pw_getI (o := 71) (k := 5) (pw_sh_71) cfX11 rfl (by decide) flX11_257 (pc := 1) dX11_restore_1 <|
pw_if_ne (a := (m0 71 5)) (b := 0) (tgt := 10) (pc := 4) dX11_restore_4 (by decide) (fun h2 => pw_aload_n (pc := 10) dX11_restore_10 0 rfl <|
pw_getR (o := 71) (k := 2) (t := 74) (pw_sh_71) cfX11 rfl (by decide) flX11_16 (pc := 11) dX11_restore_11 <|
pw_aload_n (pc := 14) dX11_restore_14 0 rfl <|
pw_getR (o := 71) (k := 0) (t := 72) (pw_sh_71) cfX11 rfl (by decide) flX11_9 (pc := 15) dX11_restore_15 <|
pw_callS_wv (n := 2) (rest := []) (tX11_copies K.2.1 G pw_r74 pw_r72 m0) miX11_copies mlX11_112 (pc := 18) dX11_restore_18 rfl rfl (by decide) (Nat.le_of_ble_eq_true rfl) fun m1 =>
pw_aload_n (pc := 21) dX11_restore_21 0 rfl <|
pw_getR (o := 71) (k := 0) (t := 72) (pw_sh_71) cfX11 rfl (by decide) flX11_9 (pc := 22) dX11_restore_22 <|
pw_iconst (v := 2) (pc := 25) dX11_restore_25 (by decide) <|
pw_iald (pw_shRow pw_r72) (pc := 26) dX11_restore_26 <|
pw_iret (a := (m1 72 ((2 : Int32)).toNatClampNeg)) (v := (m1 72 ((2 : Int32)).toNatClampNeg, m1)) hH rfl (pc := 27) dX11_restore_27) (fun h3 => pw_bipush (v := -3) (pc := 7) dX11_restore_7 (by decide) <|
pw_iret (a := (-3 : Int32)) (v := ((-3 : Int32), m0)) hH rfl (pc := 9) dX11_restore_9))
set_option maxHeartbeats 4000000 in
theorem tX11_count (l : Launch) (G : pw_G) (a1 : Int32) (m0 : pw_Mem) : PMet l G yX11_count cX11_count 4 (some .int) 3 [.ref (pw_ad G 71), .int a1] m0 (pw_Ri m0) (fX11_count a1 m0) :=
  pw_met (own := RX11) (l0 := [(0, .ref (pw_ad G 71)), (1, .int a1)]) rfl (by decide) rfl (Nat.le_of_ble_eq_true rfl) fun K hK hH => by
  delta fX11_count
  exact (pw_iload_n (pc := 0) dX11_count_0 1 rfl <|
pw_iconst (v := 0) (pc := 1) dX11_count_1 (by decide) <|
pw_iconst (v := 3) (pc := 2) dX11_count_2 (by decide) <|
pw_callS_rz (n := 3) (rest := []) (tX11_isIn K.2.1 G a1 (0 : Int32) (3 : Int32) m0) miX11_isIn mlX11_52 (pc := 3) dX11_count_3 rfl rfl (by decide) (Nat.le_of_ble_eq_true rfl) fun y1 =>
pw_ifz_eq (tgt := 16) (pc := 6) dX11_count_6 (by decide) (fun h17 => pw_aload_n (pc := 9) dX11_count_9 0 rfl <|
pw_getR (o := 71) (k := 0) (t := 72) (pw_sh_71) cfX11 rfl (by decide) flX11_9 (pc := 10) dX11_count_10 <|
pw_iload_n (pc := 13) dX11_count_13 1 rfl <|
pw_iald (pw_shRow pw_r72) (pc := 14) dX11_count_14 <|
pw_iret (a := (m0 72 (a1).toNatClampNeg)) (v := (m0 72 (a1).toNatClampNeg)) hH rfl (pc := 15) dX11_count_15) (fun h18 => pw_iconst (v := 0) (pc := 16) dX11_count_16 (by decide) <|
pw_istore_n [(2, .int (0 : Int32)), (0, .ref (pw_ad G 71)), (1, .int a1)] (pc := 17) dX11_count_17 (by decide) rfl <|
pw_iload_n (pc := 18) dX11_count_18 2 rfl <|
pw_if (fun h3 => pw_tIn (tgt := 44) (pc := 19) dX11_count_19 h3 (by decide) (by decide) rfl (by decide) <|
pw_aload_n (pc := 44) dX11_count_44 1 rfl <|
pw_getR (o := 71) (k := 0) (t := 72) (pw_sh_71) cfX11 rfl (by decide) flX11_9 (pc := 45) dX11_count_45 <|
pw_callS_ri (n := 1) (rest := []) (tX11_snappedSet K.2.1 G pw_r72 m0) miX11_snappedSet mlX11_120 (pc := 48) dX11_count_48 rfl rfl (by decide) (Nat.le_of_ble_eq_true rfl) fun y2 =>
pw_iret (a := y2) (v := y2) hH rfl (pc := 51) dX11_count_51) (fun h3 => pw_if (fun h5 => pw_tIn (tgt := 52) (pc := 19) dX11_count_19 h5 (by decide) (by decide) rfl (by decide) <|
pw_aload_n (pc := 52) dX11_count_52 1 rfl <|
pw_getR (o := 71) (k := 0) (t := 72) (pw_sh_71) cfX11 rfl (by decide) flX11_9 (pc := 53) dX11_count_53 <|
pw_callS_ri (n := 1) (rest := []) (tX11_stungAll K.2.1 G pw_r72 m0) miX11_stungAll mlX11_254 (pc := 56) dX11_count_56 rfl rfl (by decide) (Nat.le_of_ble_eq_true rfl) fun y4 =>
pw_iret (a := y4) (v := y4) hH rfl (pc := 59) dX11_count_59) (fun h5 => pw_if (fun h16 => pw_tIn (tgt := 60) (pc := 19) dX11_count_19 h16 (by decide) (by decide) rfl (by decide) <|
pw_iconst (v := 0) (pc := 60) dX11_count_60 (by decide) <|
pw_istore_n [(3, .int (0 : Int32)), (2, .int (0 : Int32)), (0, .ref (pw_ad G 71)), (1, .int a1)] (pc := 61) dX11_count_61 (by decide) rfl <|
pw_sub [0, 1, 2] rfl <| pw_lp (fun (kk15 : Int32 → Int32 → Option Int32) => ∀ (v6 : Int32) (v7 : Int32), PW K G RX11 cX11_count 4 (some .int) 3 (pw_MQ K G (pw_Ri m0)) (kk15 v6 v7) 62 [(3, .int v7), (2, .int v6), (0, .ref (pw_ad G 71))] [] m0) (fun _ _ => pw_none) (fun nx8 hn9 v6 v7 => pw_iload_n (pc := 62) dX11_count_62 0 rfl <|
pw_aload_n (pc := 63) dX11_count_63 2 rfl <|
pw_getR (o := 71) (k := 0) (t := 72) (pw_sh_71) cfX11 rfl (by decide) flX11_9 (pc := 64) dX11_count_64 <|
pw_iconst (v := 1) (pc := 67) dX11_count_67 (by decide) <|
pw_iald (pw_shRow pw_r72) (pc := 68) dX11_count_68 <|
pw_icmp_ge  (tgt := 89) (pc := 69) dX11_count_69 (by decide) (fun h13 => pw_iload_n (pc := 89) dX11_count_89 1 rfl <|
pw_iret (a := v6) (v := v6) hH rfl (pc := 90) dX11_count_90) (fun h14 => pw_iload_n (pc := 72) dX11_count_72 1 rfl <|
pw_aload_n (pc := 73) dX11_count_73 2 rfl <|
pw_getR (o := 71) (k := 0) (t := 72) (pw_sh_71) cfX11 rfl (by decide) flX11_9 (pc := 74) dX11_count_74 <|
pw_iload_n (pc := 77) dX11_count_77 0 rfl <|
pw_callS_ri (n := 2) (rest := [.int v6]) (tX11_pull K.2.1 G pw_r72 v7 m0) miX11_pull mlX11_105 (pc := 78) dX11_count_78 rfl rfl (by decide) (Nat.le_of_ble_eq_true rfl) fun y10 =>
pw_iadd (pc := 81) dX11_count_81 <|
pw_ltI fun x11 => pw_istore_n [(2, .int x11), (3, .int v7), (0, .ref (pw_ad G 71))] (pc := 82) dX11_count_82 (by decide) rfl <|
pw_ltA fun x12 hxx12 => pw_iinc (v := x12) [(3, .int x12), (2, .int x11), (0, .ref (pw_ad G 71))] (pc := 83) dX11_count_83 1 rfl (by rw [hxx12]; rfl) (by decide) rfl <|
pw_goto (tgt := 62) (pc := 86) dX11_count_86 (by decide) <|
hn9 x11 x12)) FU (0 : Int32) (0 : Int32)) (fun h16 => pw_tOut (tgt := 91) (pc := 19) dX11_count_19 (by have q0 := lv_neT h3 (a := 4) rfl; have q1 := lv_neT h5 (a := 5) rfl; have q2 := lv_neT h16 (a := 6) rfl; omega) (by decide) <|
pw_iconst (v := -1) (pc := 91) dX11_count_91 (by decide) <|
pw_iret (a := (-1 : Int32)) (v := (-1 : Int32)) hH rfl (pc := 92) dX11_count_92)))))
set_option maxHeartbeats 4000000 in
theorem tX11_thrown (l : Launch) (G : pw_G)  (m0 : pw_Mem) : PMet l G yX11_thrown cX11_thrown 1 (some .int) 0 [.ref (pw_ad G 71)] m0 (pw_Ri m0) (fX11_thrown m0) :=
  pw_met (own := RX11) (l0 := [(0, .ref (pw_ad G 71))]) rfl (by decide) rfl (Nat.le_of_ble_eq_true rfl) fun K hK hH => by
  delta fX11_thrown
  exact (pw_aload_n (pc := 0) dX11_thrown_0 0 rfl <|
pw_getI (o := 71) (k := 21) (pw_sh_71) cfX11 rfl (by decide) flX11_261 (pc := 1) dX11_thrown_1 <|
pw_iret (a := (m0 71 21)) (v := (m0 71 21)) hH rfl (pc := 4) dX11_thrown_4)
set_option maxHeartbeats 4000000 in
theorem tX11_keep (l : Launch) (G : pw_G) (a1 : Int32) (a2 : Int32) (a3 : Int32) (a4 : Int32) (m0 : pw_Mem) : PMet l G yX11_keep cX11_keep 5 (some .int) 2 [.ref (pw_ad G 71), .int a1, .int a2, .int a3, .int a4] m0 pw_Wi (fX11_keep a1 a2 a3 a4 m0) :=
  pw_met (own := RX11) (l0 := [(0, .ref (pw_ad G 71)), (1, .int a1), (2, .int a2), (3, .int a3), (4, .int a4)]) rfl (by decide) rfl (Nat.le_of_ble_eq_true rfl) fun K hK hH => by
  delta fX11_keep
  exact (pw_iload_n (pc := 0) dX11_keep_0 1 rfl <|
pw_callS_rz (n := 1) (rest := []) (tX11_isShelf K.2.1 G a1 m0) miX11_isShelf mlX11_264 (pc := 1) dX11_keep_1 rfl rfl (by decide) (Nat.le_of_ble_eq_true rfl) fun y1 =>
pw_ifz_eq (tgt := 42) (pc := 4) dX11_keep_4 (by decide) (fun h18 => pw_iload_n (pc := 7) dX11_keep_7 2 rfl <|
pw_iconst (v := 0) (pc := 8) dX11_keep_8 (by decide) <|
pw_iconst (v := 1) (pc := 9) dX11_keep_9 (by decide) <|
pw_callS_rz (n := 3) (rest := []) (tX11_isIn K.2.1 G a2 (0 : Int32) (1 : Int32) m0) miX11_isIn mlX11_52 (pc := 10) dX11_keep_10 rfl rfl (by decide) (Nat.le_of_ble_eq_true rfl) fun y2 =>
pw_ifz_eq (tgt := 42) (pc := 13) dX11_keep_13 (by decide) (fun h16 => pw_iload_n (pc := 16) dX11_keep_16 2 rfl <|
pw_iconst (v := 1) (pc := 17) dX11_keep_17 (by decide) <|
pw_jn (fun (k6 : Option (Int32 × pw_Mem)) => PW K G RX11 cX11_keep 5 (some .int) 2 (pw_MQ K G pw_Wi) k6 44 [(0, .ref (pw_ad G 71)), (1, .int a1), (2, .int a2), (3, .int a3), (4, .int a4)] [] m0) (pw_aload_n (pc := 44) dX11_keep_44 0 rfl <|
pw_getR (o := 71) (k := 15) (t := 80) (pw_sh_71) cfX11 rfl (by decide) flX11_34 (pc := 45) dX11_keep_45 <|
pw_iload_n (pc := 48) dX11_keep_48 1 rfl <|
pw_iload_n (pc := 49) dX11_keep_49 2 rfl <|
pw_iast (pw_sh_80) (pc := 50) dX11_keep_50 <| pw_ltM fun m3 =>
pw_aload_n (pc := 51) dX11_keep_51 0 rfl <|
pw_getR (o := 71) (k := 16) (t := 81) (pw_sh_71) cfX11 rfl (by decide) flX11_37 (pc := 52) dX11_keep_52 <|
pw_iload_n (pc := 55) dX11_keep_55 1 rfl <|
pw_iload_n (pc := 56) dX11_keep_56 3 rfl <|
pw_iast (pw_sh_81) (pc := 57) dX11_keep_57 <| pw_ltM fun m4 =>
pw_aload_n (pc := 58) dX11_keep_58 0 rfl <|
pw_getR (o := 71) (k := 17) (t := 82) (pw_sh_71) cfX11 rfl (by decide) flX11_40 (pc := 59) dX11_keep_59 <|
pw_iload_n (pc := 62) dX11_keep_62 1 rfl <|
pw_iload (pc := 63) dX11_keep_63 4 rfl <|
pw_iast (pw_sh_82) (pc := 65) dX11_keep_65 <| pw_ltM fun m5 =>
pw_iconst (v := 0) (pc := 66) dX11_keep_66 (by decide) <|
pw_iret (a := (0 : Int32)) (v := ((0 : Int32), m5)) hH rfl (pc := 67) dX11_keep_67) (fun k6 hk7 => pw_icmp_ne  (tgt := 44) (pc := 18) dX11_keep_18 (by decide) (fun h14 => hk7) (fun h15 => pw_iload_n (pc := 21) dX11_keep_21 3 rfl <|
pw_iconst (v := 0) (pc := 22) dX11_keep_22 (by decide) <|
pw_bipush (v := 7) (pc := 23) dX11_keep_23 (by decide) <|
pw_callS_rz (n := 3) (rest := []) (tX11_isIn K.2.1 G a3 (0 : Int32) (7 : Int32) m0) miX11_isIn mlX11_52 (pc := 25) dX11_keep_25 rfl rfl (by decide) (Nat.le_of_ble_eq_true rfl) fun y8 =>
pw_ifz_eq (tgt := 42) (pc := 28) dX11_keep_28 (by decide) (fun h12 => pw_iload (pc := 31) dX11_keep_31 4 rfl <|
pw_iconst (v := 0) (pc := 33) dX11_keep_33 (by decide) <|
pw_bipush (v := 9) (pc := 34) dX11_keep_34 (by decide) <|
pw_callS_rz (n := 3) (rest := []) (tX11_isIn K.2.1 G a4 (0 : Int32) (9 : Int32) m0) miX11_isIn mlX11_52 (pc := 36) dX11_keep_36 rfl rfl (by decide) (Nat.le_of_ble_eq_true rfl) fun y9 =>
pw_ifz_ne (tgt := 44) (pc := 39) dX11_keep_39 (by decide) (fun h10 => hk7) (fun h11 => pw_iconst (v := -1) (pc := 42) dX11_keep_42 (by decide) <|
pw_iret (a := (-1 : Int32)) (v := ((-1 : Int32), m0)) hH rfl (pc := 43) dX11_keep_43)) (fun h13 => pw_iconst (v := -1) (pc := 42) dX11_keep_42 (by decide) <|
pw_iret (a := (-1 : Int32)) (v := ((-1 : Int32), m0)) hH rfl (pc := 43) dX11_keep_43)))) (fun h17 => pw_iconst (v := -1) (pc := 42) dX11_keep_42 (by decide) <|
pw_iret (a := (-1 : Int32)) (v := ((-1 : Int32), m0)) hH rfl (pc := 43) dX11_keep_43)) (fun h19 => pw_iconst (v := -1) (pc := 42) dX11_keep_42 (by decide) <|
pw_iret (a := (-1 : Int32)) (v := ((-1 : Int32), m0)) hH rfl (pc := 43) dX11_keep_43))
set_option maxHeartbeats 4000000 in
theorem tX11_row (l : Launch) (G : pw_G) (a1 : Int32) (a2 : Int32) (a3 : Int32) (m0 : pw_Mem) : PMet l G yX11_row cX11_row 5 (some .int) 2 [.ref (pw_ad G 71), .int a1, .int a2, .int a3] m0 pw_Wi (fX11_row a1 a2 a3 m0) :=
  pw_met (own := RX11) (l0 := [(0, .ref (pw_ad G 71)), (1, .int a1), (2, .int a2), (3, .int a3)]) rfl (by decide) rfl (Nat.le_of_ble_eq_true rfl) fun K hK hH => by
  delta fX11_row
  exact (pw_iload_n (pc := 0) dX11_row_0 1 rfl <|
pw_callS_rz (n := 1) (rest := []) (tX11_isShelf K.2.1 G a1 m0) miX11_isShelf mlX11_264 (pc := 1) dX11_row_1 rfl rfl (by decide) (Nat.le_of_ble_eq_true rfl) fun y1 =>
pw_ifz_eq (tgt := 22) (pc := 4) dX11_row_4 (by decide) (fun h21 => pw_iload_n (pc := 7) dX11_row_7 2 rfl <|
pw_iconst (v := 0) (pc := 8) dX11_row_8 (by decide) <|
pw_iconst (v := 2) (pc := 9) dX11_row_9 (by decide) <|
pw_callS_rz (n := 3) (rest := []) (tX11_isIn K.2.1 G a2 (0 : Int32) (2 : Int32) m0) miX11_isIn mlX11_52 (pc := 10) dX11_row_10 rfl rfl (by decide) (Nat.le_of_ble_eq_true rfl) fun y2 =>
pw_ifz_eq (tgt := 22) (pc := 13) dX11_row_13 (by decide) (fun h19 => pw_iload_n (pc := 16) dX11_row_16 3 rfl <|
pw_bipush (v := 100) (pc := 17) dX11_row_17 (by decide) <|
pw_icmp_le  (tgt := 24) (pc := 19) dX11_row_19 (by decide) (fun h17 => pw_iload_n (pc := 24) dX11_row_24 3 rfl <|
pw_if_ge (a := a3) (b := 0) (tgt := 31) (pc := 25) dX11_row_25 (by decide) (fun h15 => pw_aload_n (pc := 31) dX11_row_31 0 rfl <|
pw_getR (o := 71) (k := 15) (t := 80) (pw_sh_71) cfX11 rfl (by decide) flX11_34 (pc := 32) dX11_row_32 <|
pw_iload_n (pc := 35) dX11_row_35 1 rfl <|
pw_iconst (v := 2) (pc := 36) dX11_row_36 (by decide) <|
pw_iast (pw_sh_80) (pc := 37) dX11_row_37 <| pw_ltM fun m3 =>
pw_aload_n (pc := 38) dX11_row_38 0 rfl <|
pw_getR (o := 71) (k := 18) (t := 83) (pw_sh_71) cfX11 rfl (by decide) flX11_43 (pc := 39) dX11_row_39 <|
pw_iload_n (pc := 42) dX11_row_42 1 rfl <|
pw_iload_n (pc := 43) dX11_row_43 2 rfl <|
pw_iast (pw_sh_83) (pc := 44) dX11_row_44 <| pw_ltM fun m4 =>
pw_aload_n (pc := 45) dX11_row_45 0 rfl <|
pw_getR (o := 71) (k := 19) (t := 84) (pw_sh_71) cfX11 rfl (by decide) flX11_46 (pc := 46) dX11_row_46 <|
pw_iload_n (pc := 49) dX11_row_49 1 rfl <|
pw_iload_n (pc := 50) dX11_row_50 3 rfl <|
pw_iast (pw_sh_84) (pc := 51) dX11_row_51 <| pw_ltM fun m5 =>
pw_iconst (v := 0) (pc := 52) dX11_row_52 (by decide) <|
pw_istore [(4, .int (0 : Int32)), (0, .ref (pw_ad G 71)), (1, .int a1), (2, .int a2), (3, .int a3)] (pc := 53) dX11_row_53 (by decide) rfl <|
pw_sub [0, 1, 2] rfl <| pw_lp (fun (kk14 : Int32 → pw_Mem → Option (Int32 × pw_Mem)) => ∀ (v6 : Int32) (m7 : pw_Mem), PW K G RX11 cX11_row 5 (some .int) 2 (pw_MQ K G pw_Wi) (kk14 v6 m7) 55 [(4, .int v6), (0, .ref (pw_ad G 71)), (1, .int a1)] [] m7) (fun _ _ => pw_none) (fun nx8 hn9 v6 m7 => pw_iload (pc := 55) dX11_row_55 0 rfl <|
pw_bipush (v := 100) (pc := 57) dX11_row_57 (by decide) <|
pw_icmp_ge  (tgt := 81) (pc := 59) dX11_row_59 (by decide) (fun h12 => pw_iconst (v := 0) (pc := 81) dX11_row_81 (by decide) <|
pw_iret (a := (0 : Int32)) (v := ((0 : Int32), m7)) hH rfl (pc := 82) dX11_row_82) (fun h13 => pw_aload_n (pc := 62) dX11_row_62 1 rfl <|
pw_getR (o := 71) (k := 20) (t := 85) (pw_sh_71) cfX11 rfl (by decide) flX11_49 (pc := 63) dX11_row_63 <|
pw_bipush (v := 100) (pc := 66) dX11_row_66 (by decide) <|
pw_iload_n (pc := 68) dX11_row_68 2 rfl <|
pw_imul (pc := 69) dX11_row_69 <|
pw_iload (pc := 70) dX11_row_70 0 rfl <|
pw_iadd (pc := 72) dX11_row_72 <|
pw_iconst (v := 0) (pc := 73) dX11_row_73 (by decide) <|
pw_iast (pw_sh_85) (pc := 74) dX11_row_74 <| pw_ltM fun m10 =>
pw_ltA fun x11 hxx11 => pw_iinc (v := x11) [(4, .int x11), (0, .ref (pw_ad G 71)), (1, .int a1)] (pc := 75) dX11_row_75 0 rfl (by rw [hxx11]; rfl) (by decide) rfl <|
pw_goto (tgt := 55) (pc := 78) dX11_row_78 (by decide) <|
hn9 x11 m10)) FU (0 : Int32) m5) (fun h16 => pw_bipush (v := -14) (pc := 28) dX11_row_28 (by decide) <|
pw_iret (a := (-14 : Int32)) (v := ((-14 : Int32), m0)) hH rfl (pc := 30) dX11_row_30)) (fun h18 => pw_iconst (v := -1) (pc := 22) dX11_row_22 (by decide) <|
pw_iret (a := (-1 : Int32)) (v := ((-1 : Int32), m0)) hH rfl (pc := 23) dX11_row_23)) (fun h20 => pw_iconst (v := -1) (pc := 22) dX11_row_22 (by decide) <|
pw_iret (a := (-1 : Int32)) (v := ((-1 : Int32), m0)) hH rfl (pc := 23) dX11_row_23)) (fun h22 => pw_iconst (v := -1) (pc := 22) dX11_row_22 (by decide) <|
pw_iret (a := (-1 : Int32)) (v := ((-1 : Int32), m0)) hH rfl (pc := 23) dX11_row_23))
set_option maxHeartbeats 4000000 in
theorem tX11_put (l : Launch) (G : pw_G) (a1 : Int32) (a2 : Int32) (a3 : Int32) (m0 : pw_Mem) : PMet l G yX11_put cX11_put 5 (some .int) 3 [.ref (pw_ad G 71), .int a1, .int a2, .int a3] m0 pw_Wi (fX11_put a1 a2 a3 m0) :=
  pw_met (own := RX11) (l0 := [(0, .ref (pw_ad G 71)), (1, .int a1), (2, .int a2), (3, .int a3)]) rfl (by decide) rfl (Nat.le_of_ble_eq_true rfl) fun K hK hH => by
  delta fX11_put
  exact (pw_aload_n (pc := 0) dX11_put_0 0 rfl <|
pw_iload_n (pc := 1) dX11_put_1 1 rfl <|
pw_iconst (v := -1) (pc := 2) dX11_put_2 (by decide) <|
pw_callV_ri (n := 2) (rest := []) (tX11_wrongRow K.2.1 G a1 (-1 : Int32) m0) (pw_sh_71) cfX11 rfl miX11_wrongRow mlX11_167 (pc := 3) dX11_put_3 rfl rfl (by decide) (Nat.le_of_ble_eq_true rfl) fun y1 =>
pw_istore [(4, .int y1), (0, .ref (pw_ad G 71)), (1, .int a1), (2, .int a2), (3, .int a3)] (pc := 6) dX11_put_6 (by decide) rfl <|
pw_iload (pc := 8) dX11_put_8 0 rfl <|
pw_if_eq (a := y1) (b := 0) (tgt := 16) (pc := 10) dX11_put_10 (by decide) (fun h12 => pw_iload_n (pc := 16) dX11_put_16 3 rfl <|
pw_iconst (v := 0) (pc := 17) dX11_put_17 (by decide) <|
pw_aload_n (pc := 18) dX11_put_18 1 rfl <|
pw_getR (o := 71) (k := 19) (t := 84) (pw_sh_71) cfX11 rfl (by decide) flX11_46 (pc := 19) dX11_put_19 <|
pw_iload_n (pc := 22) dX11_put_22 2 rfl <|
pw_iald (pw_sh_84) (pc := 23) dX11_put_23 <|
pw_iconst (v := 1) (pc := 24) dX11_put_24 (by decide) <|
pw_isub (pc := 25) dX11_put_25 <|
pw_callS_rz (n := 3) (rest := []) (tX11_isIn K.2.1 G a2 (0 : Int32) ((m0 84 (a1).toNatClampNeg) - (1 : Int32)) m0) miX11_isIn mlX11_52 (pc := 26) dX11_put_26 rfl rfl (by decide) (Nat.le_of_ble_eq_true rfl) fun y2 =>
pw_ifz_ne (tgt := 35) (pc := 29) dX11_put_29 (by decide) (fun h10 => pw_aload_n (pc := 35) dX11_put_35 1 rfl <|
pw_getR (o := 71) (k := 20) (t := 85) (pw_sh_71) cfX11 rfl (by decide) flX11_49 (pc := 36) dX11_put_36 <|
pw_bipush (v := 100) (pc := 39) dX11_put_39 (by decide) <|
pw_iload_n (pc := 41) dX11_put_41 2 rfl <|
pw_imul (pc := 42) dX11_put_42 <|
pw_iload_n (pc := 43) dX11_put_43 3 rfl <|
pw_iadd (pc := 44) dX11_put_44 <|
pw_aload_n (pc := 45) dX11_put_45 1 rfl <|
pw_getR (o := 71) (k := 18) (t := 83) (pw_sh_71) cfX11 rfl (by decide) flX11_43 (pc := 46) dX11_put_46 <|
pw_iload_n (pc := 49) dX11_put_49 2 rfl <|
pw_iald (pw_sh_83) (pc := 50) dX11_put_50 <|
pw_if_ne (a := (m0 83 (a1).toNatClampNeg)) (b := 0) (tgt := 59) (pc := 51) dX11_put_51 (by decide) (fun h8 => pw_aload_n (pc := 59) dX11_put_59 1 rfl <|
pw_getR (o := 71) (k := 18) (t := 83) (pw_sh_71) cfX11 rfl (by decide) flX11_43 (pc := 60) dX11_put_60 <|
pw_iload_n (pc := 63) dX11_put_63 2 rfl <|
pw_iald (pw_sh_83) (pc := 64) dX11_put_64 <|
pw_iconst (v := 1) (pc := 65) dX11_put_65 (by decide) <|
pw_icmp_ne  (tgt := 74) (pc := 66) dX11_put_66 (by decide) (fun h5 => pw_iload_n (pc := 74) dX11_put_74 4 rfl <|
pw_iast (pw_sh_85) (pc := 75) dX11_put_75 <| pw_ltM fun m3 =>
pw_iconst (v := 0) (pc := 76) dX11_put_76 (by decide) <|
pw_iret (a := (0 : Int32)) (v := ((0 : Int32), m3)) hH rfl (pc := 77) dX11_put_77) (fun h6 => pw_iload_n (pc := 69) dX11_put_69 4 rfl <|
pw_i2s (pc := 70) dX11_put_70 <|
pw_goto (tgt := 75) (pc := 71) dX11_put_71 (by decide) <|
pw_iast (pw_sh_85) (pc := 75) dX11_put_75 <| pw_ltM fun m4 =>
pw_iconst (v := 0) (pc := 76) dX11_put_76 (by decide) <|
pw_iret (a := (0 : Int32)) (v := ((0 : Int32), m4)) hH rfl (pc := 77) dX11_put_77)) (fun h9 => pw_iload_n (pc := 54) dX11_put_54 4 rfl <|
pw_i2b (pc := 55) dX11_put_55 <|
pw_goto (tgt := 75) (pc := 56) dX11_put_56 (by decide) <|
pw_iast (pw_sh_85) (pc := 75) dX11_put_75 <| pw_ltM fun m7 =>
pw_iconst (v := 0) (pc := 76) dX11_put_76 (by decide) <|
pw_iret (a := (0 : Int32)) (v := ((0 : Int32), m7)) hH rfl (pc := 77) dX11_put_77)) (fun h11 => pw_bipush (v := -13) (pc := 32) dX11_put_32 (by decide) <|
pw_iret (a := (-13 : Int32)) (v := ((-13 : Int32), m0)) hH rfl (pc := 34) dX11_put_34)) (fun h13 => pw_iload (pc := 13) dX11_put_13 0 rfl <|
pw_iret (a := y1) (v := (y1, m0)) hH rfl (pc := 15) dX11_put_15))
set_option maxHeartbeats 4000000 in
theorem tX11_element (l : Launch) (G : pw_G) (a1 : Int32) (a2 : Int32) (m0 : pw_Mem) : PMet l G yX11_element cX11_element 3 (some .long) 2 [.ref (pw_ad G 71), .int a1, .int a2] m0 pw_Wl (fX11_element a1 a2 m0) :=
  pw_met (own := RX11) (l0 := [(0, .ref (pw_ad G 71)), (1, .int a1), (2, .int a2)]) rfl (by decide) rfl (Nat.le_of_ble_eq_true rfl) fun K hK hH => by
  delta fX11_element
  exact (pw_aload_n (pc := 0) dX11_element_0 0 rfl <|
pw_iload_n (pc := 1) dX11_element_1 1 rfl <|
pw_callS_rz (n := 1) (rest := [.ref (pw_ad G 71)]) (tX11_isShelf K.2.1 G a1 m0) miX11_isShelf mlX11_264 (pc := 2) dX11_element_2 rfl rfl (by decide) (Nat.le_of_ble_eq_true rfl) fun y1 =>
pw_jn (fun (k6 : Int32 → Option (Int64 × pw_Mem)) => ∀ (w2 : Int32), PW K G RX11 cX11_element 3 (some .long) 2 (pw_MQ K G pw_Wl) (k6 w2) 43 [(0, .ref (pw_ad G 71)), (1, .int a1), (2, .int a2)] [.int w2, .ref (pw_ad G 71)] m0) (fun w2 => pw_putI (o := 71) (k := 21) (pw_sh_71) cfX11 rfl (by decide) flX11_261 rfl (ft := .int) rfl rfl rfl (pc := 43) dX11_element_43 <|
pw_ltM fun m3 => pw_aload_n (pc := 46) dX11_element_46 0 rfl <|
pw_getI (o := 71) (k := 21) (pw_sh_71) cfX11 rfl (by decide) flX11_261 (pc := 47) dX11_element_47 <|
pw_if_ne (a := (m3 71 21)) (b := 0) (tgt := 68) (pc := 50) dX11_element_50 (by decide) (fun h4 => pw_lconst (v := 0) (pc := 68) dX11_element_68 rfl <|
pw_lret hH rfl (pc := 69) dX11_element_69) (fun h5 => pw_aload_n (pc := 53) dX11_element_53 0 rfl <|
pw_getR (o := 71) (k := 20) (t := 85) (pw_sh_71) cfX11 rfl (by decide) flX11_49 (pc := 54) dX11_element_54 <|
pw_bipush (v := 100) (pc := 57) dX11_element_57 (by decide) <|
pw_iload_n (pc := 59) dX11_element_59 1 rfl <|
pw_imul (pc := 60) dX11_element_60 <|
pw_iload_n (pc := 61) dX11_element_61 2 rfl <|
pw_iadd (pc := 62) dX11_element_62 <|
pw_iald (pw_sh_85) (pc := 63) dX11_element_63 <|
pw_i2l (pc := 64) dX11_element_64 <|
pw_goto (tgt := 69) (pc := 65) dX11_element_65 (by decide) <|
pw_lret hH rfl (pc := 69) dX11_element_69)) (fun k6 hk7 => pw_ifz_ne (tgt := 12) (pc := 5) dX11_element_5 (by decide) (fun h15 => pw_aload_n (pc := 12) dX11_element_12 0 rfl <|
pw_getR (o := 71) (k := 15) (t := 80) (pw_sh_71) cfX11 rfl (by decide) flX11_34 (pc := 13) dX11_element_13 <|
pw_iload_n (pc := 16) dX11_element_16 1 rfl <|
pw_iald (pw_sh_80) (pc := 17) dX11_element_17 <|
pw_iconst (v := 2) (pc := 18) dX11_element_18 (by decide) <|
pw_jn (fun (k8 : Option (Int64 × pw_Mem)) => PW K G RX11 cX11_element 3 (some .long) 2 (pw_MQ K G pw_Wl) k8 38 [(0, .ref (pw_ad G 71)), (1, .int a1), (2, .int a2)] [.ref (pw_ad G 71)] m0) (pw_iconst (v := 2) (pc := 38) dX11_element_38 (by decide) <|
pw_goto (tgt := 43) (pc := 39) dX11_element_39 (by decide) <|
hk7 (2 : Int32)) (fun k8 hk9 => pw_icmp_ne  (tgt := 38) (pc := 19) dX11_element_19 (by decide) (fun h13 => hk9) (fun h14 => pw_iload_n (pc := 22) dX11_element_22 2 rfl <|
pw_iconst (v := 0) (pc := 23) dX11_element_23 (by decide) <|
pw_aload_n (pc := 24) dX11_element_24 0 rfl <|
pw_getR (o := 71) (k := 19) (t := 84) (pw_sh_71) cfX11 rfl (by decide) flX11_46 (pc := 25) dX11_element_25 <|
pw_iload_n (pc := 28) dX11_element_28 1 rfl <|
pw_iald (pw_sh_84) (pc := 29) dX11_element_29 <|
pw_iconst (v := 1) (pc := 30) dX11_element_30 (by decide) <|
pw_isub (pc := 31) dX11_element_31 <|
pw_callS_rz (n := 3) (rest := [.ref (pw_ad G 71)]) (tX11_isIn K.2.1 G a2 (0 : Int32) ((m0 84 (a1).toNatClampNeg) - (1 : Int32)) m0) miX11_isIn mlX11_52 (pc := 32) dX11_element_32 rfl rfl (by decide) (Nat.le_of_ble_eq_true rfl) fun y10 =>
pw_ifz_ne (tgt := 42) (pc := 35) dX11_element_35 (by decide) (fun h11 => pw_iconst (v := 0) (pc := 42) dX11_element_42 (by decide) <|
hk7 (0 : Int32)) (fun h12 => hk9)))) (fun h16 => pw_iconst (v := 1) (pc := 8) dX11_element_8 (by decide) <|
pw_goto (tgt := 43) (pc := 9) dX11_element_9 (by decide) <|
hk7 (1 : Int32))))
set_option maxHeartbeats 4000000 in
theorem tX11_copy (l : Launch) (G : pw_G) (a1 : Int32) (a2 : Int32) (a3 : Int32) (a4 : Int32) (a5 : Int32) (m0 : pw_Mem) : PMet l G yX11_copy cX11_copy 8 (some .int) 2 [.ref (pw_ad G 71), .int a1, .int a2, .int a3, .int a4, .int a5] m0 pw_Wi (fX11_copy a1 a2 a3 a4 a5 m0) :=
  pw_met (own := RX11) (l0 := [(0, .ref (pw_ad G 71)), (1, .int a1), (2, .int a2), (3, .int a3), (4, .int a4), (5, .int a5)]) rfl (by decide) rfl (Nat.le_of_ble_eq_true rfl) fun K hK hH => by
  delta fX11_copy
  exact (pw_iload_n (pc := 0) dX11_copy_0 1 rfl <|
pw_callS_rz (n := 1) (rest := []) (tX11_isShelf K.2.1 G a1 m0) miX11_isShelf mlX11_264 (pc := 1) dX11_copy_1 rfl rfl (by decide) (Nat.le_of_ble_eq_true rfl) fun y1 =>
pw_ifz_eq (tgt := 14) (pc := 4) dX11_copy_4 (by decide) (fun h39 => pw_iload_n (pc := 7) dX11_copy_7 3 rfl <|
pw_callS_rz (n := 1) (rest := []) (tX11_isShelf K.2.1 G a3 m0) miX11_isShelf mlX11_264 (pc := 8) dX11_copy_8 rfl rfl (by decide) (Nat.le_of_ble_eq_true rfl) fun y2 =>
pw_ifz_ne (tgt := 16) (pc := 11) dX11_copy_11 (by decide) (fun h37 => pw_aload_n (pc := 16) dX11_copy_16 0 rfl <|
pw_getR (o := 71) (k := 15) (t := 80) (pw_sh_71) cfX11 rfl (by decide) flX11_34 (pc := 17) dX11_copy_17 <|
pw_iload_n (pc := 20) dX11_copy_20 1 rfl <|
pw_iald (pw_sh_80) (pc := 21) dX11_copy_21 <|
pw_if_eq (a := (m0 80 (a1).toNatClampNeg)) (b := 0) (tgt := 34) (pc := 22) dX11_copy_22 (by decide) (fun h35 => pw_bipush (v := -11) (pc := 34) dX11_copy_34 (by decide) <|
pw_iret (a := (-11 : Int32)) (v := ((-11 : Int32), m0)) hH rfl (pc := 36) dX11_copy_36) (fun h36 => pw_aload_n (pc := 25) dX11_copy_25 0 rfl <|
pw_getR (o := 71) (k := 15) (t := 80) (pw_sh_71) cfX11 rfl (by decide) flX11_34 (pc := 26) dX11_copy_26 <|
pw_iload_n (pc := 29) dX11_copy_29 3 rfl <|
pw_iald (pw_sh_80) (pc := 30) dX11_copy_30 <|
pw_if_ne (a := (m0 80 (a3).toNatClampNeg)) (b := 0) (tgt := 37) (pc := 31) dX11_copy_31 (by decide) (fun h33 => pw_aload_n (pc := 37) dX11_copy_37 0 rfl <|
pw_getR (o := 71) (k := 15) (t := 80) (pw_sh_71) cfX11 rfl (by decide) flX11_34 (pc := 38) dX11_copy_38 <|
pw_iload_n (pc := 41) dX11_copy_41 1 rfl <|
pw_iald (pw_sh_80) (pc := 42) dX11_copy_42 <|
pw_iconst (v := 2) (pc := 43) dX11_copy_43 (by decide) <|
pw_icmp_ne  (tgt := 72) (pc := 44) dX11_copy_44 (by decide) (fun h31 => pw_bipush (v := -12) (pc := 72) dX11_copy_72 (by decide) <|
pw_iret (a := (-12 : Int32)) (v := ((-12 : Int32), m0)) hH rfl (pc := 74) dX11_copy_74) (fun h32 => pw_aload_n (pc := 47) dX11_copy_47 0 rfl <|
pw_getR (o := 71) (k := 15) (t := 80) (pw_sh_71) cfX11 rfl (by decide) flX11_34 (pc := 48) dX11_copy_48 <|
pw_iload_n (pc := 51) dX11_copy_51 3 rfl <|
pw_iald (pw_sh_80) (pc := 52) dX11_copy_52 <|
pw_iconst (v := 2) (pc := 53) dX11_copy_53 (by decide) <|
pw_icmp_ne  (tgt := 72) (pc := 54) dX11_copy_54 (by decide) (fun h29 => pw_bipush (v := -12) (pc := 72) dX11_copy_72 (by decide) <|
pw_iret (a := (-12 : Int32)) (v := ((-12 : Int32), m0)) hH rfl (pc := 74) dX11_copy_74) (fun h30 => pw_aload_n (pc := 57) dX11_copy_57 0 rfl <|
pw_getR (o := 71) (k := 18) (t := 83) (pw_sh_71) cfX11 rfl (by decide) flX11_43 (pc := 58) dX11_copy_58 <|
pw_iload_n (pc := 61) dX11_copy_61 1 rfl <|
pw_iald (pw_sh_83) (pc := 62) dX11_copy_62 <|
pw_aload_n (pc := 63) dX11_copy_63 0 rfl <|
pw_getR (o := 71) (k := 18) (t := 83) (pw_sh_71) cfX11 rfl (by decide) flX11_43 (pc := 64) dX11_copy_64 <|
pw_iload_n (pc := 67) dX11_copy_67 3 rfl <|
pw_iald (pw_sh_83) (pc := 68) dX11_copy_68 <|
pw_icmp_eq  (tgt := 75) (pc := 69) dX11_copy_69 (by decide) (fun h27 => pw_iload (pc := 75) dX11_copy_75 5 rfl <|
pw_if_lt (a := a5) (b := 0) (tgt := 116) (pc := 77) dX11_copy_77 (by decide) (fun h25 => pw_bipush (v := -13) (pc := 116) dX11_copy_116 (by decide) <|
pw_iret (a := (-13 : Int32)) (v := ((-13 : Int32), m0)) hH rfl (pc := 118) dX11_copy_118) (fun h26 => pw_iload_n (pc := 80) dX11_copy_80 2 rfl <|
pw_if_lt (a := a2) (b := 0) (tgt := 116) (pc := 81) dX11_copy_81 (by decide) (fun h23 => pw_bipush (v := -13) (pc := 116) dX11_copy_116 (by decide) <|
pw_iret (a := (-13 : Int32)) (v := ((-13 : Int32), m0)) hH rfl (pc := 118) dX11_copy_118) (fun h24 => pw_iload (pc := 84) dX11_copy_84 4 rfl <|
pw_if_lt (a := a4) (b := 0) (tgt := 116) (pc := 86) dX11_copy_86 (by decide) (fun h21 => pw_bipush (v := -13) (pc := 116) dX11_copy_116 (by decide) <|
pw_iret (a := (-13 : Int32)) (v := ((-13 : Int32), m0)) hH rfl (pc := 118) dX11_copy_118) (fun h22 => pw_iload (pc := 89) dX11_copy_89 5 rfl <|
pw_aload_n (pc := 91) dX11_copy_91 0 rfl <|
pw_getR (o := 71) (k := 19) (t := 84) (pw_sh_71) cfX11 rfl (by decide) flX11_46 (pc := 92) dX11_copy_92 <|
pw_iload_n (pc := 95) dX11_copy_95 1 rfl <|
pw_iald (pw_sh_84) (pc := 96) dX11_copy_96 <|
pw_iload_n (pc := 97) dX11_copy_97 2 rfl <|
pw_isub (pc := 98) dX11_copy_98 <|
pw_icmp_gt  (tgt := 116) (pc := 99) dX11_copy_99 (by decide) (fun h19 => pw_bipush (v := -13) (pc := 116) dX11_copy_116 (by decide) <|
pw_iret (a := (-13 : Int32)) (v := ((-13 : Int32), m0)) hH rfl (pc := 118) dX11_copy_118) (fun h20 => pw_iload (pc := 102) dX11_copy_102 5 rfl <|
pw_aload_n (pc := 104) dX11_copy_104 0 rfl <|
pw_getR (o := 71) (k := 19) (t := 84) (pw_sh_71) cfX11 rfl (by decide) flX11_46 (pc := 105) dX11_copy_105 <|
pw_iload_n (pc := 108) dX11_copy_108 3 rfl <|
pw_iald (pw_sh_84) (pc := 109) dX11_copy_109 <|
pw_iload (pc := 110) dX11_copy_110 4 rfl <|
pw_isub (pc := 112) dX11_copy_112 <|
pw_icmp_le  (tgt := 119) (pc := 113) dX11_copy_113 (by decide) (fun h17 => pw_iconst (v := 0) (pc := 119) dX11_copy_119 (by decide) <|
pw_istore [(6, .int (0 : Int32)), (0, .ref (pw_ad G 71)), (1, .int a1), (2, .int a2), (3, .int a3), (4, .int a4), (5, .int a5)] (pc := 120) dX11_copy_120 (by decide) rfl <|
pw_lp (fun (kk16 : Int32 → pw_Mem → Option (Int32 × pw_Mem)) => ∀ (v3 : Int32) (m4 : pw_Mem), PW K G RX11 cX11_copy 8 (some .int) 2 (pw_MQ K G pw_Wi) (kk16 v3 m4) 122 [(6, .int v3), (0, .ref (pw_ad G 71)), (1, .int a1), (2, .int a2), (3, .int a3), (4, .int a4), (5, .int a5)] [] m4) (fun _ _ => pw_none) (fun nx5 hn6 v3 m4 => pw_iload (pc := 122) dX11_copy_122 0 rfl <|
pw_iload (pc := 124) dX11_copy_124 6 rfl <|
pw_icmp_ge  (tgt := 184) (pc := 126) dX11_copy_126 (by decide) (fun h14 => pw_iload (pc := 184) dX11_copy_184 6 rfl <|
pw_iret (a := a5) (v := (a5, m4)) hH rfl (pc := 186) dX11_copy_186) (fun h15 => pw_iload_n (pc := 129) dX11_copy_129 3 rfl <|
pw_iload (pc := 130) dX11_copy_130 5 rfl <|
pw_jn (fun (k10 : Int32 → Option (Int32 × pw_Mem)) => ∀ (w7 : Int32), PW K G RX11 cX11_copy 8 (some .int) 2 (pw_MQ K G pw_Wi) (k10 w7) 147 [(6, .int v3), (0, .ref (pw_ad G 71)), (1, .int a1), (2, .int a2), (3, .int a3), (4, .int a4), (5, .int a5)] [.int w7] m4) (fun w7 => pw_istore [(7, .int w7), (6, .int v3), (0, .ref (pw_ad G 71)), (1, .int a1), (2, .int a2), (3, .int a3), (4, .int a4), (5, .int a5)] (pc := 147) dX11_copy_147 (by decide) rfl <|
pw_aload_n (pc := 149) dX11_copy_149 2 rfl <|
pw_getR (o := 71) (k := 20) (t := 85) (pw_sh_71) cfX11 rfl (by decide) flX11_49 (pc := 150) dX11_copy_150 <|
pw_bipush (v := 100) (pc := 153) dX11_copy_153 (by decide) <|
pw_iload_n (pc := 155) dX11_copy_155 5 rfl <|
pw_imul (pc := 156) dX11_copy_156 <|
pw_iload (pc := 157) dX11_copy_157 6 rfl <|
pw_iadd (pc := 159) dX11_copy_159 <|
pw_iload (pc := 160) dX11_copy_160 0 rfl <|
pw_iadd (pc := 162) dX11_copy_162 <|
pw_aload_n (pc := 163) dX11_copy_163 2 rfl <|
pw_getR (o := 71) (k := 20) (t := 85) (pw_sh_71) cfX11 rfl (by decide) flX11_49 (pc := 164) dX11_copy_164 <|
pw_bipush (v := 100) (pc := 167) dX11_copy_167 (by decide) <|
pw_iload_n (pc := 169) dX11_copy_169 3 rfl <|
pw_imul (pc := 170) dX11_copy_170 <|
pw_iload_n (pc := 171) dX11_copy_171 4 rfl <|
pw_iadd (pc := 172) dX11_copy_172 <|
pw_iload (pc := 173) dX11_copy_173 0 rfl <|
pw_iadd (pc := 175) dX11_copy_175 <|
pw_iald (pw_sh_85) (pc := 176) dX11_copy_176 <|
pw_iast (pw_sh_85) (pc := 177) dX11_copy_177 <| pw_ltM fun m8 =>
pw_ltA fun x9 hxx9 => pw_iinc (v := x9) [(6, .int x9), (7, .int w7), (0, .ref (pw_ad G 71)), (1, .int a1), (2, .int a2), (3, .int a3), (4, .int a4), (5, .int a5)] (pc := 178) dX11_copy_178 1 rfl (by rw [hxx9]; rfl) (by decide) rfl <|
pw_goto (tgt := 122) (pc := 181) dX11_copy_181 (by decide) <|
pw_sub [0, 2, 3, 4, 5, 6, 7] rfl <| hn6 x9 m8) (fun k10 hk11 => pw_icmp_le  (tgt := 140) (pc := 132) dX11_copy_132 (by decide) (fun h12 => pw_iload (pc := 140) dX11_copy_140 6 rfl <|
pw_iconst (v := 1) (pc := 142) dX11_copy_142 (by decide) <|
pw_isub (pc := 143) dX11_copy_143 <|
pw_iload (pc := 144) dX11_copy_144 0 rfl <|
pw_isub (pc := 146) dX11_copy_146 <|
hk11 ((a5 - (1 : Int32)) - v3)) (fun h13 => pw_iload (pc := 135) dX11_copy_135 0 rfl <|
pw_goto (tgt := 147) (pc := 137) dX11_copy_137 (by decide) <|
hk11 v3)))) FU (0 : Int32) m0) (fun h18 => pw_bipush (v := -13) (pc := 116) dX11_copy_116 (by decide) <|
pw_iret (a := (-13 : Int32)) (v := ((-13 : Int32), m0)) hH rfl (pc := 118) dX11_copy_118)))))) (fun h28 => pw_bipush (v := -12) (pc := 72) dX11_copy_72 (by decide) <|
pw_iret (a := (-12 : Int32)) (v := ((-12 : Int32), m0)) hH rfl (pc := 74) dX11_copy_74)))) (fun h34 => pw_bipush (v := -11) (pc := 34) dX11_copy_34 (by decide) <|
pw_iret (a := (-11 : Int32)) (v := ((-11 : Int32), m0)) hH rfl (pc := 36) dX11_copy_36))) (fun h38 => pw_iconst (v := -1) (pc := 14) dX11_copy_14 (by decide) <|
pw_iret (a := (-1 : Int32)) (v := ((-1 : Int32), m0)) hH rfl (pc := 15) dX11_copy_15)) (fun h40 => pw_iconst (v := -1) (pc := 14) dX11_copy_14 (by decide) <|
pw_iret (a := (-1 : Int32)) (v := ((-1 : Int32), m0)) hH rfl (pc := 15) dX11_copy_15))
set_option maxHeartbeats 4000000 in
theorem tX11_costBy (l : Launch) (G : pw_G) (a1 : Int32) (a2 : Int32) (m0 : pw_Mem) : PMet l G yX11_costBy cX11_costBy 2 (some .int) 0 [.int a1, .int a2] m0 (pw_Ri m0) (fX11_costBy a1 a2 m0) :=
  pw_met (own := RX11) (l0 := [(0, .int a1), (1, .int a2)]) rfl (by decide) rfl (Nat.le_of_ble_eq_true rfl) fun K hK hH => by
  delta fX11_costBy
  exact (pw_iload_n (pc := 0) dX11_costBy_0 0 rfl <|
pw_if (fun h1 => pw_tIn (tgt := 44) (pc := 1) dX11_costBy_1 h1 (by decide) (by decide) rfl (by decide) <|
pw_iconst (v := 2) (pc := 44) dX11_costBy_44 (by decide) <|
pw_iload_n (pc := 45) dX11_costBy_45 1 rfl <|
pw_iadd (pc := 46) dX11_costBy_46 <|
pw_iret (a := ((2 : Int32) + a2)) (v := ((2 : Int32) + a2)) hH rfl (pc := 47) dX11_costBy_47) (fun h1 => pw_if (fun h2 => pw_tIn (tgt := 48) (pc := 1) dX11_costBy_1 h2 (by decide) (by decide) rfl (by decide) <|
pw_iconst (v := 4) (pc := 48) dX11_costBy_48 (by decide) <|
pw_iconst (v := 2) (pc := 49) dX11_costBy_49 (by decide) <|
pw_iload_n (pc := 50) dX11_costBy_50 1 rfl <|
pw_imul (pc := 51) dX11_costBy_51 <|
pw_iadd (pc := 52) dX11_costBy_52 <|
pw_iret (a := ((4 : Int32) + ((2 : Int32) * a2))) (v := ((4 : Int32) + ((2 : Int32) * a2))) hH rfl (pc := 53) dX11_costBy_53) (fun h2 => pw_if (fun h3 => pw_tIn (tgt := 54) (pc := 1) dX11_costBy_1 h3 (by decide) (by decide) rfl (by decide) <|
pw_iconst (v := 1) (pc := 54) dX11_costBy_54 (by decide) <|
pw_iret (a := (1 : Int32)) (v := (1 : Int32)) hH rfl (pc := 55) dX11_costBy_55) (fun h3 => pw_if (fun h4 => pw_tIn (tgt := 56) (pc := 1) dX11_costBy_1 h4 (by decide) (by decide) rfl (by decide) <|
pw_iconst (v := 5) (pc := 56) dX11_costBy_56 (by decide) <|
pw_iret (a := (5 : Int32)) (v := (5 : Int32)) hH rfl (pc := 57) dX11_costBy_57) (fun h4 => pw_if (fun h5 => pw_tIn (tgt := 58) (pc := 1) dX11_costBy_1 h5 (by decide) (by decide) rfl (by decide) <|
pw_iload_n (pc := 58) dX11_costBy_58 1 rfl <|
pw_iret (a := a2) (v := a2) hH rfl (pc := 59) dX11_costBy_59) (fun h5 => pw_if (fun h6 => pw_tIn (tgt := 60) (pc := 1) dX11_costBy_1 h6 (by decide) (by decide) rfl (by decide) <|
pw_bipush (v := 7) (pc := 60) dX11_costBy_60 (by decide) <|
pw_iret (a := (7 : Int32)) (v := (7 : Int32)) hH rfl (pc := 62) dX11_costBy_62) (fun h6 => pw_if (fun h7 => pw_tIn (tgt := 63) (pc := 1) dX11_costBy_1 h7 (by decide) (by decide) rfl (by decide) <|
pw_iconst (v := 1) (pc := 63) dX11_costBy_63 (by decide) <|
pw_iload_n (pc := 64) dX11_costBy_64 1 rfl <|
pw_iadd (pc := 65) dX11_costBy_65 <|
pw_iret (a := ((1 : Int32) + a2)) (v := ((1 : Int32) + a2)) hH rfl (pc := 66) dX11_costBy_66) (fun h7 => pw_tOut (tgt := 67) (pc := 1) dX11_costBy_1 (by have q0 := lv_neT h1 (a := 1) rfl; have q1 := lv_neT h2 (a := 2) rfl; have q2 := lv_neT h3 (a := 3) rfl; have q3 := lv_neT h4 (a := 4) rfl; have q4 := lv_neT h5 (a := 5) rfl; have q5 := lv_neT h6 (a := 6) rfl; have q6 := lv_neT h7 (a := 7) rfl; omega) (by decide) <|
pw_iconst (v := 2) (pc := 67) dX11_costBy_67 (by decide) <|
pw_iret (a := (2 : Int32)) (v := (2 : Int32)) hH rfl (pc := 68) dX11_costBy_68))))))))
set_option maxHeartbeats 4000000 in
theorem tX11_cost (l : Launch) (G : pw_G) (a1 : Int32) (m0 : pw_Mem) : PMet l G yX11_cost cX11_cost 3 (some .int) 3 [.ref (pw_ad G 71), .int a1] m0 (pw_Ri m0) (fX11_cost a1 m0) :=
  pw_met (own := RX11) (l0 := [(0, .ref (pw_ad G 71)), (1, .int a1)]) rfl (by decide) rfl (Nat.le_of_ble_eq_true rfl) fun K hK hH => by
  delta fX11_cost
  exact (pw_aload_n (pc := 0) dX11_cost_0 0 rfl <|
pw_iload_n (pc := 1) dX11_cost_1 1 rfl <|
pw_callV_ri (n := 1) (rest := []) (tX11_wrongKept K.2.1 G a1 m0) (pw_sh_71) cfX11 rfl miX11_wrongKept mlX11_177 (pc := 2) dX11_cost_2 rfl rfl (by decide) (Nat.le_of_ble_eq_true rfl) fun y1 =>
pw_istore_n [(2, .int y1), (0, .ref (pw_ad G 71)), (1, .int a1)] (pc := 5) dX11_cost_5 (by decide) rfl <|
pw_iload_n (pc := 6) dX11_cost_6 0 rfl <|
pw_if_eq (a := y1) (b := 0) (tgt := 14) (pc := 7) dX11_cost_7 (by decide) (fun h3 => pw_aload_n (pc := 14) dX11_cost_14 1 rfl <|
pw_getR (o := 71) (k := 16) (t := 81) (pw_sh_71) cfX11 rfl (by decide) flX11_37 (pc := 15) dX11_cost_15 <|
pw_iload_n (pc := 18) dX11_cost_18 2 rfl <|
pw_iald (pw_sh_81) (pc := 19) dX11_cost_19 <|
pw_aload_n (pc := 20) dX11_cost_20 1 rfl <|
pw_getR (o := 71) (k := 17) (t := 82) (pw_sh_71) cfX11 rfl (by decide) flX11_40 (pc := 21) dX11_cost_21 <|
pw_iload_n (pc := 24) dX11_cost_24 2 rfl <|
pw_iald (pw_sh_82) (pc := 25) dX11_cost_25 <|
pw_callS_ri (n := 2) (rest := []) (tX11_costBy K.2.1 G (m0 81 (a1).toNatClampNeg) (m0 82 (a1).toNatClampNeg) m0) miX11_costBy mlX11_267 (pc := 26) dX11_cost_26 rfl rfl (by decide) (Nat.le_of_ble_eq_true rfl) fun y2 =>
pw_iret (a := y2) (v := y2) hH rfl (pc := 29) dX11_cost_29) (fun h4 => pw_iload_n (pc := 10) dX11_cost_10 0 rfl <|
pw_goto (tgt := 29) (pc := 11) dX11_cost_11 (by decide) <|
pw_iret (a := y1) (v := y1) hH rfl (pc := 29) dX11_cost_29))
set_option maxHeartbeats 4000000 in
theorem tX11_toss (l : Launch) (G : pw_G) (a1 : Int32) (m0 : pw_Mem) : PMet l G yX11_toss cX11_toss 5 (some .int) 3 [.ref (pw_ad G 71), .int a1] m0 (pw_Ri m0) (fX11_toss a1 m0) :=
  pw_met (own := RX11) (l0 := [(0, .ref (pw_ad G 71)), (1, .int a1)]) rfl (by decide) rfl (Nat.le_of_ble_eq_true rfl) fun K hK hH => by
  delta fX11_toss
  exact (pw_aload_n (pc := 0) dX11_toss_0 0 rfl <|
pw_iload_n (pc := 1) dX11_toss_1 1 rfl <|
pw_callV_ri (n := 1) (rest := []) (tX11_wrongKept K.2.1 G a1 m0) (pw_sh_71) cfX11 rfl miX11_wrongKept mlX11_177 (pc := 2) dX11_toss_2 rfl rfl (by decide) (Nat.le_of_ble_eq_true rfl) fun y1 =>
pw_istore_n [(2, .int y1), (0, .ref (pw_ad G 71)), (1, .int a1)] (pc := 5) dX11_toss_5 (by decide) rfl <|
pw_iload_n (pc := 6) dX11_toss_6 0 rfl <|
pw_if_eq (a := y1) (b := 0) (tgt := 12) (pc := 7) dX11_toss_7 (by decide) (fun h17 => pw_aload_n (pc := 12) dX11_toss_12 1 rfl <|
pw_getR (o := 71) (k := 16) (t := 81) (pw_sh_71) cfX11 rfl (by decide) flX11_37 (pc := 13) dX11_toss_13 <|
pw_iload_n (pc := 16) dX11_toss_16 2 rfl <|
pw_iald (pw_sh_81) (pc := 17) dX11_toss_17 <|
pw_ltI fun x2 => pw_istore_n [(3, .int x2), (2, .int y1), (0, .ref (pw_ad G 71)), (1, .int a1)] (pc := 18) dX11_toss_18 (by decide) rfl <|
pw_aload_n (pc := 19) dX11_toss_19 2 rfl <|
pw_getR (o := 71) (k := 17) (t := 82) (pw_sh_71) cfX11 rfl (by decide) flX11_40 (pc := 20) dX11_toss_20 <|
pw_iload_n (pc := 23) dX11_toss_23 3 rfl <|
pw_iald (pw_sh_82) (pc := 24) dX11_toss_24 <|
pw_ltI fun x3 => pw_istore [(4, .int x3), (3, .int x2), (2, .int y1), (0, .ref (pw_ad G 71)), (1, .int a1)] (pc := 25) dX11_toss_25 (by decide) rfl <|
pw_iload_n (pc := 27) dX11_toss_27 1 rfl <|
pw_iconst (v := 3) (pc := 28) dX11_toss_28 (by decide) <|
pw_icmp_eq  (tgt := 43) (pc := 29) dX11_toss_29 (by decide) (fun h15 => pw_bipush (v := -15) (pc := 43) dX11_toss_43 (by decide) <|
pw_iret (a := (-15 : Int32)) (v := (-15 : Int32)) hH rfl (pc := 45) dX11_toss_45) (fun h16 => pw_iload_n (pc := 32) dX11_toss_32 1 rfl <|
pw_bipush (v := 7) (pc := 33) dX11_toss_33 (by decide) <|
pw_icmp_eq  (tgt := 43) (pc := 35) dX11_toss_35 (by decide) (fun h13 => pw_bipush (v := -15) (pc := 43) dX11_toss_43 (by decide) <|
pw_iret (a := (-15 : Int32)) (v := (-15 : Int32)) hH rfl (pc := 45) dX11_toss_45) (fun h14 => pw_iload (pc := 38) dX11_toss_38 0 rfl <|
pw_if_ne (a := x3) (b := 0) (tgt := 46) (pc := 40) dX11_toss_40 (by decide) (fun h11 => pw_iload_n (pc := 46) dX11_toss_46 1 rfl <|
pw_iconst (v := 2) (pc := 47) dX11_toss_47 (by decide) <|
pw_icmp_ne  (tgt := 64) (pc := 48) dX11_toss_48 (by decide) (fun h9 => pw_iload_n (pc := 64) dX11_toss_64 1 rfl <|
pw_iconst (v := 1) (pc := 65) dX11_toss_65 (by decide) <|
pw_icmp_eq  (tgt := 74) (pc := 66) dX11_toss_66 (by decide) (fun h6 => pw_bipush (v := 100) (pc := 74) dX11_toss_74 (by decide) <|
pw_iload (pc := 76) dX11_toss_76 0 rfl <|
pw_iadd (pc := 78) dX11_toss_78 <|
pw_goto (tgt := 84) (pc := 79) dX11_toss_79 (by decide) <|
pw_iret (a := ((100 : Int32) + x3)) (v := ((100 : Int32) + x3)) hH rfl (pc := 84) dX11_toss_84) (fun h7 => pw_iload_n (pc := 69) dX11_toss_69 1 rfl <|
pw_iconst (v := 5) (pc := 70) dX11_toss_70 (by decide) <|
pw_icmp_ne  (tgt := 82) (pc := 71) dX11_toss_71 (by decide) (fun h4 => pw_iload (pc := 82) dX11_toss_82 0 rfl <|
pw_iret (a := x3) (v := x3) hH rfl (pc := 84) dX11_toss_84) (fun h5 => pw_bipush (v := 100) (pc := 74) dX11_toss_74 (by decide) <|
pw_iload (pc := 76) dX11_toss_76 0 rfl <|
pw_iadd (pc := 78) dX11_toss_78 <|
pw_goto (tgt := 84) (pc := 79) dX11_toss_79 (by decide) <|
pw_iret (a := ((100 : Int32) + x3)) (v := ((100 : Int32) + x3)) hH rfl (pc := 84) dX11_toss_84))) (fun h10 => pw_sipush (v := 200) (pc := 51) dX11_toss_51 (by decide) <|
pw_iload_n (pc := 54) dX11_toss_54 1 rfl <|
pw_iload (pc := 55) dX11_toss_55 0 rfl <|
pw_callS_ri (n := 2) (rest := [.int (200 : Int32)]) (tX11_costBy K.2.1 G x2 x3 m0) miX11_costBy mlX11_267 (pc := 57) dX11_toss_57 rfl rfl (by decide) (Nat.le_of_ble_eq_true rfl) fun y8 =>
pw_iadd (pc := 60) dX11_toss_60 <|
pw_goto (tgt := 84) (pc := 61) dX11_toss_61 (by decide) <|
pw_iret (a := ((200 : Int32) + y8)) (v := ((200 : Int32) + y8)) hH rfl (pc := 84) dX11_toss_84)) (fun h12 => pw_bipush (v := -15) (pc := 43) dX11_toss_43 (by decide) <|
pw_iret (a := (-15 : Int32)) (v := (-15 : Int32)) hH rfl (pc := 45) dX11_toss_45)))) (fun h18 => pw_iload_n (pc := 10) dX11_toss_10 0 rfl <|
pw_iret (a := y1) (v := y1) hH rfl (pc := 11) dX11_toss_11))
