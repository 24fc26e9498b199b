set_option maxRecDepth 100000
set_option maxHeartbeats 4000000 in
theorem tJ6_bitCount_0f7a4 (l : Launch) (G : pw_G) (a1 : Int32) (m0 : pw_Mem) : PMet l G yJ6_bitCount_0f7a4 cJ6_bitCount_0f7a4 1 (some .int) 0 [.int a1] m0 (pw_Ri m0) (fJ6_bitCount_0f7a4 a1 m0) :=
  pw_met (own := RJ6) (l0 := [(0, .int a1)]) rfl (by decide) rfl (Nat.le_of_ble_eq_true rfl) fun K hK hH => by
  delta fJ6_bitCount_0f7a4
  exact (pw_iload_n (pc := 0) dJ6_bitCount_0f7a4_0 0 rfl <|
pw_iload_n (pc := 1) dJ6_bitCount_0f7a4_1 0 rfl <|
pw_iconst (v := 1) (pc := 2) dJ6_bitCount_0f7a4_2 (by decide) <|
pw_iushr (pc := 3) dJ6_bitCount_0f7a4_3 <|
pw_ldcw (v := 1431655765) (pc := 4) dJ6_bitCount_0f7a4_4 klJ6_265 <|
pw_iand (pc := 7) dJ6_bitCount_0f7a4_7 <|
pw_isub (pc := 8) dJ6_bitCount_0f7a4_8 <|
pw_ltI fun x1 => pw_istore_n [(0, .int x1)] (pc := 9) dJ6_bitCount_0f7a4_9 (by decide) rfl <|
pw_iload_n (pc := 10) dJ6_bitCount_0f7a4_10 0 rfl <|
pw_ldcw (v := 858993459) (pc := 11) dJ6_bitCount_0f7a4_11 klJ6_266 <|
pw_iand (pc := 14) dJ6_bitCount_0f7a4_14 <|
pw_iload_n (pc := 15) dJ6_bitCount_0f7a4_15 0 rfl <|
pw_iconst (v := 2) (pc := 16) dJ6_bitCount_0f7a4_16 (by decide) <|
pw_iushr (pc := 17) dJ6_bitCount_0f7a4_17 <|
pw_ldcw (v := 858993459) (pc := 18) dJ6_bitCount_0f7a4_18 klJ6_266 <|
pw_iand (pc := 21) dJ6_bitCount_0f7a4_21 <|
pw_iadd (pc := 22) dJ6_bitCount_0f7a4_22 <|
pw_ltI fun x2 => pw_istore_n [(0, .int x2)] (pc := 23) dJ6_bitCount_0f7a4_23 (by decide) rfl <|
pw_iload_n (pc := 24) dJ6_bitCount_0f7a4_24 0 rfl <|
pw_iload_n (pc := 25) dJ6_bitCount_0f7a4_25 0 rfl <|
pw_iconst (v := 4) (pc := 26) dJ6_bitCount_0f7a4_26 (by decide) <|
pw_iushr (pc := 27) dJ6_bitCount_0f7a4_27 <|
pw_iadd (pc := 28) dJ6_bitCount_0f7a4_28 <|
pw_ldcw (v := 252645135) (pc := 29) dJ6_bitCount_0f7a4_29 klJ6_267 <|
pw_iand (pc := 32) dJ6_bitCount_0f7a4_32 <|
pw_ltI fun x3 => pw_istore_n [(0, .int x3)] (pc := 33) dJ6_bitCount_0f7a4_33 (by decide) rfl <|
pw_iload_n (pc := 34) dJ6_bitCount_0f7a4_34 0 rfl <|
pw_iload_n (pc := 35) dJ6_bitCount_0f7a4_35 0 rfl <|
pw_bipush (v := 8) (pc := 36) dJ6_bitCount_0f7a4_36 (by decide) <|
pw_iushr (pc := 38) dJ6_bitCount_0f7a4_38 <|
pw_iadd (pc := 39) dJ6_bitCount_0f7a4_39 <|
pw_ltI fun x4 => pw_istore_n [(0, .int x4)] (pc := 40) dJ6_bitCount_0f7a4_40 (by decide) rfl <|
pw_iload_n (pc := 41) dJ6_bitCount_0f7a4_41 0 rfl <|
pw_iload_n (pc := 42) dJ6_bitCount_0f7a4_42 0 rfl <|
pw_bipush (v := 16) (pc := 43) dJ6_bitCount_0f7a4_43 (by decide) <|
pw_iushr (pc := 45) dJ6_bitCount_0f7a4_45 <|
pw_iadd (pc := 46) dJ6_bitCount_0f7a4_46 <|
pw_ltI fun x5 => pw_istore_n [(0, .int x5)] (pc := 47) dJ6_bitCount_0f7a4_47 (by decide) rfl <|
pw_iload_n (pc := 48) dJ6_bitCount_0f7a4_48 0 rfl <|
pw_bipush (v := 63) (pc := 49) dJ6_bitCount_0f7a4_49 (by decide) <|
pw_iand (pc := 51) dJ6_bitCount_0f7a4_51 <|
pw_iret (a := (x5 &&& (63 : Int32))) (v := (x5 &&& (63 : Int32))) hH rfl (pc := 52) dJ6_bitCount_0f7a4_52)
set_option maxHeartbeats 4000000 in
theorem tX7_isSnapped (l : Launch) (G : pw_G) {o : Nat} (ho : pw_isTown o) (a1 : Int32) (m0 : pw_Mem) : PMet l G yX7_isSnapped cX7_isSnapped 2 (some .boolean) 0 [.ref (pw_ad G o), .int a1] m0 (pw_Rz m0) (fX7_isSnapped o a1 m0) :=
  pw_met (own := RX7) (l0 := [(0, .ref (pw_ad G o)), (1, .int a1)]) rfl (by decide) rfl (Nat.le_of_ble_eq_true rfl) fun K hK hH => by
  delta fX7_isSnapped
  exact (pw_aload_n (pc := 0) dX7_isSnapped_0 0 rfl <|
pw_getI (o := o) (k := 13) (pw_shTown ho) cfX7 rfl (by decide) flX7_52 (pc := 1) dX7_isSnapped_1 <|
pw_iload_n (pc := 4) dX7_isSnapped_4 1 rfl <|
pw_ishr (pc := 5) dX7_isSnapped_5 <|
pw_iconst (v := 1) (pc := 6) dX7_isSnapped_6 (by decide) <|
pw_iand (pc := 7) dX7_isSnapped_7 <|
pw_iconst (v := 1) (pc := 8) dX7_isSnapped_8 (by decide) <|
pw_icmp_ne  (tgt := 16) (pc := 9) dX7_isSnapped_9 (by decide) (fun h1 => pw_iconst (v := 0) (pc := 16) dX7_isSnapped_16 (by decide) <|
pw_zret (b := false) hH rfl (pc := 17) dX7_isSnapped_17) (fun h2 => pw_iconst (v := 1) (pc := 12) dX7_isSnapped_12 (by decide) <|
pw_goto (tgt := 17) (pc := 13) dX7_isSnapped_13 (by decide) <|
pw_zret (b := true) hH rfl (pc := 17) dX7_isSnapped_17))
set_option maxHeartbeats 4000000 in
theorem tX7_snappedCount (l : Launch) (G : pw_G) {o : Nat} (ho : pw_isTown o) (m0 : pw_Mem) : PMet l G yX7_snappedCount cX7_snappedCount 1 (some .int) 1 [.ref (pw_ad G o)] m0 (pw_Ri m0) (fX7_snappedCount o m0) :=
  pw_met (own := RX7) (l0 := [(0, .ref (pw_ad G o))]) rfl (by decide) rfl (Nat.le_of_ble_eq_true rfl) fun K hK hH => by
  delta fX7_snappedCount
  exact (pw_aload_n (pc := 0) dX7_snappedCount_0 0 rfl <|
pw_getI (o := o) (k := 13) (pw_shTown ho) cfX7 rfl (by decide) flX7_52 (pc := 1) dX7_snappedCount_1 <|
pw_callS_ri (n := 1) (rest := []) (tJ6_bitCount_0f7a4 K.2.1 G (m0 o 13) m0) miJ6_bitCount_0f7a4 mlX7_65 (pc := 4) dX7_snappedCount_4 rfl rfl (by decide) (Nat.le_of_ble_eq_true rfl) fun y1 =>
pw_iret (a := y1) (v := y1) hH rfl (pc := 7) dX7_snappedCount_7)
set_option maxHeartbeats 4000000 in
theorem tX5_hasPlace (l : Launch) (G : pw_G) {o : Nat} (ho : pw_isShelf o) (a1 : Int32) (m0 : pw_Mem) : PMet l G yX5_hasPlace cX5_hasPlace 2 (some .boolean) 0 [.ref (pw_ad G o), .int a1] m0 (pw_Rz m0) (fX5_hasPlace o a1 m0) :=
  pw_met (own := RX5) (l0 := [(0, .ref (pw_ad G o)), (1, .int a1)]) rfl (by decide) rfl (Nat.le_of_ble_eq_true rfl) fun K hK hH => by
  delta fX5_hasPlace
  exact (pw_iload_n (pc := 0) dX5_hasPlace_0 1 rfl <|
pw_if_lt (a := a1) (b := 0) (tgt := 16) (pc := 1) dX5_hasPlace_1 (by decide) (fun h3 => pw_iconst (v := 0) (pc := 16) dX5_hasPlace_16 (by decide) <|
pw_zret (b := false) hH rfl (pc := 17) dX5_hasPlace_17) (fun h4 => pw_iload_n (pc := 4) dX5_hasPlace_4 1 rfl <|
pw_aload_n (pc := 5) dX5_hasPlace_5 0 rfl <|
pw_getI (o := o) (k := 5) (pw_shShelf ho) cfX5 rfl (by decide) flX5_28 (pc := 6) dX5_hasPlace_6 <|
pw_icmp_ge  (tgt := 16) (pc := 9) dX5_hasPlace_9 (by decide) (fun h1 => pw_iconst (v := 0) (pc := 16) dX5_hasPlace_16 (by decide) <|
pw_zret (b := false) hH rfl (pc := 17) dX5_hasPlace_17) (fun h2 => pw_iconst (v := 1) (pc := 12) dX5_hasPlace_12 (by decide) <|
pw_goto (tgt := 17) (pc := 13) dX5_hasPlace_13 (by decide) <|
pw_zret (b := true) hH rfl (pc := 17) dX5_hasPlace_17)))
set_option maxHeartbeats 4000000 in
theorem tX5_at (l : Launch) (G : pw_G) {o : Nat} (ho : pw_isShelf o) (a1 : Int32) (m0 : pw_Mem) : PMet l G yX5_at cX5_at 2 (some .int) 1 [.ref (pw_ad G o), .int a1] m0 (pw_Ri m0) (fX5_at o a1 m0) :=
  pw_met (own := RX5) (l0 := [(0, .ref (pw_ad G o)), (1, .int a1)]) rfl (by decide) rfl (Nat.le_of_ble_eq_true rfl) fun K hK hH => by
  delta fX5_at
  exact (pw_aload_n (pc := 0) dX5_at_0 0 rfl <|
pw_iload_n (pc := 1) dX5_at_1 1 rfl <|
pw_callV_rz (n := 1) (rest := []) (tX5_hasPlace K.2.1 G ho a1 m0) (pw_shShelf ho) cfX5 rfl miX5_hasPlace mlX5_31 (pc := 2) dX5_at_2 rfl rfl (by decide) (Nat.le_of_ble_eq_true rfl) fun y1 =>
pw_ifz_eq (tgt := 17) (pc := 5) dX5_at_5 (by decide) (fun h2 => pw_aload_n (pc := 8) dX5_at_8 0 rfl <|
pw_getR (o := o) (k := 0) (t := (o + 1)) (pw_shShelf ho) cfX5 rfl (by decide) flX5_9 (pc := 9) dX5_at_9 <|
pw_iload_n (pc := 12) dX5_at_12 1 rfl <|
pw_iald (pw_shShelfE ho) (pc := 13) dX5_at_13 <|
pw_goto (tgt := 18) (pc := 14) dX5_at_14 (by decide) <|
pw_iret (a := (m0 (o + 1) (a1).toNatClampNeg)) (v := (m0 (o + 1) (a1).toNatClampNeg)) hH rfl (pc := 18) dX5_at_18) (fun h3 => pw_iconst (v := 0) (pc := 17) dX5_at_17 (by decide) <|
pw_iret (a := (0 : Int32)) (v := (0 : Int32)) hH rfl (pc := 18) dX5_at_18))
set_option maxHeartbeats 4000000 in
theorem tX7_isPerson (l : Launch) (G : pw_G) {o : Nat} (ho : pw_isTown o) (a1 : Int32) (m0 : pw_Mem) : PMet l G yX7_isPerson cX7_isPerson 2 (some .boolean) 0 [.ref (pw_ad G o), .int a1] m0 (pw_Rz m0) (fX7_isPerson o a1 m0) :=
  pw_met (own := RX7) (l0 := [(0, .ref (pw_ad G o)), (1, .int a1)]) rfl (by decide) rfl (Nat.le_of_ble_eq_true rfl) fun K hK hH => by
  delta fX7_isPerson
  exact (pw_iload_n (pc := 0) dX7_isPerson_0 1 rfl <|
pw_if_lt (a := a1) (b := 0) (tgt := 16) (pc := 1) dX7_isPerson_1 (by decide) (fun h3 => pw_iconst (v := 0) (pc := 16) dX7_isPerson_16 (by decide) <|
pw_zret (b := false) hH rfl (pc := 17) dX7_isPerson_17) (fun h4 => pw_iload_n (pc := 4) dX7_isPerson_4 1 rfl <|
pw_aload_n (pc := 5) dX7_isPerson_5 0 rfl <|
pw_getI (o := o) (k := 11) (pw_shTown ho) cfX7 rfl (by decide) flX7_45 (pc := 6) dX7_isPerson_6 <|
pw_icmp_ge  (tgt := 16) (pc := 9) dX7_isPerson_9 (by decide) (fun h1 => pw_iconst (v := 0) (pc := 16) dX7_isPerson_16 (by decide) <|
pw_zret (b := false) hH rfl (pc := 17) dX7_isPerson_17) (fun h2 => pw_iconst (v := 1) (pc := 12) dX7_isPerson_12 (by decide) <|
pw_goto (tgt := 17) (pc := 13) dX7_isPerson_13 (by decide) <|
pw_zret (b := true) hH rfl (pc := 17) dX7_isPerson_17)))
set_option maxHeartbeats 4000000 in
theorem tX7_becomes (l : Launch) (G : pw_G) {o : Nat} {o1 : Nat} (ho : pw_isTown o) (ho1 : pw_isTown o1) (m0 : pw_Mem) : PMet l G yX7_becomes cX7_becomes 3 (none) 0 [.ref (pw_ad G o), .ref (pw_ad G o1)] m0 pw_Wv (fX7_becomes o o1 m0) :=
  pw_met (own := RX7) (l0 := [(0, .ref (pw_ad G o)), (1, .ref (pw_ad G o1))]) rfl (by decide) rfl (Nat.le_of_ble_eq_true rfl) fun K hK hH => by
  delta fX7_becomes
  exact (pw_aload_n (pc := 0) dX7_becomes_0 0 rfl <|
pw_aload_n (pc := 1) dX7_becomes_1 1 rfl <|
pw_getI (o := o1) (k := 11) (pw_shTown ho1) cfX7 rfl (by decide) flX7_45 (pc := 2) dX7_becomes_2 <|
pw_putI (o := o) (k := 11) (pw_shTown ho) cfX7 rfl (by decide) flX7_45 rfl (ft := .int) rfl rfl rfl (pc := 5) dX7_becomes_5 <|
pw_ltM fun m1 => pw_aload_n (pc := 8) dX7_becomes_8 0 rfl <|
pw_aload_n (pc := 9) dX7_becomes_9 1 rfl <|
pw_getI (o := o1) (k := 12) (pw_shTown ho1) cfX7 rfl (by decide) flX7_49 (pc := 10) dX7_becomes_10 <|
pw_putI (o := o) (k := 12) (pw_shTown ho) cfX7 rfl (by decide) flX7_49 rfl (ft := .int) rfl rfl rfl (pc := 13) dX7_becomes_13 <|
pw_ltM fun m2 => pw_aload_n (pc := 16) dX7_becomes_16 0 rfl <|
pw_aload_n (pc := 17) dX7_becomes_17 1 rfl <|
pw_getI (o := o1) (k := 13) (pw_shTown ho1) cfX7 rfl (by decide) flX7_52 (pc := 18) dX7_becomes_18 <|
pw_putI (o := o) (k := 13) (pw_shTown ho) cfX7 rfl (by decide) flX7_52 rfl (ft := .int) rfl rfl rfl (pc := 21) dX7_becomes_21 <|
pw_ltM fun m3 => pw_aload_n (pc := 24) dX7_becomes_24 0 rfl <|
pw_aload_n (pc := 25) dX7_becomes_25 1 rfl <|
pw_getI (o := o1) (k := 14) (pw_shTown ho1) cfX7 rfl (by decide) flX7_55 (pc := 26) dX7_becomes_26 <|
pw_putI (o := o) (k := 14) (pw_shTown ho) cfX7 rfl (by decide) flX7_55 rfl (ft := .int) rfl rfl rfl (pc := 29) dX7_becomes_29 <|
pw_ltM fun m4 => pw_aload_n (pc := 32) dX7_becomes_32 0 rfl <|
pw_aload_n (pc := 33) dX7_becomes_33 1 rfl <|
pw_getI (o := o1) (k := 15) (pw_shTown ho1) cfX7 rfl (by decide) flX7_58 (pc := 34) dX7_becomes_34 <|
pw_putI (o := o) (k := 15) (pw_shTown ho) cfX7 rfl (by decide) flX7_58 rfl (ft := .int) rfl rfl rfl (pc := 37) dX7_becomes_37 <|
pw_ltM fun m5 => pw_iconst (v := 0) (pc := 40) dX7_becomes_40 (by decide) <|
pw_istore_n [(2, .int (0 : Int32)), (0, .ref (pw_ad G o)), (1, .ref (pw_ad G o1))] (pc := 41) dX7_becomes_41 (by decide) rfl <|
pw_lp (fun (kk31 : Int32 → pw_Mem → Option pw_Mem) => ∀ (v6 : Int32) (m7 : pw_Mem), PW K G RX7 cX7_becomes 3 (none) 0 (pw_MQ K G pw_Wv) (kk31 v6 m7) 42 [(2, .int v6), (0, .ref (pw_ad G o)), (1, .ref (pw_ad G o1))] [] m7) (fun _ _ => pw_none) (fun nx8 hn9 v6 m7 => pw_iload_n (pc := 42) dX7_becomes_42 0 rfl <|
pw_bipush (v := 7) (pc := 43) dX7_becomes_43 (by decide) <|
pw_icmp_ge  (tgt := 78) (pc := 45) dX7_becomes_45 (by decide) (fun h29 => pw_iconst (v := 0) (pc := 78) dX7_becomes_78 (by decide) <|
pw_istore_n [(2, .int (0 : Int32)), (0, .ref (pw_ad G o)), (1, .ref (pw_ad G o1))] (pc := 79) dX7_becomes_79 (by decide) rfl <|
pw_lp (fun (kk25 : Int32 → pw_Mem → Option pw_Mem) => ∀ (v10 : Int32) (m11 : pw_Mem), PW K G RX7 cX7_becomes 3 (none) 0 (pw_MQ K G pw_Wv) (kk25 v10 m11) 80 [(2, .int v10), (0, .ref (pw_ad G o)), (1, .ref (pw_ad G o1))] [] m11) (fun _ _ => pw_none) (fun nx12 hn13 v10 m11 => pw_iload_n (pc := 80) dX7_becomes_80 0 rfl <|
pw_bipush (v := 10) (pc := 81) dX7_becomes_81 (by decide) <|
pw_icmp_ge  (tgt := 188) (pc := 83) dX7_becomes_83 (by decide) (fun h23 => pw_vret hH rfl (pc := 188) dX7_becomes_188) (fun h24 => pw_aload_n (pc := 86) dX7_becomes_86 1 rfl <|
pw_getR (o := o) (k := 3) (t := (o + 4)) (pw_shTown ho) cfX7 rfl (by decide) flX7_21 (pc := 87) dX7_becomes_87 <|
pw_iload_n (pc := 90) dX7_becomes_90 0 rfl <|
pw_aload_n (pc := 91) dX7_becomes_91 2 rfl <|
pw_getR (o := o1) (k := 3) (t := (o1 + 4)) (pw_shTown ho1) cfX7 rfl (by decide) flX7_21 (pc := 92) dX7_becomes_92 <|
pw_iload_n (pc := 95) dX7_becomes_95 0 rfl <|
pw_iald (pw_shTown3 ho1) (pc := 96) dX7_becomes_96 <|
pw_iast (pw_shTown3 ho) (pc := 97) dX7_becomes_97 <| pw_ltM fun m14 =>
pw_aload_n (pc := 98) dX7_becomes_98 1 rfl <|
pw_getR (o := o) (k := 4) (t := (o + 5)) (pw_shTown ho) cfX7 rfl (by decide) flX7_24 (pc := 99) dX7_becomes_99 <|
pw_iload_n (pc := 102) dX7_becomes_102 0 rfl <|
pw_aload_n (pc := 103) dX7_becomes_103 2 rfl <|
pw_getR (o := o1) (k := 4) (t := (o1 + 5)) (pw_shTown ho1) cfX7 rfl (by decide) flX7_24 (pc := 104) dX7_becomes_104 <|
pw_iload_n (pc := 107) dX7_becomes_107 0 rfl <|
pw_iald (pw_shTown4 ho1) (pc := 108) dX7_becomes_108 <|
pw_iast (pw_shTown4 ho) (pc := 109) dX7_becomes_109 <| pw_ltM fun m15 =>
pw_aload_n (pc := 110) dX7_becomes_110 1 rfl <|
pw_getR (o := o) (k := 5) (t := (o + 6)) (pw_shTown ho) cfX7 rfl (by decide) flX7_27 (pc := 111) dX7_becomes_111 <|
pw_iload_n (pc := 114) dX7_becomes_114 0 rfl <|
pw_aload_n (pc := 115) dX7_becomes_115 2 rfl <|
pw_getR (o := o1) (k := 5) (t := (o1 + 6)) (pw_shTown ho1) cfX7 rfl (by decide) flX7_27 (pc := 116) dX7_becomes_116 <|
pw_iload_n (pc := 119) dX7_becomes_119 0 rfl <|
pw_iald (pw_shTown5 ho1) (pc := 120) dX7_becomes_120 <|
pw_iast (pw_shTown5 ho) (pc := 121) dX7_becomes_121 <| pw_ltM fun m16 =>
pw_aload_n (pc := 122) dX7_becomes_122 1 rfl <|
pw_getR (o := o) (k := 6) (t := (o + 7)) (pw_shTown ho) cfX7 rfl (by decide) flX7_30 (pc := 123) dX7_becomes_123 <|
pw_iload_n (pc := 126) dX7_becomes_126 0 rfl <|
pw_aload_n (pc := 127) dX7_becomes_127 2 rfl <|
pw_getR (o := o1) (k := 6) (t := (o1 + 7)) (pw_shTown ho1) cfX7 rfl (by decide) flX7_30 (pc := 128) dX7_becomes_128 <|
pw_iload_n (pc := 131) dX7_becomes_131 0 rfl <|
pw_iald (pw_shTown6 ho1) (pc := 132) dX7_becomes_132 <|
pw_iast (pw_shTown6 ho) (pc := 133) dX7_becomes_133 <| pw_ltM fun m17 =>
pw_aload_n (pc := 134) dX7_becomes_134 1 rfl <|
pw_getR (o := o) (k := 7) (t := (o + 8)) (pw_shTown ho) cfX7 rfl (by decide) flX7_33 (pc := 135) dX7_becomes_135 <|
pw_iload_n (pc := 138) dX7_becomes_138 0 rfl <|
pw_aload_n (pc := 139) dX7_becomes_139 2 rfl <|
pw_getR (o := o1) (k := 7) (t := (o1 + 8)) (pw_shTown ho1) cfX7 rfl (by decide) flX7_33 (pc := 140) dX7_becomes_140 <|
pw_iload_n (pc := 143) dX7_becomes_143 0 rfl <|
pw_iald (pw_shTown7 ho1) (pc := 144) dX7_becomes_144 <|
pw_iast (pw_shTown7 ho) (pc := 145) dX7_becomes_145 <| pw_ltM fun m18 =>
pw_aload_n (pc := 146) dX7_becomes_146 1 rfl <|
pw_getR (o := o) (k := 8) (t := (o + 9)) (pw_shTown ho) cfX7 rfl (by decide) flX7_36 (pc := 147) dX7_becomes_147 <|
pw_iload_n (pc := 150) dX7_becomes_150 0 rfl <|
pw_aload_n (pc := 151) dX7_becomes_151 2 rfl <|
pw_getR (o := o1) (k := 8) (t := (o1 + 9)) (pw_shTown ho1) cfX7 rfl (by decide) flX7_36 (pc := 152) dX7_becomes_152 <|
pw_iload_n (pc := 155) dX7_becomes_155 0 rfl <|
pw_iald (pw_shTown8 ho1) (pc := 156) dX7_becomes_156 <|
pw_iast (pw_shTown8 ho) (pc := 157) dX7_becomes_157 <| pw_ltM fun m19 =>
pw_aload_n (pc := 158) dX7_becomes_158 1 rfl <|
pw_getR (o := o) (k := 9) (t := (o + 10)) (pw_shTown ho) cfX7 rfl (by decide) flX7_39 (pc := 159) dX7_becomes_159 <|
pw_iload_n (pc := 162) dX7_becomes_162 0 rfl <|
pw_aload_n (pc := 163) dX7_becomes_163 2 rfl <|
pw_getR (o := o1) (k := 9) (t := (o1 + 10)) (pw_shTown ho1) cfX7 rfl (by decide) flX7_39 (pc := 164) dX7_becomes_164 <|
pw_iload_n (pc := 167) dX7_becomes_167 0 rfl <|
pw_iald (pw_shTown9 ho1) (pc := 168) dX7_becomes_168 <|
pw_iast (pw_shTown9 ho) (pc := 169) dX7_becomes_169 <| pw_ltM fun m20 =>
pw_aload_n (pc := 170) dX7_becomes_170 1 rfl <|
pw_getR (o := o) (k := 10) (t := (o + 11)) (pw_shTown ho) cfX7 rfl (by decide) flX7_42 (pc := 171) dX7_becomes_171 <|
pw_iload_n (pc := 174) dX7_becomes_174 0 rfl <|
pw_aload_n (pc := 175) dX7_becomes_175 2 rfl <|
pw_getR (o := o1) (k := 10) (t := (o1 + 11)) (pw_shTown ho1) cfX7 rfl (by decide) flX7_42 (pc := 176) dX7_becomes_176 <|
pw_iload_n (pc := 179) dX7_becomes_179 0 rfl <|
pw_iald (pw_shTown10 ho1) (pc := 180) dX7_becomes_180 <|
pw_iast (pw_shTown10 ho) (pc := 181) dX7_becomes_181 <| pw_ltM fun m21 =>
pw_ltA fun x22 hxx22 => pw_iinc (v := x22) [(2, .int x22), (0, .ref (pw_ad G o)), (1, .ref (pw_ad G o1))] (pc := 182) dX7_becomes_182 0 rfl (by rw [hxx22]; rfl) (by decide) rfl <|
pw_goto (tgt := 80) (pc := 185) dX7_becomes_185 (by decide) <|
hn13 x22 m21)) FU (0 : Int32) m7) (fun h30 => pw_aload_n (pc := 48) dX7_becomes_48 1 rfl <|
pw_getR (o := o) (k := 0) (t := (o + 1)) (pw_shTown ho) cfX7 rfl (by decide) flX7_9 (pc := 49) dX7_becomes_49 <|
pw_iload_n (pc := 52) dX7_becomes_52 0 rfl <|
pw_aload_n (pc := 53) dX7_becomes_53 2 rfl <|
pw_getR (o := o1) (k := 0) (t := (o1 + 1)) (pw_shTown ho1) cfX7 rfl (by decide) flX7_9 (pc := 54) dX7_becomes_54 <|
pw_iload_n (pc := 57) dX7_becomes_57 0 rfl <|
pw_iald (pw_shTown0 ho1) (pc := 58) dX7_becomes_58 <|
pw_iast (pw_shTown0 ho) (pc := 59) dX7_becomes_59 <| pw_ltM fun m26 =>
pw_aload_n (pc := 60) dX7_becomes_60 1 rfl <|
pw_getR (o := o) (k := 1) (t := (o + 2)) (pw_shTown ho) cfX7 rfl (by decide) flX7_15 (pc := 61) dX7_becomes_61 <|
pw_iload_n (pc := 64) dX7_becomes_64 0 rfl <|
pw_aload_n (pc := 65) dX7_becomes_65 2 rfl <|
pw_getR (o := o1) (k := 1) (t := (o1 + 2)) (pw_shTown ho1) cfX7 rfl (by decide) flX7_15 (pc := 66) dX7_becomes_66 <|
pw_iload_n (pc := 69) dX7_becomes_69 0 rfl <|
pw_iald (pw_shTown1 ho1) (pc := 70) dX7_becomes_70 <|
pw_iast (pw_shTown1 ho) (pc := 71) dX7_becomes_71 <| pw_ltM fun m27 =>
pw_ltA fun x28 hxx28 => pw_iinc (v := x28) [(2, .int x28), (0, .ref (pw_ad G o)), (1, .ref (pw_ad G o1))] (pc := 72) dX7_becomes_72 0 rfl (by rw [hxx28]; rfl) (by decide) rfl <|
pw_goto (tgt := 42) (pc := 75) dX7_becomes_75 (by decide) <|
hn9 x28 m27)) FU (0 : Int32) m5)
set_option maxHeartbeats 4000000 in
theorem tX7_holdsAt (l : Launch) (G : pw_G) {o : Nat} (ho : pw_isTown o) (a1 : Int32) (a2 : Int32) (a3 : Int32) (m0 : pw_Mem) : PMet l G yX7_holdsAt cX7_holdsAt 5 (some .int) 0 [.ref (pw_ad G o), .int a1, .int a2, .int a3] m0 (pw_Ri m0) (fX7_holdsAt o a1 a2 a3 m0) :=
  pw_met (own := RX7) (l0 := [(0, .ref (pw_ad G o)), (1, .int a1), (2, .int a2), (3, .int a3)]) rfl (by decide) rfl (Nat.le_of_ble_eq_true rfl) fun K hK hH => by
  delta fX7_holdsAt
  exact (pw_aload_n (pc := 0) dX7_holdsAt_0 0 rfl <|
pw_getR (o := o) (k := 10) (t := (o + 11)) (pw_shTown ho) cfX7 rfl (by decide) flX7_42 (pc := 1) dX7_holdsAt_1 <|
pw_iload_n (pc := 4) dX7_holdsAt_4 1 rfl <|
pw_iald (pw_shTown10 ho) (pc := 5) dX7_holdsAt_5 <|
pw_iload_n (pc := 6) dX7_holdsAt_6 2 rfl <|
pw_iconst (v := 5) (pc := 7) dX7_holdsAt_7 (by decide) <|
pw_idiv (pc := 8) dX7_holdsAt_8 (by decide) <|
pw_isub (pc := 9) dX7_holdsAt_9 <|
pw_iload_n (pc := 10) dX7_holdsAt_10 3 rfl <|
pw_iconst (v := 2) (pc := 11) dX7_holdsAt_11 (by decide) <|
pw_idiv (pc := 12) dX7_holdsAt_12 (by decide) <|
pw_isub (pc := 13) dX7_holdsAt_13 <|
pw_ltI fun x1 => pw_istore [(4, .int x1), (0, .ref (pw_ad G o)), (1, .int a1), (2, .int a2), (3, .int a3)] (pc := 14) dX7_holdsAt_14 (by decide) rfl <|
pw_iload (pc := 16) dX7_holdsAt_16 0 rfl <|
pw_if_le (a := x1) (b := 0) (tgt := 26) (pc := 18) dX7_holdsAt_18 (by decide) (fun h2 => pw_iconst (v := 0) (pc := 26) dX7_holdsAt_26 (by decide) <|
pw_iret (a := (0 : Int32)) (v := (0 : Int32)) hH rfl (pc := 27) dX7_holdsAt_27) (fun h3 => pw_iload (pc := 21) dX7_holdsAt_21 0 rfl <|
pw_goto (tgt := 27) (pc := 23) dX7_holdsAt_23 (by decide) <|
pw_iret (a := x1) (v := x1) hH rfl (pc := 27) dX7_holdsAt_27))
set_option maxHeartbeats 4000000 in
theorem tX7_stretch (l : Launch) (G : pw_G) {o : Nat} (ho : pw_isTown o) (a1 : Int32) (m0 : pw_Mem) : PMet l G yX7_stretch cX7_stretch 4 (some .int) 0 [.ref (pw_ad G o), .int a1] m0 (pw_Ri m0) (fX7_stretch o a1 m0) :=
  pw_met (own := RX7) (l0 := [(0, .ref (pw_ad G o)), (1, .int a1)]) rfl (by decide) rfl (Nat.le_of_ble_eq_true rfl) fun K hK hH => by
  delta fX7_stretch
  exact (pw_aload_n (pc := 0) dX7_stretch_0 0 rfl <|
pw_getR (o := o) (k := 0) (t := (o + 1)) (pw_shTown ho) cfX7 rfl (by decide) flX7_9 (pc := 1) dX7_stretch_1 <|
pw_aload_n (pc := 4) dX7_stretch_4 0 rfl <|
pw_getR (o := o) (k := 5) (t := (o + 6)) (pw_shTown ho) cfX7 rfl (by decide) flX7_27 (pc := 5) dX7_stretch_5 <|
pw_iload_n (pc := 8) dX7_stretch_8 1 rfl <|
pw_iald (pw_shTown5 ho) (pc := 9) dX7_stretch_9 <|
pw_iald (pw_shTown0 ho) (pc := 10) dX7_stretch_10 <|
pw_aload_n (pc := 11) dX7_stretch_11 0 rfl <|
pw_getR (o := o) (k := 0) (t := (o + 1)) (pw_shTown ho) cfX7 rfl (by decide) flX7_9 (pc := 12) dX7_stretch_12 <|
pw_aload_n (pc := 15) dX7_stretch_15 0 rfl <|
pw_getR (o := o) (k := 6) (t := (o + 7)) (pw_shTown ho) cfX7 rfl (by decide) flX7_30 (pc := 16) dX7_stretch_16 <|
pw_iload_n (pc := 19) dX7_stretch_19 1 rfl <|
pw_iald (pw_shTown6 ho) (pc := 20) dX7_stretch_20 <|
pw_iald (pw_shTown0 ho) (pc := 21) dX7_stretch_21 <|
pw_isub (pc := 22) dX7_stretch_22 <|
pw_ltI fun x1 => pw_istore_n [(2, .int x1), (0, .ref (pw_ad G o)), (1, .int a1)] (pc := 23) dX7_stretch_23 (by decide) rfl <|
pw_iload_n (pc := 24) dX7_stretch_24 0 rfl <|
pw_jn (fun (k6 : Int32 → Option Int32) => ∀ (w2 : Int32), PW K G RX7 cX7_stretch 4 (some .int) 0 (pw_MQ K G (pw_Ri m0)) (k6 w2) 34 [(0, .ref (pw_ad G o)), (1, .int a1)] [.int w2] m0) (fun w2 => pw_aload_n (pc := 34) dX7_stretch_34 0 rfl <|
pw_getR (o := o) (k := 8) (t := (o + 9)) (pw_shTown ho) cfX7 rfl (by decide) flX7_36 (pc := 35) dX7_stretch_35 <|
pw_iload_n (pc := 38) dX7_stretch_38 1 rfl <|
pw_iald (pw_shTown8 ho) (pc := 39) dX7_stretch_39 <|
pw_isub (pc := 40) dX7_stretch_40 <|
pw_ltI fun x3 => pw_istore_n [(3, .int x3), (0, .ref (pw_ad G o)), (1, .int a1)] (pc := 41) dX7_stretch_41 (by decide) rfl <|
pw_iload_n (pc := 42) dX7_stretch_42 0 rfl <|
pw_if_le (a := x3) (b := 0) (tgt := 50) (pc := 43) dX7_stretch_43 (by decide) (fun h4 => pw_iconst (v := 0) (pc := 50) dX7_stretch_50 (by decide) <|
pw_iret (a := (0 : Int32)) (v := (0 : Int32)) hH rfl (pc := 51) dX7_stretch_51) (fun h5 => pw_iload_n (pc := 46) dX7_stretch_46 0 rfl <|
pw_goto (tgt := 51) (pc := 47) dX7_stretch_47 (by decide) <|
pw_iret (a := x3) (v := x3) hH rfl (pc := 51) dX7_stretch_51)) (fun k6 hk7 => pw_if_ge (a := x1) (b := 0) (tgt := 33) (pc := 25) dX7_stretch_25 (by decide) (fun h8 => pw_iload_n (pc := 33) dX7_stretch_33 0 rfl <|
pw_sub [1, 2] rfl <| hk7 x1) (fun h9 => pw_iload_n (pc := 28) dX7_stretch_28 0 rfl <|
pw_ineg (pc := 29) dX7_stretch_29 <|
pw_goto (tgt := 34) (pc := 30) dX7_stretch_30 (by decide) <|
pw_sub [1, 2] rfl <| hk7 (-x1))))
set_option maxHeartbeats 4000000 in
theorem tX7_overstretched (l : Launch) (G : pw_G) {o : Nat} (ho : pw_isTown o) (a1 : Int32) (m0 : pw_Mem) : PMet l G yX7_overstretched cX7_overstretched 4 (some .int) 1 [.ref (pw_ad G o), .int a1] m0 (pw_Ri m0) (fX7_overstretched o a1 m0) :=
  pw_met (own := RX7) (l0 := [(0, .ref (pw_ad G o)), (1, .int a1)]) rfl (by decide) rfl (Nat.le_of_ble_eq_true rfl) fun K hK hH => by
  delta fX7_overstretched
  exact (pw_iconst (v := 0) (pc := 0) dX7_overstretched_0 (by decide) <|
pw_istore_n [(2, .int (0 : Int32)), (0, .ref (pw_ad G o)), (1, .int a1)] (pc := 1) dX7_overstretched_1 (by decide) rfl <|
pw_iconst (v := 0) (pc := 2) dX7_overstretched_2 (by decide) <|
pw_istore_n [(3, .int (0 : Int32)), (2, .int (0 : Int32)), (0, .ref (pw_ad G o)), (1, .int a1)] (pc := 3) dX7_overstretched_3 (by decide) rfl <|
pw_lp (fun (kk19 : Int32 → Int32 → Option Int32) => ∀ (v1 : Int32) (v2 : Int32), PW K G RX7 cX7_overstretched 4 (some .int) 1 (pw_MQ K G (pw_Ri m0)) (kk19 v1 v2) 4 [(3, .int v2), (2, .int v1), (0, .ref (pw_ad G o)), (1, .int a1)] [] m0) (fun _ _ => pw_none) (fun nx3 hn4 v1 v2 => pw_iload_n (pc := 4) dX7_overstretched_4 0 rfl <|
pw_aload_n (pc := 5) dX7_overstretched_5 2 rfl <|
pw_getI (o := o) (k := 12) (pw_shTown ho) cfX7 rfl (by decide) flX7_49 (pc := 6) dX7_overstretched_6 <|
pw_icmp_ge  (tgt := 52) (pc := 9) dX7_overstretched_9 (by decide) (fun h17 => pw_iload_n (pc := 52) dX7_overstretched_52 1 rfl <|
pw_iret (a := v1) (v := v1) hH rfl (pc := 53) dX7_overstretched_53) (fun h18 => pw_aload_n (pc := 12) dX7_overstretched_12 2 rfl <|
pw_iload_n (pc := 13) dX7_overstretched_13 0 rfl <|
pw_callV_rz (n := 1) (rest := []) (tX7_isSnapped K.2.1 G ho v2 m0) (pw_shTown ho) cfX7 rfl miX7_isSnapped mlX7_76 (pc := 14) dX7_overstretched_14 rfl rfl (by decide) (Nat.le_of_ble_eq_true rfl) fun y5 =>
pw_jn (fun (k8 : Int32 → Option Int32) => ∀ (v6 : Int32), PW K G RX7 cX7_overstretched 4 (some .int) 1 (pw_MQ K G (pw_Ri m0)) (k8 v6) 46 [(3, .int v2), (2, .int v6), (0, .ref (pw_ad G o)), (1, .int a1)] [] m0) (fun v6 => pw_ltA fun x7 hxx7 => pw_iinc (v := x7) [(3, .int x7), (2, .int v6), (0, .ref (pw_ad G o)), (1, .int a1)] (pc := 46) dX7_overstretched_46 0 rfl (by rw [hxx7]; rfl) (by decide) rfl <|
pw_goto (tgt := 4) (pc := 49) dX7_overstretched_49 (by decide) <|
hn4 v6 x7) (fun k8 hk9 => pw_ifz_ne (tgt := 46) (pc := 17) dX7_overstretched_17 (by decide) (fun h15 => hk9 v1) (fun h16 => pw_aload_n (pc := 20) dX7_overstretched_20 2 rfl <|
pw_iload_n (pc := 21) dX7_overstretched_21 0 rfl <|
pw_callV_ri (n := 1) (rest := []) (tX7_stretch K.2.1 G ho v2 m0) (pw_shTown ho) cfX7 rfl miX7_stretch mlX7_79 (pc := 22) dX7_overstretched_22 rfl rfl (by decide) (Nat.le_of_ble_eq_true rfl) fun y10 =>
pw_aload_n (pc := 25) dX7_overstretched_25 2 rfl <|
pw_iload_n (pc := 26) dX7_overstretched_26 0 rfl <|
pw_aload_n (pc := 27) dX7_overstretched_27 2 rfl <|
pw_getR (o := o) (k := 7) (t := (o + 8)) (pw_shTown ho) cfX7 rfl (by decide) flX7_33 (pc := 28) dX7_overstretched_28 <|
pw_iload_n (pc := 31) dX7_overstretched_31 0 rfl <|
pw_iald (pw_shTown7 ho) (pc := 32) dX7_overstretched_32 <|
pw_iload_n (pc := 33) dX7_overstretched_33 3 rfl <|
pw_callV_ri (n := 3) (rest := [.int y10]) (tX7_holdsAt K.2.1 G ho v2 (m0 (o + 8) (v2).toNatClampNeg) a1 m0) (pw_shTown ho) cfX7 rfl miX7_holdsAt mlX7_82 (pc := 34) dX7_overstretched_34 rfl rfl (by decide) (Nat.le_of_ble_eq_true rfl) fun y11 =>
pw_icmp_le  (tgt := 46) (pc := 37) dX7_overstretched_37 (by decide) (fun h13 => hk9 v1) (fun h14 => pw_iload_n (pc := 40) dX7_overstretched_40 1 rfl <|
pw_iconst (v := 1) (pc := 41) dX7_overstretched_41 (by decide) <|
pw_iload_n (pc := 42) dX7_overstretched_42 0 rfl <|
pw_ishl (pc := 43) dX7_overstretched_43 <|
pw_ior (pc := 44) dX7_overstretched_44 <|
pw_ltI fun x12 => pw_istore_n [(2, .int x12), (3, .int v2), (0, .ref (pw_ad G o)), (1, .int a1)] (pc := 45) dX7_overstretched_45 (by decide) rfl <|
pw_sub [1, 0, 2, 3] rfl <| hk9 x12))))) FU (0 : Int32) (0 : Int32))
set_option maxHeartbeats 4000000 in
theorem tX7_sting (l : Launch) (G : pw_G) {o : Nat} (ho : pw_isTown o) (a1 : Int32) (m0 : pw_Mem) : PMet l G yX7_sting cX7_sting 2 (none) 0 [.ref (pw_ad G o), .int a1] m0 pw_Wv (fX7_sting o a1 m0) :=
  pw_met (own := RX7) (l0 := [(0, .ref (pw_ad G o)), (1, .int a1)]) rfl (by decide) rfl (Nat.le_of_ble_eq_true rfl) fun K hK hH => by
  delta fX7_sting
  exact (pw_aload_n (pc := 0) dX7_sting_0 0 rfl <|
pw_getR (o := o) (k := 1) (t := (o + 2)) (pw_shTown ho) cfX7 rfl (by decide) flX7_15 (pc := 1) dX7_sting_1 <|
pw_iload_n (pc := 4) dX7_sting_4 1 rfl <|
pw_iald (pw_shTown1 ho) (pc := 5) dX7_sting_5 <|
pw_bipush (v := 99) (pc := 6) dX7_sting_6 (by decide) <|
pw_icmp_ge  (tgt := 21) (pc := 8) dX7_sting_8 (by decide) (fun h2 => pw_vret hH rfl (pc := 21) dX7_sting_21) (fun h3 => pw_aload_n (pc := 11) dX7_sting_11 0 rfl <|
pw_getR (o := o) (k := 1) (t := (o + 2)) (pw_shTown ho) cfX7 rfl (by decide) flX7_15 (pc := 12) dX7_sting_12 <|
pw_iload_n (pc := 15) dX7_sting_15 1 rfl <|
pw_dup2 (pc := 16) dX7_sting_16 rfl rfl <|
pw_iald (pw_shTown1 ho) (pc := 17) dX7_sting_17 <|
pw_iconst (v := 1) (pc := 18) dX7_sting_18 (by decide) <|
pw_iadd (pc := 19) dX7_sting_19 <|
pw_iast (pw_shTown1 ho) (pc := 20) dX7_sting_20 <| pw_ltM fun m1 =>
pw_vret hH rfl (pc := 21) dX7_sting_21))
set_option maxHeartbeats 4000000 in
theorem tX7_tryAll (l : Launch) (G : pw_G) {o : Nat} (ho : pw_isTown o) (m0 : pw_Mem) : PMet l G yX7_tryAll cX7_tryAll 3 (some .int) 2 [.ref (pw_ad G o)] m0 pw_Wi (fX7_tryAll o m0) :=
  pw_met (own := RX7) (l0 := [(0, .ref (pw_ad G o))]) rfl (by decide) rfl (Nat.le_of_ble_eq_true rfl) fun K hK hH => by
  delta fX7_tryAll
  exact (pw_aload_n (pc := 0) dX7_tryAll_0 0 rfl <|
pw_aload_n (pc := 1) dX7_tryAll_1 0 rfl <|
pw_getI (o := o) (k := 14) (pw_shTown ho) cfX7 rfl (by decide) flX7_55 (pc := 2) dX7_tryAll_2 <|
pw_callV_ri (n := 1) (rest := []) (tX7_overstretched K.2.1 G ho (m0 o 14) m0) (pw_shTown ho) cfX7 rfl miX7_overstretched mlX7_86 (pc := 5) dX7_tryAll_5 rfl rfl (by decide) (Nat.le_of_ble_eq_true rfl) fun y1 =>
pw_istore_n [(1, .int y1), (0, .ref (pw_ad G o))] (pc := 8) dX7_tryAll_8 (by decide) rfl <|
pw_iconst (v := 0) (pc := 9) dX7_tryAll_9 (by decide) <|
pw_istore_n [(2, .int (0 : Int32)), (1, .int y1), (0, .ref (pw_ad G o))] (pc := 10) dX7_tryAll_10 (by decide) rfl <|
pw_lp (fun (kk18 : Int32 → pw_Mem → Option (Int32 × pw_Mem)) => ∀ (v2 : Int32) (m3 : pw_Mem), PW K G RX7 cX7_tryAll 3 (some .int) 2 (pw_MQ K G pw_Wi) (kk18 v2 m3) 11 [(2, .int v2), (1, .int y1), (0, .ref (pw_ad G o))] [] m3) (fun _ _ => pw_none) (fun nx4 hn5 v2 m3 => pw_iload_n (pc := 11) dX7_tryAll_11 0 rfl <|
pw_aload_n (pc := 12) dX7_tryAll_12 2 rfl <|
pw_getI (o := o) (k := 12) (pw_shTown ho) cfX7 rfl (by decide) flX7_49 (pc := 13) dX7_tryAll_13 <|
pw_icmp_ge  (tgt := 54) (pc := 16) dX7_tryAll_16 (by decide) (fun h16 => pw_aload_n (pc := 54) dX7_tryAll_54 2 rfl <|
pw_dup (pc := 55) dX7_tryAll_55 rfl <|
pw_getI (o := o) (k := 13) (pw_shTown ho) cfX7 rfl (by decide) flX7_52 (pc := 56) dX7_tryAll_56 <|
pw_iload_n (pc := 59) dX7_tryAll_59 1 rfl <|
pw_ior (pc := 60) dX7_tryAll_60 <|
pw_putI (o := o) (k := 13) (pw_shTown ho) cfX7 rfl (by decide) flX7_52 rfl (ft := .int) rfl rfl rfl (pc := 61) dX7_tryAll_61 <|
pw_ltM fun m6 => pw_iload_n (pc := 64) dX7_tryAll_64 1 rfl <|
pw_callS_ri (n := 1) (rest := []) (tJ6_bitCount_0f7a4 K.2.1 G y1 m6) miJ6_bitCount_0f7a4 mlX7_65 (pc := 65) dX7_tryAll_65 rfl rfl (by decide) (Nat.le_of_ble_eq_true rfl) fun y7 =>
pw_iret (a := y7) (v := (y7, m6)) hH rfl (pc := 68) dX7_tryAll_68) (fun h17 => pw_iload_n (pc := 19) dX7_tryAll_19 1 rfl <|
pw_iload_n (pc := 20) dX7_tryAll_20 0 rfl <|
pw_ishr (pc := 21) dX7_tryAll_21 <|
pw_iconst (v := 1) (pc := 22) dX7_tryAll_22 (by decide) <|
pw_iand (pc := 23) dX7_tryAll_23 <|
pw_iconst (v := 1) (pc := 24) dX7_tryAll_24 (by decide) <|
pw_jn (fun (k10 : pw_Mem → Option (Int32 × pw_Mem)) => ∀ (m8 : pw_Mem), PW K G RX7 cX7_tryAll 3 (some .int) 2 (pw_MQ K G pw_Wi) (k10 m8) 48 [(2, .int v2), (1, .int y1), (0, .ref (pw_ad G o))] [] m8) (fun m8 => pw_ltA fun x9 hxx9 => pw_iinc (v := x9) [(2, .int x9), (1, .int y1), (0, .ref (pw_ad G o))] (pc := 48) dX7_tryAll_48 0 rfl (by rw [hxx9]; rfl) (by decide) rfl <|
pw_goto (tgt := 11) (pc := 51) dX7_tryAll_51 (by decide) <|
hn5 x9 m8) (fun k10 hk11 => pw_icmp_ne  (tgt := 48) (pc := 25) dX7_tryAll_25 (by decide) (fun h14 => hk11 m3) (fun h15 => pw_aload_n (pc := 28) dX7_tryAll_28 2 rfl <|
pw_aload_n (pc := 29) dX7_tryAll_29 2 rfl <|
pw_getR (o := o) (k := 5) (t := (o + 6)) (pw_shTown ho) cfX7 rfl (by decide) flX7_27 (pc := 30) dX7_tryAll_30 <|
pw_iload_n (pc := 33) dX7_tryAll_33 0 rfl <|
pw_iald (pw_shTown5 ho) (pc := 34) dX7_tryAll_34 <|
pw_callV_wv (n := 1) (rest := []) (tX7_sting K.2.1 G ho (m3 (o + 6) (v2).toNatClampNeg) m3) (pw_shTown ho) cfX7 rfl miX7_sting mlX7_89 (pc := 35) dX7_tryAll_35 rfl rfl (by decide) (Nat.le_of_ble_eq_true rfl) fun m12 =>
pw_aload_n (pc := 38) dX7_tryAll_38 2 rfl <|
pw_aload_n (pc := 39) dX7_tryAll_39 2 rfl <|
pw_getR (o := o) (k := 6) (t := (o + 7)) (pw_shTown ho) cfX7 rfl (by decide) flX7_30 (pc := 40) dX7_tryAll_40 <|
pw_iload_n (pc := 43) dX7_tryAll_43 0 rfl <|
pw_iald (pw_shTown6 ho) (pc := 44) dX7_tryAll_44 <|
pw_callV_wv (n := 1) (rest := []) (tX7_sting K.2.1 G ho (m12 (o + 7) (v2).toNatClampNeg) m12) (pw_shTown ho) cfX7 rfl miX7_sting mlX7_89 (pc := 45) dX7_tryAll_45 rfl rfl (by decide) (Nat.le_of_ble_eq_true rfl) fun m13 =>
hk11 m13)))) FU (0 : Int32) m0)
set_option maxHeartbeats 4000000 in
theorem tX7_moves (l : Launch) (G : pw_G) {o : Nat} (ho : pw_isTown o) (a1 : Int32) (a2 : Int32) (m0 : pw_Mem) : PMet l G yX7_moves cX7_moves 3 (some .int) 3 [.ref (pw_ad G o), .int a1, .int a2] m0 pw_Wi (fX7_moves o a1 a2 m0) :=
  pw_met (own := RX7) (l0 := [(0, .ref (pw_ad G o)), (1, .int a1), (2, .int a2)]) rfl (by decide) rfl (Nat.le_of_ble_eq_true rfl) fun K hK hH => by
  delta fX7_moves
  exact (pw_aload_n (pc := 0) dX7_moves_0 0 rfl <|
pw_getR (o := o) (k := 0) (t := (o + 1)) (pw_shTown ho) cfX7 rfl (by decide) flX7_9 (pc := 1) dX7_moves_1 <|
pw_iload_n (pc := 4) dX7_moves_4 1 rfl <|
pw_iload_n (pc := 5) dX7_moves_5 2 rfl <|
pw_iast (pw_shTown0 ho) (pc := 6) dX7_moves_6 <| pw_ltM fun m1 =>
pw_aload_n (pc := 7) dX7_moves_7 0 rfl <|
pw_callV_wi (n := 0) (rest := []) (tX7_tryAll K.2.1 G ho m1) (pw_shTown ho) cfX7 rfl miX7_tryAll mlX7_102 (pc := 8) dX7_moves_8 rfl rfl (by decide) (Nat.le_of_ble_eq_true rfl) fun y2 m3 =>
pw_iret (a := y2) (v := (y2, m3)) hH rfl (pc := 11) dX7_moves_11)
set_option maxHeartbeats 4000000 in
theorem tX7_allStung (l : Launch) (G : pw_G) {o : Nat} (ho : pw_isTown o) (m0 : pw_Mem) : PMet l G yX7_allStung cX7_allStung 3 (some .int) 0 [.ref (pw_ad G o)] m0 (pw_Ri m0) (fX7_allStung o m0) :=
  pw_met (own := RX7) (l0 := [(0, .ref (pw_ad G o))]) rfl (by decide) rfl (Nat.le_of_ble_eq_true rfl) fun K hK hH => by
  delta fX7_allStung
  exact (pw_iconst (v := 0) (pc := 0) dX7_allStung_0 (by decide) <|
pw_istore_n [(1, .int (0 : Int32)), (0, .ref (pw_ad G o))] (pc := 1) dX7_allStung_1 (by decide) rfl <|
pw_iconst (v := 0) (pc := 2) dX7_allStung_2 (by decide) <|
pw_istore_n [(2, .int (0 : Int32)), (1, .int (0 : Int32)), (0, .ref (pw_ad G o))] (pc := 3) dX7_allStung_3 (by decide) rfl <|
pw_lp (fun (kk9 : Int32 → Int32 → Option Int32) => ∀ (v1 : Int32) (v2 : Int32), PW K G RX7 cX7_allStung 3 (some .int) 0 (pw_MQ K G (pw_Ri m0)) (kk9 v1 v2) 4 [(2, .int v2), (1, .int v1), (0, .ref (pw_ad G o))] [] m0) (fun _ _ => pw_none) (fun nx3 hn4 v1 v2 => pw_iload_n (pc := 4) dX7_allStung_4 0 rfl <|
pw_aload_n (pc := 5) dX7_allStung_5 2 rfl <|
pw_getI (o := o) (k := 11) (pw_shTown ho) cfX7 rfl (by decide) flX7_45 (pc := 6) dX7_allStung_6 <|
pw_icmp_ge  (tgt := 27) (pc := 9) dX7_allStung_9 (by decide) (fun h7 => pw_iload_n (pc := 27) dX7_allStung_27 1 rfl <|
pw_iret (a := v1) (v := v1) hH rfl (pc := 28) dX7_allStung_28) (fun h8 => pw_iload_n (pc := 12) dX7_allStung_12 1 rfl <|
pw_aload_n (pc := 13) dX7_allStung_13 2 rfl <|
pw_getR (o := o) (k := 1) (t := (o + 2)) (pw_shTown ho) cfX7 rfl (by decide) flX7_15 (pc := 14) dX7_allStung_14 <|
pw_iload_n (pc := 17) dX7_allStung_17 0 rfl <|
pw_iald (pw_shTown1 ho) (pc := 18) dX7_allStung_18 <|
pw_iadd (pc := 19) dX7_allStung_19 <|
pw_ltI fun x5 => pw_istore_n [(1, .int x5), (2, .int v2), (0, .ref (pw_ad G o))] (pc := 20) dX7_allStung_20 (by decide) rfl <|
pw_ltA fun x6 hxx6 => pw_iinc (v := x6) [(2, .int x6), (1, .int x5), (0, .ref (pw_ad G o))] (pc := 21) dX7_allStung_21 1 rfl (by rw [hxx6]; rfl) (by decide) rfl <|
pw_goto (tgt := 4) (pc := 24) dX7_allStung_24 (by decide) <|
hn4 x5 x6)) FU (0 : Int32) (0 : Int32))
set_option maxHeartbeats 4000000 in
theorem tX5_isSkipped (l : Launch) (G : pw_G) {o : Nat} (ho : pw_isShelf o) (a1 : Int32) (m0 : pw_Mem) : PMet l G yX5_isSkipped cX5_isSkipped 3 (some .boolean) 2 [.ref (pw_ad G o), .int a1] m0 (pw_Rz m0) (fX5_isSkipped o a1 m0) :=
  pw_met (own := RX5) (l0 := [(0, .ref (pw_ad G o)), (1, .int a1)]) rfl (by decide) rfl (Nat.le_of_ble_eq_true rfl) fun K hK hH => by
  delta fX5_isSkipped
  exact (pw_aload_n (pc := 0) dX5_isSkipped_0 0 rfl <|
pw_getI (o := o) (k := 4) (pw_shShelf ho) cfX5 rfl (by decide) flX5_25 (pc := 1) dX5_isSkipped_1 <|
pw_jn (fun (k5 : Int32 → Option Bool) => ∀ (w1 : Int32), PW K G RX5 cX5_isSkipped 3 (some .boolean) 2 (pw_MQ K G (pw_Rz m0)) (k5 w1) 28 [(0, .ref (pw_ad G o)), (1, .int a1)] [.int w1] m0) (fun w1 => pw_istore_n [(2, .int w1), (0, .ref (pw_ad G o)), (1, .int a1)] (pc := 28) dX5_isSkipped_28 (by decide) rfl <|
pw_aload_n (pc := 29) dX5_isSkipped_29 1 rfl <|
pw_iload_n (pc := 30) dX5_isSkipped_30 2 rfl <|
pw_callV_ri (n := 1) (rest := []) (tX5_at K.2.1 G ho a1 m0) (pw_shShelf ho) cfX5 rfl miX5_at mlX5_36 (pc := 31) dX5_isSkipped_31 rfl rfl (by decide) (Nat.le_of_ble_eq_true rfl) fun y2 =>
pw_iload_n (pc := 34) dX5_isSkipped_34 0 rfl <|
pw_icmp_ne  (tgt := 42) (pc := 35) dX5_isSkipped_35 (by decide) (fun h3 => pw_iconst (v := 0) (pc := 42) dX5_isSkipped_42 (by decide) <|
pw_zret (b := false) hH rfl (pc := 43) dX5_isSkipped_43) (fun h4 => pw_iconst (v := 1) (pc := 38) dX5_isSkipped_38 (by decide) <|
pw_goto (tgt := 43) (pc := 39) dX5_isSkipped_39 (by decide) <|
pw_zret (b := true) hH rfl (pc := 43) dX5_isSkipped_43)) (fun k5 hk6 => pw_if_ne (a := (m0 o 4)) (b := 0) (tgt := 12) (pc := 4) dX5_isSkipped_4 (by decide) (fun h9 => pw_aload_n (pc := 12) dX5_isSkipped_12 0 rfl <|
pw_getI (o := o) (k := 4) (pw_shShelf ho) cfX5 rfl (by decide) flX5_25 (pc := 13) dX5_isSkipped_13 <|
pw_iconst (v := 1) (pc := 16) dX5_isSkipped_16 (by decide) <|
pw_icmp_ne  (tgt := 26) (pc := 17) dX5_isSkipped_17 (by decide) (fun h7 => pw_ldc (v := -2147483648) (pc := 26) dX5_isSkipped_26 klX5_35 <|
hk6 (-2147483648 : Int32)) (fun h8 => pw_sipush (v := -32768) (pc := 20) dX5_isSkipped_20 (by decide) <|
pw_goto (tgt := 28) (pc := 23) dX5_isSkipped_23 (by decide) <|
hk6 (-32768 : Int32))) (fun h10 => pw_bipush (v := -128) (pc := 7) dX5_isSkipped_7 (by decide) <|
pw_goto (tgt := 28) (pc := 9) dX5_isSkipped_9 (by decide) <|
hk6 (-128 : Int32))))
set_option maxHeartbeats 4000000 in
theorem tX7_pull (l : Launch) (G : pw_G) {o : Nat} (ho : pw_isTown o) (a1 : Int32) (m0 : pw_Mem) : PMet l G yX7_pull cX7_pull 2 (some .int) 1 [.ref (pw_ad G o), .int a1] m0 (pw_Ri m0) (fX7_pull o a1 m0) :=
  pw_met (own := RX7) (l0 := [(0, .ref (pw_ad G o)), (1, .int a1)]) rfl (by decide) rfl (Nat.le_of_ble_eq_true rfl) fun K hK hH => by
  delta fX7_pull
  exact (pw_aload_n (pc := 0) dX7_pull_0 0 rfl <|
pw_iload_n (pc := 1) dX7_pull_1 1 rfl <|
pw_callV_rz (n := 1) (rest := []) (tX7_isSnapped K.2.1 G ho a1 m0) (pw_shTown ho) cfX7 rfl miX7_isSnapped mlX7_76 (pc := 2) dX7_pull_2 rfl rfl (by decide) (Nat.le_of_ble_eq_true rfl) fun y1 =>
pw_ifz_eq (tgt := 12) (pc := 5) dX7_pull_5 (by decide) (fun h3 => pw_iconst (v := 0) (pc := 8) dX7_pull_8 (by decide) <|
pw_goto (tgt := 24) (pc := 9) dX7_pull_9 (by decide) <|
pw_iret (a := (0 : Int32)) (v := (0 : Int32)) hH rfl (pc := 24) dX7_pull_24) (fun h4 => pw_aload_n (pc := 12) dX7_pull_12 0 rfl <|
pw_iload_n (pc := 13) dX7_pull_13 1 rfl <|
pw_callV_ri (n := 1) (rest := []) (tX7_stretch K.2.1 G ho a1 m0) (pw_shTown ho) cfX7 rfl miX7_stretch mlX7_79 (pc := 14) dX7_pull_14 rfl rfl (by decide) (Nat.le_of_ble_eq_true rfl) fun y2 =>
pw_aload_n (pc := 17) dX7_pull_17 0 rfl <|
pw_getR (o := o) (k := 9) (t := (o + 10)) (pw_shTown ho) cfX7 rfl (by decide) flX7_39 (pc := 18) dX7_pull_18 <|
pw_iload_n (pc := 21) dX7_pull_21 1 rfl <|
pw_iald (pw_shTown9 ho) (pc := 22) dX7_pull_22 <|
pw_imul (pc := 23) dX7_pull_23 <|
pw_iret (a := (y2 * (m0 (o + 10) (a1).toNatClampNeg))) (v := (y2 * (m0 (o + 10) (a1).toNatClampNeg))) hH rfl (pc := 24) dX7_pull_24))
set_option maxHeartbeats 4000000 in
theorem tX7_weighLeans (l : Launch) (G : pw_G) {o : Nat} (ho : pw_isTown o) (m0 : pw_Mem) : PMet l G yX7_weighLeans cX7_weighLeans 5 (none) 2 [.ref (pw_ad G o)] m0 pw_Wv (fX7_weighLeans o m0) :=
  pw_met (own := RX7) (l0 := [(0, .ref (pw_ad G o))]) rfl (by decide) rfl (Nat.le_of_ble_eq_true rfl) fun K hK hH => by
  delta fX7_weighLeans
  exact (pw_iconst (v := 0) (pc := 0) dX7_weighLeans_0 (by decide) <|
pw_istore_n [(1, .int (0 : Int32)), (0, .ref (pw_ad G o))] (pc := 1) dX7_weighLeans_1 (by decide) rfl <|
pw_lp (fun (kk28 : Int32 → pw_Mem → Option pw_Mem) => ∀ (v1 : Int32) (m2 : pw_Mem), PW K G RX7 cX7_weighLeans 5 (none) 2 (pw_MQ K G pw_Wv) (kk28 v1 m2) 2 [(1, .int v1), (0, .ref (pw_ad G o))] [] m2) (fun _ _ => pw_none) (fun nx3 hn4 v1 m2 => pw_iload_n (pc := 2) dX7_weighLeans_2 0 rfl <|
pw_aload_n (pc := 3) dX7_weighLeans_3 1 rfl <|
pw_getI (o := o) (k := 11) (pw_shTown ho) cfX7 rfl (by decide) flX7_45 (pc := 4) dX7_weighLeans_4 <|
pw_icmp_ge  (tgt := 23) (pc := 7) dX7_weighLeans_7 (by decide) (fun h26 => pw_iconst (v := 0) (pc := 23) dX7_weighLeans_23 (by decide) <|
pw_istore_n [(1, .int (0 : Int32)), (0, .ref (pw_ad G o))] (pc := 24) dX7_weighLeans_24 (by decide) rfl <|
pw_lp (fun (kk23 : Int32 → pw_Mem → Option pw_Mem) => ∀ (v5 : Int32) (m6 : pw_Mem), PW K G RX7 cX7_weighLeans 5 (none) 2 (pw_MQ K G pw_Wv) (kk23 v5 m6) 25 [(1, .int v5), (0, .ref (pw_ad G o))] [] m6) (fun _ _ => pw_none) (fun nx7 hn8 v5 m6 => pw_iload_n (pc := 25) dX7_weighLeans_25 0 rfl <|
pw_aload_n (pc := 26) dX7_weighLeans_26 1 rfl <|
pw_getI (o := o) (k := 12) (pw_shTown ho) cfX7 rfl (by decide) flX7_49 (pc := 27) dX7_weighLeans_27 <|
pw_icmp_ge  (tgt := 106) (pc := 30) dX7_weighLeans_30 (by decide) (fun h21 => pw_vret hH rfl (pc := 106) dX7_weighLeans_106) (fun h22 => pw_aload_n (pc := 33) dX7_weighLeans_33 1 rfl <|
pw_getR (o := o) (k := 5) (t := (o + 6)) (pw_shTown ho) cfX7 rfl (by decide) flX7_27 (pc := 34) dX7_weighLeans_34 <|
pw_iload_n (pc := 37) dX7_weighLeans_37 0 rfl <|
pw_iald (pw_shTown5 ho) (pc := 38) dX7_weighLeans_38 <|
pw_ltI fun x9 => pw_istore_n [(2, .int x9), (1, .int v5), (0, .ref (pw_ad G o))] (pc := 39) dX7_weighLeans_39 (by decide) rfl <|
pw_aload_n (pc := 40) dX7_weighLeans_40 2 rfl <|
pw_getR (o := o) (k := 6) (t := (o + 7)) (pw_shTown ho) cfX7 rfl (by decide) flX7_30 (pc := 41) dX7_weighLeans_41 <|
pw_iload_n (pc := 44) dX7_weighLeans_44 1 rfl <|
pw_iald (pw_shTown6 ho) (pc := 45) dX7_weighLeans_45 <|
pw_ltI fun x10 => pw_istore_n [(3, .int x10), (2, .int x9), (1, .int v5), (0, .ref (pw_ad G o))] (pc := 46) dX7_weighLeans_46 (by decide) rfl <|
pw_aload_n (pc := 47) dX7_weighLeans_47 3 rfl <|
pw_getR (o := o) (k := 0) (t := (o + 1)) (pw_shTown ho) cfX7 rfl (by decide) flX7_9 (pc := 48) dX7_weighLeans_48 <|
pw_iload_n (pc := 51) dX7_weighLeans_51 1 rfl <|
pw_iald (pw_shTown0 ho) (pc := 52) dX7_weighLeans_52 <|
pw_aload_n (pc := 53) dX7_weighLeans_53 3 rfl <|
pw_getR (o := o) (k := 0) (t := (o + 1)) (pw_shTown ho) cfX7 rfl (by decide) flX7_9 (pc := 54) dX7_weighLeans_54 <|
pw_iload_n (pc := 57) dX7_weighLeans_57 0 rfl <|
pw_iald (pw_shTown0 ho) (pc := 58) dX7_weighLeans_58 <|
pw_jn (fun (k15 : Int32 → Option pw_Mem) => ∀ (w11 : Int32), PW K G RX7 cX7_weighLeans 5 (none) 2 (pw_MQ K G pw_Wv) (k15 w11) 76 [(3, .int x10), (2, .int x9), (1, .int v5), (0, .ref (pw_ad G o))] [.int w11] m6) (fun w11 => pw_istore [(4, .int w11), (3, .int x10), (2, .int x9), (1, .int v5), (0, .ref (pw_ad G o))] (pc := 76) dX7_weighLeans_76 (by decide) rfl <|
pw_aload_n (pc := 78) dX7_weighLeans_78 4 rfl <|
pw_getR (o := o) (k := 2) (t := (o + 3)) (pw_shTown ho) cfX7 rfl (by decide) flX7_18 (pc := 79) dX7_weighLeans_79 <|
pw_iload_n (pc := 82) dX7_weighLeans_82 2 rfl <|
pw_dup2 (pc := 83) dX7_weighLeans_83 rfl rfl <|
pw_iald (pw_shTown2 ho) (pc := 84) dX7_weighLeans_84 <|
pw_iload (pc := 85) dX7_weighLeans_85 0 rfl <|
pw_iadd (pc := 87) dX7_weighLeans_87 <|
pw_iast (pw_shTown2 ho) (pc := 88) dX7_weighLeans_88 <| pw_ltM fun m12 =>
pw_aload_n (pc := 89) dX7_weighLeans_89 4 rfl <|
pw_getR (o := o) (k := 2) (t := (o + 3)) (pw_shTown ho) cfX7 rfl (by decide) flX7_18 (pc := 90) dX7_weighLeans_90 <|
pw_iload_n (pc := 93) dX7_weighLeans_93 1 rfl <|
pw_dup2 (pc := 94) dX7_weighLeans_94 rfl rfl <|
pw_iald (pw_shTown2 ho) (pc := 95) dX7_weighLeans_95 <|
pw_iload (pc := 96) dX7_weighLeans_96 0 rfl <|
pw_isub (pc := 98) dX7_weighLeans_98 <|
pw_iast (pw_shTown2 ho) (pc := 99) dX7_weighLeans_99 <| pw_ltM fun m13 =>
pw_ltA fun x14 hxx14 => pw_iinc (v := x14) [(1, .int x14), (4, .int w11), (3, .int x10), (2, .int x9), (0, .ref (pw_ad G o))] (pc := 100) dX7_weighLeans_100 3 rfl (by rw [hxx14]; rfl) (by decide) rfl <|
pw_goto (tgt := 25) (pc := 103) dX7_weighLeans_103 (by decide) <|
pw_sub [0, 4] rfl <| hn8 x14 m13) (fun k15 hk16 => pw_icmp_ge  (tgt := 70) (pc := 59) dX7_weighLeans_59 (by decide) (fun h19 => pw_aload_n (pc := 70) dX7_weighLeans_70 3 rfl <|
pw_iload_n (pc := 71) dX7_weighLeans_71 2 rfl <|
pw_callV_ri (n := 1) (rest := []) (tX7_pull K.2.1 G ho v5 m6) (pw_shTown ho) cfX7 rfl miX7_pull mlX7_119 (pc := 72) dX7_weighLeans_72 rfl rfl (by decide) (Nat.le_of_ble_eq_true rfl) fun y17 =>
pw_ineg (pc := 75) dX7_weighLeans_75 <|
hk16 (-y17)) (fun h20 => pw_aload_n (pc := 62) dX7_weighLeans_62 3 rfl <|
pw_iload_n (pc := 63) dX7_weighLeans_63 2 rfl <|
pw_callV_ri (n := 1) (rest := []) (tX7_pull K.2.1 G ho v5 m6) (pw_shTown ho) cfX7 rfl miX7_pull mlX7_119 (pc := 64) dX7_weighLeans_64 rfl rfl (by decide) (Nat.le_of_ble_eq_true rfl) fun y18 =>
pw_goto (tgt := 76) (pc := 67) dX7_weighLeans_67 (by decide) <|
hk16 y18)))) FU (0 : Int32) m2) (fun h27 => pw_aload_n (pc := 10) dX7_weighLeans_10 1 rfl <|
pw_getR (o := o) (k := 2) (t := (o + 3)) (pw_shTown ho) cfX7 rfl (by decide) flX7_18 (pc := 11) dX7_weighLeans_11 <|
pw_iload_n (pc := 14) dX7_weighLeans_14 0 rfl <|
pw_iconst (v := 0) (pc := 15) dX7_weighLeans_15 (by decide) <|
pw_iast (pw_shTown2 ho) (pc := 16) dX7_weighLeans_16 <| pw_ltM fun m24 =>
pw_ltA fun x25 hxx25 => pw_iinc (v := x25) [(1, .int x25), (0, .ref (pw_ad G o))] (pc := 17) dX7_weighLeans_17 0 rfl (by rw [hxx25]; rfl) (by decide) rfl <|
pw_goto (tgt := 2) (pc := 20) dX7_weighLeans_20 (by decide) <|
hn4 x25 m24)) FU (0 : Int32) m0)
set_option maxHeartbeats 4000000 in
theorem tX3_gauge (l : Launch) (G : pw_G) (a1 : Int32) (m0 : pw_Mem) : PMet l G yX3_gauge cX3_gauge 3 (some .int) 0 [.int a1] m0 (pw_Ri m0) (fX3_gauge a1 m0) :=
  pw_met (own := RX3) (l0 := [(0, .int a1)]) rfl (by decide) rfl (Nat.le_of_ble_eq_true rfl) fun K hK hH => by
  delta fX3_gauge
  exact (pw_iconst (v := 1) (pc := 0) dX3_gauge_0 (by decide) <|
pw_istore_n [(1, .int (1 : Int32)), (0, .int a1)] (pc := 1) dX3_gauge_1 (by decide) rfl <|
pw_iload_n (pc := 2) dX3_gauge_2 0 rfl <|
pw_iconst (v := 1) (pc := 3) dX3_gauge_3 (by decide) <|
pw_iadd (pc := 4) dX3_gauge_4 <|
pw_ltI fun x1 => pw_istore_n [(2, .int x1), (1, .int (1 : Int32)), (0, .int a1)] (pc := 5) dX3_gauge_5 (by decide) rfl <|
pw_iload_n (pc := 6) dX3_gauge_6 2 rfl <|
pw_jn (fun (k2 : Option Int32) => PW K G RX3 cX3_gauge 3 (some .int) 0 (pw_MQ K G (pw_Ri m0)) k2 62 [(1, .int (1 : Int32))] [] m0) (pw_iload_n (pc := 62) dX3_gauge_62 0 rfl <|
pw_iret (a := (1 : Int32)) (v := (1 : Int32)) hH rfl (pc := 63) dX3_gauge_63) (fun k2 hk3 => pw_if (fun h4 => pw_tIn (tgt := 48) (pc := 7) dX3_gauge_7 h4 (by decide) (by decide) rfl (by decide) <|
pw_iload_n (pc := 48) dX3_gauge_48 0 rfl <|
pw_iret (a := x1) (v := x1) hH rfl (pc := 49) dX3_gauge_49) (fun h4 => pw_if (fun h5 => pw_tIn (tgt := 50) (pc := 7) dX3_gauge_7 h5 (by decide) (by decide) rfl (by decide) <|
pw_iload_n (pc := 50) dX3_gauge_50 0 rfl <|
pw_iconst (v := 1) (pc := 51) dX3_gauge_51 (by decide) <|
pw_iadd (pc := 52) dX3_gauge_52 <|
pw_iret (a := (x1 + (1 : Int32))) (v := (x1 + (1 : Int32))) hH rfl (pc := 53) dX3_gauge_53) (fun h5 => pw_if (fun h6 => pw_tIn (tgt := 62) (pc := 7) dX3_gauge_7 h6 (by decide) (by decide) rfl (by decide) <|
pw_sub [1] rfl <| hk3) (fun h6 => pw_if (fun h7 => pw_tIn (tgt := 54) (pc := 7) dX3_gauge_7 h7 (by decide) (by decide) rfl (by decide) <|
pw_iload_n (pc := 54) dX3_gauge_54 1 rfl <|
pw_iconst (v := 2) (pc := 55) dX3_gauge_55 (by decide) <|
pw_iadd (pc := 56) dX3_gauge_56 <|
pw_iret (a := ((1 : Int32) + (2 : Int32))) (v := ((1 : Int32) + (2 : Int32))) hH rfl (pc := 57) dX3_gauge_57) (fun h7 => pw_if (fun h8 => pw_tIn (tgt := 58) (pc := 7) dX3_gauge_7 h8 (by decide) (by decide) rfl (by decide) <|
pw_iload_n (pc := 58) dX3_gauge_58 0 rfl <|
pw_iret (a := x1) (v := x1) hH rfl (pc := 59) dX3_gauge_59) (fun h8 => pw_if (fun h9 => pw_tIn (tgt := 62) (pc := 7) dX3_gauge_7 h9 (by decide) (by decide) rfl (by decide) <|
pw_sub [1] rfl <| hk3) (fun h9 => pw_if (fun h10 => pw_tIn (tgt := 60) (pc := 7) dX3_gauge_7 h10 (by decide) (by decide) rfl (by decide) <|
pw_iconst (v := 4) (pc := 60) dX3_gauge_60 (by decide) <|
pw_iret (a := (4 : Int32)) (v := (4 : Int32)) hH rfl (pc := 61) dX3_gauge_61) (fun h10 => pw_tOut (tgt := 62) (pc := 7) dX3_gauge_7 (by have q0 := lv_neT h4 (a := 1) rfl; have q1 := lv_neT h5 (a := 2) rfl; have q2 := lv_neT h6 (a := 3) rfl; have q3 := lv_neT h7 (a := 4) rfl; have q4 := lv_neT h8 (a := 5) rfl; have q5 := lv_neT h9 (a := 6) rfl; have q6 := lv_neT h10 (a := 7) rfl; omega) (by decide) <|
pw_sub [1] rfl <| hk3)))))))))
set_option maxHeartbeats 4000000 in
theorem tX3_slack (l : Launch) (G : pw_G) (a1 : Int32) (a2 : Int32) (m0 : pw_Mem) : PMet l G yX3_slack cX3_slack 4 (some .int) 0 [.int a1, .int a2] m0 (pw_Ri m0) (fX3_slack a1 a2 m0) :=
  pw_met (own := RX3) (l0 := [(0, .int a1), (1, .int a2)]) rfl (by decide) rfl (Nat.le_of_ble_eq_true rfl) fun K hK hH => by
  delta fX3_slack
  exact (pw_iload_n (pc := 0) dX3_slack_0 1 rfl <|
pw_iconst (v := 2) (pc := 1) dX3_slack_1 (by decide) <|
pw_iadd (pc := 2) dX3_slack_2 <|
pw_ltI fun x1 => pw_istore_n [(2, .int x1), (0, .int a1), (1, .int a2)] (pc := 3) dX3_slack_3 (by decide) rfl <|
pw_iload_n (pc := 4) dX3_slack_4 0 rfl <|
pw_iconst (v := 2) (pc := 5) dX3_slack_5 (by decide) <|
pw_idiv (pc := 6) dX3_slack_6 (by decide) <|
pw_ltI fun x2 => pw_istore_n [(3, .int x2), (2, .int x1), (0, .int a1), (1, .int a2)] (pc := 7) dX3_slack_7 (by decide) rfl <|
pw_iload_n (pc := 8) dX3_slack_8 2 rfl <|
pw_if (fun h3 => pw_tIn (tgt := 52) (pc := 9) dX3_slack_9 h3 (by decide) (by decide) rfl (by decide) <|
pw_iload_n (pc := 52) dX3_slack_52 0 rfl <|
pw_iret (a := x2) (v := x2) hH rfl (pc := 53) dX3_slack_53) (fun h3 => pw_if (fun h4 => pw_tIn (tgt := 54) (pc := 9) dX3_slack_9 h4 (by decide) (by decide) rfl (by decide) <|
pw_iload_n (pc := 54) dX3_slack_54 0 rfl <|
pw_iconst (v := 1) (pc := 55) dX3_slack_55 (by decide) <|
pw_iadd (pc := 56) dX3_slack_56 <|
pw_iret (a := (x2 + (1 : Int32))) (v := (x2 + (1 : Int32))) hH rfl (pc := 57) dX3_slack_57) (fun h4 => pw_if (fun h5 => pw_tIn (tgt := 58) (pc := 9) dX3_slack_9 h5 (by decide) (by decide) rfl (by decide) <|
pw_iload_n (pc := 58) dX3_slack_58 3 rfl <|
pw_iret (a := a2) (v := a2) hH rfl (pc := 59) dX3_slack_59) (fun h5 => pw_if (fun h6 => pw_tIn (tgt := 60) (pc := 9) dX3_slack_9 h6 (by decide) (by decide) rfl (by decide) <|
pw_iload_n (pc := 60) dX3_slack_60 1 rfl <|
pw_iconst (v := 1) (pc := 61) dX3_slack_61 (by decide) <|
pw_isub (pc := 62) dX3_slack_62 <|
pw_iret (a := (x1 - (1 : Int32))) (v := (x1 - (1 : Int32))) hH rfl (pc := 63) dX3_slack_63) (fun h6 => pw_if (fun h7 => pw_tIn (tgt := 64) (pc := 9) dX3_slack_9 h7 (by decide) (by decide) rfl (by decide) <|
pw_iconst (v := 0) (pc := 64) dX3_slack_64 (by decide) <|
pw_iret (a := (0 : Int32)) (v := (0 : Int32)) hH rfl (pc := 65) dX3_slack_65) (fun h7 => pw_if (fun h8 => pw_tIn (tgt := 66) (pc := 9) dX3_slack_9 h8 (by decide) (by decide) rfl (by decide) <|
pw_iload_n (pc := 66) dX3_slack_66 1 rfl <|
pw_iconst (v := 4) (pc := 67) dX3_slack_67 (by decide) <|
pw_iadd (pc := 68) dX3_slack_68 <|
pw_iret (a := (x1 + (4 : Int32))) (v := (x1 + (4 : Int32))) hH rfl (pc := 69) dX3_slack_69) (fun h8 => pw_if (fun h9 => pw_tIn (tgt := 70) (pc := 9) dX3_slack_9 h9 (by decide) (by decide) rfl (by decide) <|
pw_iconst (v := 2) (pc := 70) dX3_slack_70 (by decide) <|
pw_iload_n (pc := 71) dX3_slack_71 3 rfl <|
pw_imul (pc := 72) dX3_slack_72 <|
pw_iret (a := ((2 : Int32) * a2)) (v := ((2 : Int32) * a2)) hH rfl (pc := 73) dX3_slack_73) (fun h9 => pw_tOut (tgt := 74) (pc := 9) dX3_slack_9 (by have q0 := lv_neT h3 (a := 1) rfl; have q1 := lv_neT h4 (a := 2) rfl; have q2 := lv_neT h5 (a := 3) rfl; have q3 := lv_neT h6 (a := 4) rfl; have q4 := lv_neT h7 (a := 5) rfl; have q5 := lv_neT h8 (a := 6) rfl; have q6 := lv_neT h9 (a := 7) rfl; omega) (by decide) <|
pw_iload_n (pc := 74) dX3_slack_74 1 rfl <|
pw_iret (a := x1) (v := x1) hH rfl (pc := 75) dX3_slack_75))))))))
set_option maxHeartbeats 4000000 in
theorem tX3_stretch (l : Launch) (G : pw_G) (a1 : Int32) (a2 : Int32) (a3 : Int32) (m0 : pw_Mem) : PMet l G yX3_stretch cX3_stretch 4 (some .int) 1 [.int a1, .int a2, .int a3] m0 (pw_Ri m0) (fX3_stretch a1 a2 a3 m0) :=
  pw_met (own := RX3) (l0 := [(0, .int a1), (1, .int a2), (2, .int a3)]) rfl (by decide) rfl (Nat.le_of_ble_eq_true rfl) fun K hK hH => by
  delta fX3_stretch
  exact (pw_iload_n (pc := 0) dX3_stretch_0 2 rfl <|
pw_iload_n (pc := 1) dX3_stretch_1 0 rfl <|
pw_iload_n (pc := 2) dX3_stretch_2 1 rfl <|
pw_callS_ri (n := 2) (rest := [.int a3]) (tX3_slack K.2.1 G a1 a2 m0) miX3_slack mlX3_7 (pc := 3) dX3_stretch_3 rfl rfl (by decide) (Nat.le_of_ble_eq_true rfl) fun y1 =>
pw_isub (pc := 6) dX3_stretch_6 <|
pw_ltI fun x2 => pw_istore_n [(3, .int x2), (0, .int a1), (1, .int a2), (2, .int a3)] (pc := 7) dX3_stretch_7 (by decide) rfl <|
pw_iload_n (pc := 8) dX3_stretch_8 0 rfl <|
pw_if_le (a := x2) (b := 0) (tgt := 16) (pc := 9) dX3_stretch_9 (by decide) (fun h3 => pw_iconst (v := 0) (pc := 16) dX3_stretch_16 (by decide) <|
pw_iret (a := (0 : Int32)) (v := (0 : Int32)) hH rfl (pc := 17) dX3_stretch_17) (fun h4 => pw_iload_n (pc := 12) dX3_stretch_12 0 rfl <|
pw_goto (tgt := 17) (pc := 13) dX3_stretch_13 (by decide) <|
pw_iret (a := x2) (v := x2) hH rfl (pc := 17) dX3_stretch_17))
set_option maxHeartbeats 4000000 in
theorem tX3_pull (l : Launch) (G : pw_G) (a1 : Int32) (a2 : Int32) (a3 : Int32) (m0 : pw_Mem) : PMet l G yX3_pull cX3_pull 3 (some .int) 2 [.int a1, .int a2, .int a3] m0 (pw_Ri m0) (fX3_pull a1 a2 a3 m0) :=
  pw_met (own := RX3) (l0 := [(0, .int a1), (1, .int a2), (2, .int a3)]) rfl (by decide) rfl (Nat.le_of_ble_eq_true rfl) fun K hK hH => by
  delta fX3_pull
  exact (pw_iload_n (pc := 0) dX3_pull_0 0 rfl <|
pw_iload_n (pc := 1) dX3_pull_1 1 rfl <|
pw_iload_n (pc := 2) dX3_pull_2 2 rfl <|
pw_callS_ri (n := 3) (rest := []) (tX3_stretch K.2.1 G a1 a2 a3 m0) miX3_stretch mlX3_13 (pc := 3) dX3_pull_3 rfl rfl (by decide) (Nat.le_of_ble_eq_true rfl) fun y1 =>
pw_iload_n (pc := 6) dX3_pull_6 0 rfl <|
pw_callS_ri (n := 1) (rest := [.int y1]) (tX3_gauge K.2.1 G a1 m0) miX3_gauge mlX3_17 (pc := 7) dX3_pull_7 rfl rfl (by decide) (Nat.le_of_ble_eq_true rfl) fun y2 =>
pw_imul (pc := 10) dX3_pull_10 <|
pw_iret (a := (y1 * y2)) (v := (y1 * y2)) hH rfl (pc := 11) dX3_pull_11)
set_option maxHeartbeats 4000000 in
theorem tX7_isRound (l : Launch) (G : pw_G) {o : Nat} (ho : pw_isTown o) (a1 : Int32) (a2 : Int32) (a3 : Int32) (m0 : pw_Mem) : PMet l G yX7_isRound cX7_isRound 4 (some .boolean) 0 [.ref (pw_ad G o), .int a1, .int a2, .int a3] m0 (pw_Rz m0) (fX7_isRound o a1 a2 a3 m0) :=
  pw_met (own := RX7) (l0 := [(0, .ref (pw_ad G o)), (1, .int a1), (2, .int a2), (3, .int a3)]) rfl (by decide) rfl (Nat.le_of_ble_eq_true rfl) fun K hK hH => by
  delta fX7_isRound
  exact (pw_aload_n (pc := 0) dX7_isRound_0 0 rfl <|
pw_getR (o := o) (k := 5) (t := (o + 6)) (pw_shTown ho) cfX7 rfl (by decide) flX7_27 (pc := 1) dX7_isRound_1 <|
pw_iload_n (pc := 4) dX7_isRound_4 1 rfl <|
pw_iald (pw_shTown5 ho) (pc := 5) dX7_isRound_5 <|
pw_iload_n (pc := 6) dX7_isRound_6 2 rfl <|
pw_jn (fun (k5 : Option Bool) => PW K G RX7 cX7_isRound 4 (some .boolean) 0 (pw_MQ K G (pw_Rz m0)) k5 20 [(0, .ref (pw_ad G o)), (1, .int a1), (2, .int a2), (3, .int a3)] [] m0) (pw_aload_n (pc := 20) dX7_isRound_20 0 rfl <|
pw_getR (o := o) (k := 5) (t := (o + 6)) (pw_shTown ho) cfX7 rfl (by decide) flX7_27 (pc := 21) dX7_isRound_21 <|
pw_iload_n (pc := 24) dX7_isRound_24 1 rfl <|
pw_iald (pw_shTown5 ho) (pc := 25) dX7_isRound_25 <|
pw_iload_n (pc := 26) dX7_isRound_26 3 rfl <|
pw_icmp_ne  (tgt := 44) (pc := 27) dX7_isRound_27 (by decide) (fun h3 => pw_iconst (v := 0) (pc := 44) dX7_isRound_44 (by decide) <|
pw_zret (b := false) hH rfl (pc := 45) dX7_isRound_45) (fun h4 => pw_aload_n (pc := 30) dX7_isRound_30 0 rfl <|
pw_getR (o := o) (k := 6) (t := (o + 7)) (pw_shTown ho) cfX7 rfl (by decide) flX7_30 (pc := 31) dX7_isRound_31 <|
pw_iload_n (pc := 34) dX7_isRound_34 1 rfl <|
pw_iald (pw_shTown6 ho) (pc := 35) dX7_isRound_35 <|
pw_iload_n (pc := 36) dX7_isRound_36 2 rfl <|
pw_icmp_ne  (tgt := 44) (pc := 37) dX7_isRound_37 (by decide) (fun h1 => pw_iconst (v := 0) (pc := 44) dX7_isRound_44 (by decide) <|
pw_zret (b := false) hH rfl (pc := 45) dX7_isRound_45) (fun h2 => pw_iconst (v := 1) (pc := 40) dX7_isRound_40 (by decide) <|
pw_goto (tgt := 45) (pc := 41) dX7_isRound_41 (by decide) <|
pw_zret (b := true) hH rfl (pc := 45) dX7_isRound_45))) (fun k5 hk6 => pw_icmp_ne  (tgt := 20) (pc := 7) dX7_isRound_7 (by decide) (fun h9 => hk6) (fun h10 => pw_aload_n (pc := 10) dX7_isRound_10 0 rfl <|
pw_getR (o := o) (k := 6) (t := (o + 7)) (pw_shTown ho) cfX7 rfl (by decide) flX7_30 (pc := 11) dX7_isRound_11 <|
pw_iload_n (pc := 14) dX7_isRound_14 1 rfl <|
pw_iald (pw_shTown6 ho) (pc := 15) dX7_isRound_15 <|
pw_iload_n (pc := 16) dX7_isRound_16 3 rfl <|
pw_icmp_eq  (tgt := 40) (pc := 17) dX7_isRound_17 (by decide) (fun h7 => pw_iconst (v := 1) (pc := 40) dX7_isRound_40 (by decide) <|
pw_goto (tgt := 45) (pc := 41) dX7_isRound_41 (by decide) <|
pw_zret (b := true) hH rfl (pc := 45) dX7_isRound_45) (fun h8 => hk6))))
set_option maxHeartbeats 4000000 in
theorem tX7_apart (l : Launch) (G : pw_G) {o : Nat} (ho : pw_isTown o) (a1 : Int32) (a2 : Int32) (m0 : pw_Mem) : PMet l G yX7_apart cX7_apart 3 (some .int) 1 [.ref (pw_ad G o), .int a1, .int a2] m0 (pw_Ri m0) (fX7_apart o a1 a2 m0) :=
  pw_met (own := RX7) (l0 := [(0, .ref (pw_ad G o)), (1, .int a1), (2, .int a2)]) rfl (by decide) rfl (Nat.le_of_ble_eq_true rfl) fun K hK hH => by
  delta fX7_apart
  exact (pw_aload_n (pc := 0) dX7_apart_0 0 rfl <|
pw_getR (o := o) (k := 0) (t := (o + 1)) (pw_shTown ho) cfX7 rfl (by decide) flX7_9 (pc := 1) dX7_apart_1 <|
pw_iload_n (pc := 4) dX7_apart_4 1 rfl <|
pw_iald (pw_shTown0 ho) (pc := 5) dX7_apart_5 <|
pw_aload_n (pc := 6) dX7_apart_6 0 rfl <|
pw_getR (o := o) (k := 0) (t := (o + 1)) (pw_shTown ho) cfX7 rfl (by decide) flX7_9 (pc := 7) dX7_apart_7 <|
pw_iload_n (pc := 10) dX7_apart_10 2 rfl <|
pw_iald (pw_shTown0 ho) (pc := 11) dX7_apart_11 <|
pw_isub (pc := 12) dX7_apart_12 <|
pw_mabs (b := 0) mlX7_71 ms_abs ms_math mc_abs (pc := 13) dX7_apart_13 (by decide) (Nat.le_of_ble_eq_true rfl) <|
pw_iret (a := (jabs ((m0 (o + 1) (a1).toNatClampNeg) - (m0 (o + 1) (a2).toNatClampNeg)))) (v := (jabs ((m0 (o + 1) (a1).toNatClampNeg) - (m0 (o + 1) (a2).toNatClampNeg)))) hH rfl (pc := 16) dX7_apart_16)
set_option maxHeartbeats 4000000 in
theorem tX3_holds (l : Launch) (G : pw_G) (a1 : Int32) (a2 : Int32) (m0 : pw_Mem) : PMet l G yX3_holds cX3_holds 5 (some .int) 0 [.int a1, .int a2] m0 (pw_Ri m0) (fX3_holds a1 a2 m0) :=
  pw_met (own := RX3) (l0 := [(0, .int a1), (1, .int a2)]) rfl (by decide) rfl (Nat.le_of_ble_eq_true rfl) fun K hK hH => by
  delta fX3_holds
  exact (pw_iload_n (pc := 0) dX3_holds_0 1 rfl <|
pw_bipush (v := 8) (pc := 1) dX3_holds_1 (by decide) <|
pw_iadd (pc := 3) dX3_holds_3 <|
pw_ltI fun x1 => pw_istore_n [(2, .int x1), (0, .int a1), (1, .int a2)] (pc := 4) dX3_holds_4 (by decide) rfl <|
pw_iload_n (pc := 5) dX3_holds_5 0 rfl <|
pw_iconst (v := 4) (pc := 6) dX3_holds_6 (by decide) <|
pw_iadd (pc := 7) dX3_holds_7 <|
pw_ltI fun x2 => pw_istore_n [(3, .int x2), (2, .int x1), (0, .int a1), (1, .int a2)] (pc := 8) dX3_holds_8 (by decide) rfl <|
pw_iconst (v := 3) (pc := 9) dX3_holds_9 (by decide) <|
pw_istore [(4, .int (3 : Int32)), (3, .int x2), (2, .int x1), (0, .int a1), (1, .int a2)] (pc := 10) dX3_holds_10 (by decide) rfl <|
pw_iload_n (pc := 12) dX3_holds_12 3 rfl <|
pw_jn (fun (k3 : Option Int32) => PW K G RX3 cX3_holds 5 (some .int) 0 (pw_MQ K G (pw_Ri m0)) k3 77 [(2, .int x1)] [] m0) (pw_iload_n (pc := 77) dX3_holds_77 0 rfl <|
pw_iret (a := x1) (v := x1) hH rfl (pc := 78) dX3_holds_78) (fun k3 hk4 => pw_if (fun h5 => pw_tIn (tgt := 56) (pc := 13) dX3_holds_13 h5 (by decide) (by decide) rfl (by decide) <|
pw_iload_n (pc := 56) dX3_holds_56 1 rfl <|
pw_iret (a := x2) (v := x2) hH rfl (pc := 57) dX3_holds_57) (fun h5 => pw_if (fun h6 => pw_tIn (tgt := 58) (pc := 13) dX3_holds_13 h6 (by decide) (by decide) rfl (by decide) <|
pw_iconst (v := 2) (pc := 58) dX3_holds_58 (by decide) <|
pw_iload_n (pc := 59) dX3_holds_59 1 rfl <|
pw_imul (pc := 60) dX3_holds_60 <|
pw_iret (a := ((2 : Int32) * x2)) (v := ((2 : Int32) * x2)) hH rfl (pc := 61) dX3_holds_61) (fun h6 => pw_if (fun h7 => pw_tIn (tgt := 62) (pc := 13) dX3_holds_13 h7 (by decide) (by decide) rfl (by decide) <|
pw_iload (pc := 62) dX3_holds_62 0 rfl <|
pw_iret (a := (3 : Int32)) (v := (3 : Int32)) hH rfl (pc := 64) dX3_holds_64) (fun h7 => pw_if (fun h8 => pw_tIn (tgt := 65) (pc := 13) dX3_holds_13 h8 (by decide) (by decide) rfl (by decide) <|
pw_iload_n (pc := 65) dX3_holds_65 2 rfl <|
pw_iconst (v := 2) (pc := 66) dX3_holds_66 (by decide) <|
pw_idiv (pc := 67) dX3_holds_67 (by decide) <|
pw_iret (a := (x1 / (2 : Int32))) (v := (x1 / (2 : Int32))) hH rfl (pc := 68) dX3_holds_68) (fun h8 => pw_if (fun h9 => pw_tIn (tgt := 69) (pc := 13) dX3_holds_13 h9 (by decide) (by decide) rfl (by decide) <|
pw_bipush (v := 30) (pc := 69) dX3_holds_69 (by decide) <|
pw_iret (a := (30 : Int32)) (v := (30 : Int32)) hH rfl (pc := 71) dX3_holds_71) (fun h9 => pw_if (fun h10 => pw_tIn (tgt := 77) (pc := 13) dX3_holds_13 h10 (by decide) (by decide) rfl (by decide) <|
pw_sub [2] rfl <| hk4) (fun h10 => pw_if (fun h11 => pw_tIn (tgt := 72) (pc := 13) dX3_holds_13 h11 (by decide) (by decide) rfl (by decide) <|
pw_iload (pc := 72) dX3_holds_72 0 rfl <|
pw_iconst (v := 2) (pc := 74) dX3_holds_74 (by decide) <|
pw_iadd (pc := 75) dX3_holds_75 <|
pw_iret (a := ((3 : Int32) + (2 : Int32))) (v := ((3 : Int32) + (2 : Int32))) hH rfl (pc := 76) dX3_holds_76) (fun h11 => pw_tOut (tgt := 77) (pc := 13) dX3_holds_13 (by have q0 := lv_neT h5 (a := 1) rfl; have q1 := lv_neT h6 (a := 2) rfl; have q2 := lv_neT h7 (a := 3) rfl; have q3 := lv_neT h8 (a := 4) rfl; have q4 := lv_neT h9 (a := 5) rfl; have q5 := lv_neT h10 (a := 6) rfl; have q6 := lv_neT h11 (a := 7) rfl; omega) (by decide) <|
pw_sub [2] rfl <| hk4)))))))))
set_option maxHeartbeats 4000000 in
theorem tX3_costs (l : Launch) (G : pw_G) (a1 : Int32) (a2 : Int32) (m0 : pw_Mem) : PMet l G yX3_costs cX3_costs 5 (some .int) 0 [.int a1, .int a2] m0 (pw_Ri m0) (fX3_costs a1 a2 m0) :=
  pw_met (own := RX3) (l0 := [(0, .int a1), (1, .int a2)]) rfl (by decide) rfl (Nat.le_of_ble_eq_true rfl) fun K hK hH => by
  delta fX3_costs
  exact (pw_iconst (v := 2) (pc := 0) dX3_costs_0 (by decide) <|
pw_istore_n [(2, .int (2 : Int32)), (0, .int a1), (1, .int a2)] (pc := 1) dX3_costs_1 (by decide) rfl <|
pw_iload_n (pc := 2) dX3_costs_2 0 rfl <|
pw_iload_n (pc := 3) dX3_costs_3 2 rfl <|
pw_iadd (pc := 4) dX3_costs_4 <|
pw_ltI fun x1 => pw_istore_n [(3, .int x1), (2, .int (2 : Int32)), (0, .int a1), (1, .int a2)] (pc := 5) dX3_costs_5 (by decide) rfl <|
pw_iconst (v := 1) (pc := 6) dX3_costs_6 (by decide) <|
pw_istore [(4, .int (1 : Int32)), (3, .int x1), (2, .int (2 : Int32)), (0, .int a1), (1, .int a2)] (pc := 7) dX3_costs_7 (by decide) rfl <|
pw_iload_n (pc := 9) dX3_costs_9 3 rfl <|
pw_if (fun h2 => pw_tIn (tgt := 52) (pc := 10) dX3_costs_10 h2 (by decide) (by decide) rfl (by decide) <|
pw_iload_n (pc := 52) dX3_costs_52 1 rfl <|
pw_iret (a := x1) (v := x1) hH rfl (pc := 53) dX3_costs_53) (fun h2 => pw_if (fun h3 => pw_tIn (tgt := 54) (pc := 10) dX3_costs_10 h3 (by decide) (by decide) rfl (by decide) <|
pw_iconst (v := 2) (pc := 54) dX3_costs_54 (by decide) <|
pw_iload_n (pc := 55) dX3_costs_55 1 rfl <|
pw_imul (pc := 56) dX3_costs_56 <|
pw_iret (a := ((2 : Int32) * x1)) (v := ((2 : Int32) * x1)) hH rfl (pc := 57) dX3_costs_57) (fun h3 => pw_if (fun h4 => pw_tIn (tgt := 58) (pc := 10) dX3_costs_10 h4 (by decide) (by decide) rfl (by decide) <|
pw_iload (pc := 58) dX3_costs_58 0 rfl <|
pw_iret (a := (1 : Int32)) (v := (1 : Int32)) hH rfl (pc := 60) dX3_costs_60) (fun h4 => pw_if (fun h5 => pw_tIn (tgt := 61) (pc := 10) dX3_costs_10 h5 (by decide) (by decide) rfl (by decide) <|
pw_iload_n (pc := 61) dX3_costs_61 2 rfl <|
pw_iconst (v := 3) (pc := 62) dX3_costs_62 (by decide) <|
pw_iadd (pc := 63) dX3_costs_63 <|
pw_iret (a := ((2 : Int32) + (3 : Int32))) (v := ((2 : Int32) + (3 : Int32))) hH rfl (pc := 64) dX3_costs_64) (fun h5 => pw_if (fun h6 => pw_tIn (tgt := 65) (pc := 10) dX3_costs_10 h6 (by decide) (by decide) rfl (by decide) <|
pw_iload_n (pc := 65) dX3_costs_65 1 rfl <|
pw_iconst (v := 2) (pc := 66) dX3_costs_66 (by decide) <|
pw_isub (pc := 67) dX3_costs_67 <|
pw_iret (a := (x1 - (2 : Int32))) (v := (x1 - (2 : Int32))) hH rfl (pc := 68) dX3_costs_68) (fun h6 => pw_if (fun h7 => pw_tIn (tgt := 69) (pc := 10) dX3_costs_10 h7 (by decide) (by decide) rfl (by decide) <|
pw_iload_n (pc := 69) dX3_costs_69 2 rfl <|
pw_iconst (v := 5) (pc := 70) dX3_costs_70 (by decide) <|
pw_iadd (pc := 71) dX3_costs_71 <|
pw_iret (a := ((2 : Int32) + (5 : Int32))) (v := ((2 : Int32) + (5 : Int32))) hH rfl (pc := 72) dX3_costs_72) (fun h7 => pw_if (fun h8 => pw_tIn (tgt := 73) (pc := 10) dX3_costs_10 h8 (by decide) (by decide) rfl (by decide) <|
pw_iload (pc := 73) dX3_costs_73 0 rfl <|
pw_iload_n (pc := 75) dX3_costs_75 4 rfl <|
pw_iadd (pc := 76) dX3_costs_76 <|
pw_iret (a := ((1 : Int32) + a2)) (v := ((1 : Int32) + a2)) hH rfl (pc := 77) dX3_costs_77) (fun h8 => pw_tOut (tgt := 78) (pc := 10) dX3_costs_10 (by have q0 := lv_neT h2 (a := 1) rfl; have q1 := lv_neT h3 (a := 2) rfl; have q2 := lv_neT h4 (a := 3) rfl; have q3 := lv_neT h5 (a := 4) rfl; have q4 := lv_neT h6 (a := 5) rfl; have q5 := lv_neT h7 (a := 6) rfl; have q6 := lv_neT h8 (a := 7) rfl; omega) (by decide) <|
pw_iload_n (pc := 78) dX3_costs_78 2 rfl <|
pw_iret (a := (2 : Int32)) (v := (2 : Int32)) hH rfl (pc := 79) dX3_costs_79))))))))
set_option maxHeartbeats 4000000 in
theorem tX5_keepKind (l : Launch) (G : pw_G) {o : Nat} (ho : pw_isShelf o) (a1 : Int32) (a2 : Int32) (m0 : pw_Mem) : PMet l G yX5_keepKind cX5_keepKind 3 (none) 0 [.ref (pw_ad G o), .int a1, .int a2] m0 pw_Wv (fX5_keepKind o a1 a2 m0) :=
  pw_met (own := RX5) (l0 := [(0, .ref (pw_ad G o)), (1, .int a1), (2, .int a2)]) rfl (by decide) rfl (Nat.le_of_ble_eq_true rfl) fun K hK hH => by
  delta fX5_keepKind
  exact (pw_aload_n (pc := 0) dX5_keepKind_0 0 rfl <|
pw_iconst (v := 1) (pc := 1) dX5_keepKind_1 (by decide) <|
pw_putI (o := o) (k := 1) (pw_shShelf ho) cfX5 rfl (by decide) flX5_15 rfl (ft := .int) rfl rfl rfl (pc := 2) dX5_keepKind_2 <|
pw_ltM fun m1 => pw_aload_n (pc := 5) dX5_keepKind_5 0 rfl <|
pw_iload_n (pc := 6) dX5_keepKind_6 1 rfl <|
pw_putI (o := o) (k := 2) (pw_shShelf ho) cfX5 rfl (by decide) flX5_19 rfl (ft := .int) rfl rfl rfl (pc := 7) dX5_keepKind_7 <|
pw_ltM fun m2 => pw_aload_n (pc := 10) dX5_keepKind_10 0 rfl <|
pw_iload_n (pc := 11) dX5_keepKind_11 2 rfl <|
pw_putI (o := o) (k := 3) (pw_shShelf ho) cfX5 rfl (by decide) flX5_22 rfl (ft := .int) rfl rfl rfl (pc := 12) dX5_keepKind_12 <|
pw_ltM fun m3 => pw_vret hH rfl (pc := 15) dX5_keepKind_15)
set_option maxHeartbeats 4000000 in
theorem tX5_keepRow (l : Launch) (G : pw_G) {o : Nat} (ho : pw_isShelf o) (a1 : Int32) (a2 : Int32) (m0 : pw_Mem) : PMet l G yX5_keepRow cX5_keepRow 4 (none) 0 [.ref (pw_ad G o), .int a1, .int a2] m0 pw_Wv (fX5_keepRow o a1 a2 m0) :=
  pw_met (own := RX5) (l0 := [(0, .ref (pw_ad G o)), (1, .int a1), (2, .int a2)]) rfl (by decide) rfl (Nat.le_of_ble_eq_true rfl) fun K hK hH => by
  delta fX5_keepRow
  exact (pw_aload_n (pc := 0) dX5_keepRow_0 0 rfl <|
pw_iconst (v := 2) (pc := 1) dX5_keepRow_1 (by decide) <|
pw_putI (o := o) (k := 1) (pw_shShelf ho) cfX5 rfl (by decide) flX5_15 rfl (ft := .int) rfl rfl rfl (pc := 2) dX5_keepRow_2 <|
pw_ltM fun m1 => pw_aload_n (pc := 5) dX5_keepRow_5 0 rfl <|
pw_iload_n (pc := 6) dX5_keepRow_6 1 rfl <|
pw_putI (o := o) (k := 4) (pw_shShelf ho) cfX5 rfl (by decide) flX5_25 rfl (ft := .int) rfl rfl rfl (pc := 7) dX5_keepRow_7 <|
pw_ltM fun m2 => pw_aload_n (pc := 10) dX5_keepRow_10 0 rfl <|
pw_iload_n (pc := 11) dX5_keepRow_11 2 rfl <|
pw_putI (o := o) (k := 5) (pw_shShelf ho) cfX5 rfl (by decide) flX5_28 rfl (ft := .int) rfl rfl rfl (pc := 12) dX5_keepRow_12 <|
pw_ltM fun m3 => pw_iconst (v := 0) (pc := 15) dX5_keepRow_15 (by decide) <|
pw_istore_n [(3, .int (0 : Int32)), (0, .ref (pw_ad G o)), (1, .int a1), (2, .int a2)] (pc := 16) dX5_keepRow_16 (by decide) rfl <|
pw_sub [0, 1] rfl <| pw_lp (fun (kk12 : Int32 → pw_Mem → Option pw_Mem) => ∀ (v4 : Int32) (m5 : pw_Mem), PW K G RX5 cX5_keepRow 4 (none) 0 (pw_MQ K G pw_Wv) (kk12 v4 m5) 17 [(3, .int v4), (0, .ref (pw_ad G o))] [] m5) (fun _ _ => pw_none) (fun nx6 hn7 v4 m5 => pw_iload_n (pc := 17) dX5_keepRow_17 0 rfl <|
pw_bipush (v := 100) (pc := 18) dX5_keepRow_18 (by decide) <|
pw_icmp_ge  (tgt := 36) (pc := 20) dX5_keepRow_20 (by decide) (fun h10 => pw_vret hH rfl (pc := 36) dX5_keepRow_36) (fun h11 => pw_aload_n (pc := 23) dX5_keepRow_23 1 rfl <|
pw_getR (o := o) (k := 0) (t := (o + 1)) (pw_shShelf ho) cfX5 rfl (by decide) flX5_9 (pc := 24) dX5_keepRow_24 <|
pw_iload_n (pc := 27) dX5_keepRow_27 0 rfl <|
pw_iconst (v := 0) (pc := 28) dX5_keepRow_28 (by decide) <|
pw_iast (pw_shShelfE ho) (pc := 29) dX5_keepRow_29 <| pw_ltM fun m8 =>
pw_ltA fun x9 hxx9 => pw_iinc (v := x9) [(3, .int x9), (0, .ref (pw_ad G o))] (pc := 30) dX5_keepRow_30 0 rfl (by rw [hxx9]; rfl) (by decide) rfl <|
pw_goto (tgt := 17) (pc := 33) dX5_keepRow_33 (by decide) <|
hn7 x9 m8)) FU (0 : Int32) m3)
set_option maxHeartbeats 4000000 in
theorem tX5_hasPart (l : Launch) (G : pw_G) {o : Nat} (ho : pw_isShelf o) (a1 : Int32) (a2 : Int32) (m0 : pw_Mem) : PMet l G yX5_hasPart cX5_hasPart 3 (some .boolean) 0 [.ref (pw_ad G o), .int a1, .int a2] m0 (pw_Rz m0) (fX5_hasPart o a1 a2 m0) :=
  pw_met (own := RX5) (l0 := [(0, .ref (pw_ad G o)), (1, .int a1), (2, .int a2)]) rfl (by decide) rfl (Nat.le_of_ble_eq_true rfl) fun K hK hH => by
  delta fX5_hasPart
  exact (pw_iload_n (pc := 0) dX5_hasPart_0 1 rfl <|
pw_if_lt (a := a1) (b := 0) (tgt := 26) (pc := 1) dX5_hasPart_1 (by decide) (fun h5 => pw_iconst (v := 0) (pc := 26) dX5_hasPart_26 (by decide) <|
pw_zret (b := false) hH rfl (pc := 27) dX5_hasPart_27) (fun h6 => pw_iload_n (pc := 4) dX5_hasPart_4 1 rfl <|
pw_aload_n (pc := 5) dX5_hasPart_5 0 rfl <|
pw_getI (o := o) (k := 5) (pw_shShelf ho) cfX5 rfl (by decide) flX5_28 (pc := 6) dX5_hasPart_6 <|
pw_icmp_gt  (tgt := 26) (pc := 9) dX5_hasPart_9 (by decide) (fun h3 => pw_iconst (v := 0) (pc := 26) dX5_hasPart_26 (by decide) <|
pw_zret (b := false) hH rfl (pc := 27) dX5_hasPart_27) (fun h4 => pw_iload_n (pc := 12) dX5_hasPart_12 2 rfl <|
pw_aload_n (pc := 13) dX5_hasPart_13 0 rfl <|
pw_getI (o := o) (k := 5) (pw_shShelf ho) cfX5 rfl (by decide) flX5_28 (pc := 14) dX5_hasPart_14 <|
pw_iload_n (pc := 17) dX5_hasPart_17 1 rfl <|
pw_isub (pc := 18) dX5_hasPart_18 <|
pw_icmp_gt  (tgt := 26) (pc := 19) dX5_hasPart_19 (by decide) (fun h1 => pw_iconst (v := 0) (pc := 26) dX5_hasPart_26 (by decide) <|
pw_zret (b := false) hH rfl (pc := 27) dX5_hasPart_27) (fun h2 => pw_iconst (v := 1) (pc := 22) dX5_hasPart_22 (by decide) <|
pw_goto (tgt := 27) (pc := 23) dX5_hasPart_23 (by decide) <|
pw_zret (b := true) hH rfl (pc := 27) dX5_hasPart_27))))
set_option maxHeartbeats 4000000 in
theorem tX5_take (l : Launch) (G : pw_G) {o : Nat} (ho : pw_isShelf o) (a1 : Int32) (a2 : Int32) (m0 : pw_Mem) : PMet l G yX5_take cX5_take 3 (none) 1 [.ref (pw_ad G o), .int a1, .int a2] m0 pw_Wv (fX5_take o a1 a2 m0) :=
  pw_met (own := RX5) (l0 := [(0, .ref (pw_ad G o)), (1, .int a1), (2, .int a2)]) rfl (by decide) rfl (Nat.le_of_ble_eq_true rfl) fun K hK hH => by
  delta fX5_take
  exact (pw_aload_n (pc := 0) dX5_take_0 0 rfl <|
pw_iload_n (pc := 1) dX5_take_1 1 rfl <|
pw_callV_rz (n := 1) (rest := []) (tX5_hasPlace K.2.1 G ho a1 m0) (pw_shShelf ho) cfX5 rfl miX5_hasPlace mlX5_31 (pc := 2) dX5_take_2 rfl rfl (by decide) (Nat.le_of_ble_eq_true rfl) fun y1 =>
pw_ifz_eq (tgt := 40) (pc := 5) dX5_take_5 (by decide) (fun h9 => pw_aload_n (pc := 8) dX5_take_8 0 rfl <|
pw_getR (o := o) (k := 0) (t := (o + 1)) (pw_shShelf ho) cfX5 rfl (by decide) flX5_9 (pc := 9) dX5_take_9 <|
pw_iload_n (pc := 12) dX5_take_12 1 rfl <|
pw_aload_n (pc := 13) dX5_take_13 0 rfl <|
pw_getI (o := o) (k := 4) (pw_shShelf ho) cfX5 rfl (by decide) flX5_25 (pc := 14) dX5_take_14 <|
pw_if_ne (a := (m0 o 4)) (b := 0) (tgt := 25) (pc := 17) dX5_take_17 (by decide) (fun h7 => pw_aload_n (pc := 25) dX5_take_25 0 rfl <|
pw_getI (o := o) (k := 4) (pw_shShelf ho) cfX5 rfl (by decide) flX5_25 (pc := 26) dX5_take_26 <|
pw_iconst (v := 1) (pc := 29) dX5_take_29 (by decide) <|
pw_icmp_ne  (tgt := 38) (pc := 30) dX5_take_30 (by decide) (fun h4 => pw_iload_n (pc := 38) dX5_take_38 2 rfl <|
pw_iast (pw_shShelfE ho) (pc := 39) dX5_take_39 <| pw_ltM fun m2 =>
pw_vret hH rfl (pc := 40) dX5_take_40) (fun h5 => pw_iload_n (pc := 33) dX5_take_33 2 rfl <|
pw_i2s (pc := 34) dX5_take_34 <|
pw_goto (tgt := 39) (pc := 35) dX5_take_35 (by decide) <|
pw_iast (pw_shShelfE ho) (pc := 39) dX5_take_39 <| pw_ltM fun m3 =>
pw_vret hH rfl (pc := 40) dX5_take_40)) (fun h8 => pw_iload_n (pc := 20) dX5_take_20 2 rfl <|
pw_i2b (pc := 21) dX5_take_21 <|
pw_goto (tgt := 39) (pc := 22) dX5_take_22 (by decide) <|
pw_iast (pw_shShelfE ho) (pc := 39) dX5_take_39 <| pw_ltM fun m6 =>
pw_vret hH rfl (pc := 40) dX5_take_40)) (fun h10 => pw_vret hH rfl (pc := 40) dX5_take_40))
set_option maxHeartbeats 4000000 in
theorem tX7_areTwo (l : Launch) (G : pw_G) {o : Nat} (ho : pw_isTown o) (a1 : Int32) (a2 : Int32) (m0 : pw_Mem) : PMet l G yX7_areTwo cX7_areTwo 3 (some .boolean) 1 [.ref (pw_ad G o), .int a1, .int a2] m0 (pw_Rz m0) (fX7_areTwo o a1 a2 m0) :=
  pw_met (own := RX7) (l0 := [(0, .ref (pw_ad G o)), (1, .int a1), (2, .int a2)]) rfl (by decide) rfl (Nat.le_of_ble_eq_true rfl) fun K hK hH => by
  delta fX7_areTwo
  exact (pw_aload_n (pc := 0) dX7_areTwo_0 0 rfl <|
pw_iload_n (pc := 1) dX7_areTwo_1 1 rfl <|
pw_callV_rz (n := 1) (rest := []) (tX7_isPerson K.2.1 G ho a1 m0) (pw_shTown ho) cfX7 rfl miX7_isPerson mlX7_61 (pc := 2) dX7_areTwo_2 rfl rfl (by decide) (Nat.le_of_ble_eq_true rfl) fun y1 =>
pw_ifz_eq (tgt := 25) (pc := 5) dX7_areTwo_5 (by decide) (fun h7 => pw_aload_n (pc := 8) dX7_areTwo_8 0 rfl <|
pw_iload_n (pc := 9) dX7_areTwo_9 2 rfl <|
pw_callV_rz (n := 1) (rest := []) (tX7_isPerson K.2.1 G ho a2 m0) (pw_shTown ho) cfX7 rfl miX7_isPerson mlX7_61 (pc := 10) dX7_areTwo_10 rfl rfl (by decide) (Nat.le_of_ble_eq_true rfl) fun y2 =>
pw_ifz_eq (tgt := 25) (pc := 13) dX7_areTwo_13 (by decide) (fun h5 => pw_iload_n (pc := 16) dX7_areTwo_16 1 rfl <|
pw_iload_n (pc := 17) dX7_areTwo_17 2 rfl <|
pw_icmp_eq  (tgt := 25) (pc := 18) dX7_areTwo_18 (by decide) (fun h3 => pw_iconst (v := 0) (pc := 25) dX7_areTwo_25 (by decide) <|
pw_zret (b := false) hH rfl (pc := 26) dX7_areTwo_26) (fun h4 => pw_iconst (v := 1) (pc := 21) dX7_areTwo_21 (by decide) <|
pw_goto (tgt := 26) (pc := 22) dX7_areTwo_22 (by decide) <|
pw_zret (b := true) hH rfl (pc := 26) dX7_areTwo_26)) (fun h6 => pw_iconst (v := 0) (pc := 25) dX7_areTwo_25 (by decide) <|
pw_zret (b := false) hH rfl (pc := 26) dX7_areTwo_26)) (fun h8 => pw_iconst (v := 0) (pc := 25) dX7_areTwo_25 (by decide) <|
pw_zret (b := false) hH rfl (pc := 26) dX7_areTwo_26))
set_option maxHeartbeats 4000000 in
theorem tX7_isBand (l : Launch) (G : pw_G) {o : Nat} (ho : pw_isTown o) (a1 : Int32) (m0 : pw_Mem) : PMet l G yX7_isBand cX7_isBand 2 (some .boolean) 0 [.ref (pw_ad G o), .int a1] m0 (pw_Rz m0) (fX7_isBand o a1 m0) :=
  pw_met (own := RX7) (l0 := [(0, .ref (pw_ad G o)), (1, .int a1)]) rfl (by decide) rfl (Nat.le_of_ble_eq_true rfl) fun K hK hH => by
  delta fX7_isBand
  exact (pw_iload_n (pc := 0) dX7_isBand_0 1 rfl <|
pw_if_lt (a := a1) (b := 0) (tgt := 16) (pc := 1) dX7_isBand_1 (by decide) (fun h3 => pw_iconst (v := 0) (pc := 16) dX7_isBand_16 (by decide) <|
pw_zret (b := false) hH rfl (pc := 17) dX7_isBand_17) (fun h4 => pw_iload_n (pc := 4) dX7_isBand_4 1 rfl <|
pw_aload_n (pc := 5) dX7_isBand_5 0 rfl <|
pw_getI (o := o) (k := 12) (pw_shTown ho) cfX7 rfl (by decide) flX7_49 (pc := 6) dX7_isBand_6 <|
pw_icmp_ge  (tgt := 16) (pc := 9) dX7_isBand_9 (by decide) (fun h1 => pw_iconst (v := 0) (pc := 16) dX7_isBand_16 (by decide) <|
pw_zret (b := false) hH rfl (pc := 17) dX7_isBand_17) (fun h2 => pw_iconst (v := 1) (pc := 12) dX7_isBand_12 (by decide) <|
pw_goto (tgt := 17) (pc := 13) dX7_isBand_13 (by decide) <|
pw_zret (b := true) hH rfl (pc := 17) dX7_isBand_17)))
set_option maxHeartbeats 4000000 in
theorem tX7_addPerson (l : Launch) (G : pw_G) {o : Nat} (ho : pw_isTown o) (a1 : Int32) (m0 : pw_Mem) : PMet l G yX7_addPerson cX7_addPerson 3 (some .int) 0 [.ref (pw_ad G o), .int a1] m0 pw_Wi (fX7_addPerson o a1 m0) :=
  pw_met (own := RX7) (l0 := [(0, .ref (pw_ad G o)), (1, .int a1)]) rfl (by decide) rfl (Nat.le_of_ble_eq_true rfl) fun K hK hH => by
  delta fX7_addPerson
  exact (pw_aload_n (pc := 0) dX7_addPerson_0 0 rfl <|
pw_getI (o := o) (k := 11) (pw_shTown ho) cfX7 rfl (by decide) flX7_45 (pc := 1) dX7_addPerson_1 <|
pw_ltI fun x1 => pw_istore_n [(2, .int x1), (0, .ref (pw_ad G o)), (1, .int a1)] (pc := 4) dX7_addPerson_4 (by decide) rfl <|
pw_aload_n (pc := 5) dX7_addPerson_5 1 rfl <|
pw_getR (o := o) (k := 0) (t := (o + 1)) (pw_shTown ho) cfX7 rfl (by decide) flX7_9 (pc := 6) dX7_addPerson_6 <|
pw_iload_n (pc := 9) dX7_addPerson_9 0 rfl <|
pw_iload_n (pc := 10) dX7_addPerson_10 2 rfl <|
pw_iast (pw_shTown0 ho) (pc := 11) dX7_addPerson_11 <| pw_ltM fun m2 =>
pw_aload_n (pc := 12) dX7_addPerson_12 1 rfl <|
pw_getR (o := o) (k := 1) (t := (o + 2)) (pw_shTown ho) cfX7 rfl (by decide) flX7_15 (pc := 13) dX7_addPerson_13 <|
pw_iload_n (pc := 16) dX7_addPerson_16 0 rfl <|
pw_iconst (v := 0) (pc := 17) dX7_addPerson_17 (by decide) <|
pw_iast (pw_shTown1 ho) (pc := 18) dX7_addPerson_18 <| pw_ltM fun m3 =>
pw_aload_n (pc := 19) dX7_addPerson_19 1 rfl <|
pw_dup (pc := 20) dX7_addPerson_20 rfl <|
pw_getI (o := o) (k := 11) (pw_shTown ho) cfX7 rfl (by decide) flX7_45 (pc := 21) dX7_addPerson_21 <|
pw_iconst (v := 1) (pc := 24) dX7_addPerson_24 (by decide) <|
pw_iadd (pc := 25) dX7_addPerson_25 <|
pw_putI (o := o) (k := 11) (pw_shTown ho) cfX7 rfl (by decide) flX7_45 rfl (ft := .int) rfl rfl rfl (pc := 26) dX7_addPerson_26 <|
pw_ltM fun m4 => pw_iload_n (pc := 29) dX7_addPerson_29 0 rfl <|
pw_iret (a := x1) (v := (x1, m4)) hH rfl (pc := 30) dX7_addPerson_30)
set_option maxHeartbeats 4000000 in
theorem tX7_addBand (l : Launch) (G : pw_G) {o : Nat} (ho : pw_isTown o) (a1 : Int32) (a2 : Int32) (a3 : Int32) (a4 : Int32) (m0 : pw_Mem) : PMet l G yX7_addBand cX7_addBand 6 (some .int) 3 [.ref (pw_ad G o), .int a1, .int a2, .int a3, .int a4] m0 pw_Wi (fX7_addBand o a1 a2 a3 a4 m0) :=
  pw_met (own := RX7) (l0 := [(0, .ref (pw_ad G o)), (1, .int a1), (2, .int a2), (3, .int a3), (4, .int a4)]) rfl (by decide) rfl (Nat.le_of_ble_eq_true rfl) fun K hK hH => by
  delta fX7_addBand
  exact (pw_aload_n (pc := 0) dX7_addBand_0 0 rfl <|
pw_getI (o := o) (k := 12) (pw_shTown ho) cfX7 rfl (by decide) flX7_49 (pc := 1) dX7_addBand_1 <|
pw_ltI fun x1 => pw_istore [(5, .int x1), (0, .ref (pw_ad G o)), (1, .int a1), (2, .int a2), (3, .int a3), (4, .int a4)] (pc := 4) dX7_addBand_4 (by decide) rfl <|
pw_aload_n (pc := 6) dX7_addBand_6 1 rfl <|
pw_getR (o := o) (k := 3) (t := (o + 4)) (pw_shTown ho) cfX7 rfl (by decide) flX7_21 (pc := 7) dX7_addBand_7 <|
pw_iload (pc := 10) dX7_addBand_10 0 rfl <|
pw_iload_n (pc := 12) dX7_addBand_12 2 rfl <|
pw_iast (pw_shTown3 ho) (pc := 13) dX7_addBand_13 <| pw_ltM fun m2 =>
pw_aload_n (pc := 14) dX7_addBand_14 1 rfl <|
pw_getR (o := o) (k := 4) (t := (o + 5)) (pw_shTown ho) cfX7 rfl (by decide) flX7_24 (pc := 15) dX7_addBand_15 <|
pw_iload (pc := 18) dX7_addBand_18 0 rfl <|
pw_iload_n (pc := 20) dX7_addBand_20 3 rfl <|
pw_iast (pw_shTown4 ho) (pc := 21) dX7_addBand_21 <| pw_ltM fun m3 =>
pw_aload_n (pc := 22) dX7_addBand_22 1 rfl <|
pw_getR (o := o) (k := 5) (t := (o + 6)) (pw_shTown ho) cfX7 rfl (by decide) flX7_27 (pc := 23) dX7_addBand_23 <|
pw_iload (pc := 26) dX7_addBand_26 0 rfl <|
pw_iload_n (pc := 28) dX7_addBand_28 4 rfl <|
pw_iast (pw_shTown5 ho) (pc := 29) dX7_addBand_29 <| pw_ltM fun m4 =>
pw_aload_n (pc := 30) dX7_addBand_30 1 rfl <|
pw_getR (o := o) (k := 6) (t := (o + 7)) (pw_shTown ho) cfX7 rfl (by decide) flX7_30 (pc := 31) dX7_addBand_31 <|
pw_iload (pc := 34) dX7_addBand_34 0 rfl <|
pw_iload (pc := 36) dX7_addBand_36 5 rfl <|
pw_iast (pw_shTown6 ho) (pc := 38) dX7_addBand_38 <| pw_ltM fun m5 =>
pw_aload_n (pc := 39) dX7_addBand_39 1 rfl <|
pw_getR (o := o) (k := 7) (t := (o + 8)) (pw_shTown ho) cfX7 rfl (by decide) flX7_33 (pc := 40) dX7_addBand_40 <|
pw_iload (pc := 43) dX7_addBand_43 0 rfl <|
pw_iconst (v := 0) (pc := 45) dX7_addBand_45 (by decide) <|
pw_iast (pw_shTown7 ho) (pc := 46) dX7_addBand_46 <| pw_ltM fun m6 =>
pw_aload_n (pc := 47) dX7_addBand_47 1 rfl <|
pw_getR (o := o) (k := 8) (t := (o + 9)) (pw_shTown ho) cfX7 rfl (by decide) flX7_36 (pc := 48) dX7_addBand_48 <|
pw_iload (pc := 51) dX7_addBand_51 0 rfl <|
pw_iload_n (pc := 53) dX7_addBand_53 2 rfl <|
pw_iload_n (pc := 54) dX7_addBand_54 3 rfl <|
pw_callS_ri (n := 2) (rest := [.int x1, .ref (pw_ad G (o + 9))]) (tX3_slack K.2.1 G a1 a2 m6) miX3_slack mlX7_93 (pc := 55) dX7_addBand_55 rfl rfl (by decide) (Nat.le_of_ble_eq_true rfl) fun y7 =>
pw_iast (pw_shTown8 ho) (pc := 58) dX7_addBand_58 <| pw_ltM fun m8 =>
pw_aload_n (pc := 59) dX7_addBand_59 1 rfl <|
pw_getR (o := o) (k := 9) (t := (o + 10)) (pw_shTown ho) cfX7 rfl (by decide) flX7_39 (pc := 60) dX7_addBand_60 <|
pw_iload (pc := 63) dX7_addBand_63 0 rfl <|
pw_iload_n (pc := 65) dX7_addBand_65 2 rfl <|
pw_callS_ri (n := 1) (rest := [.int x1, .ref (pw_ad G (o + 10))]) (tX3_gauge K.2.1 G a1 m8) miX3_gauge mlX7_98 (pc := 66) dX7_addBand_66 rfl rfl (by decide) (Nat.le_of_ble_eq_true rfl) fun y9 =>
pw_iast (pw_shTown9 ho) (pc := 69) dX7_addBand_69 <| pw_ltM fun m10 =>
pw_aload_n (pc := 70) dX7_addBand_70 1 rfl <|
pw_getR (o := o) (k := 10) (t := (o + 11)) (pw_shTown ho) cfX7 rfl (by decide) flX7_42 (pc := 71) dX7_addBand_71 <|
pw_iload (pc := 74) dX7_addBand_74 0 rfl <|
pw_iload_n (pc := 76) dX7_addBand_76 2 rfl <|
pw_iload_n (pc := 77) dX7_addBand_77 3 rfl <|
pw_callS_ri (n := 2) (rest := [.int x1, .ref (pw_ad G (o + 11))]) (tX3_holds K.2.1 G a1 a2 m10) miX3_holds mlX7_100 (pc := 78) dX7_addBand_78 rfl rfl (by decide) (Nat.le_of_ble_eq_true rfl) fun y11 =>
pw_iast (pw_shTown10 ho) (pc := 81) dX7_addBand_81 <| pw_ltM fun m12 =>
pw_aload_n (pc := 82) dX7_addBand_82 1 rfl <|
pw_dup (pc := 83) dX7_addBand_83 rfl <|
pw_getI (o := o) (k := 12) (pw_shTown ho) cfX7 rfl (by decide) flX7_49 (pc := 84) dX7_addBand_84 <|
pw_iconst (v := 1) (pc := 87) dX7_addBand_87 (by decide) <|
pw_iadd (pc := 88) dX7_addBand_88 <|
pw_putI (o := o) (k := 12) (pw_shTown ho) cfX7 rfl (by decide) flX7_49 rfl (ft := .int) rfl rfl rfl (pc := 89) dX7_addBand_89 <|
pw_ltM fun m13 => pw_aload_n (pc := 92) dX7_addBand_92 1 rfl <|
pw_callV_wi (n := 0) (rest := []) (tX7_tryAll K.2.1 G ho m13) (pw_shTown ho) cfX7 rfl miX7_tryAll mlX7_102 (pc := 93) dX7_addBand_93 rfl rfl (by decide) (Nat.le_of_ble_eq_true rfl) fun y14 m15 =>
pw_pop (pc := 96) dX7_addBand_96 rfl <|
pw_iload (pc := 97) dX7_addBand_97 0 rfl <|
pw_iret (a := x1) (v := (x1, m15)) hH rfl (pc := 99) dX7_addBand_99)
set_option maxHeartbeats 4000000 in
theorem tX7_chills (l : Launch) (G : pw_G) {o : Nat} (ho : pw_isTown o) (a1 : Int32) (m0 : pw_Mem) : PMet l G yX7_chills cX7_chills 2 (some .int) 3 [.ref (pw_ad G o), .int a1] m0 pw_Wi (fX7_chills o a1 m0) :=
  pw_met (own := RX7) (l0 := [(0, .ref (pw_ad G o)), (1, .int a1)]) rfl (by decide) rfl (Nat.le_of_ble_eq_true rfl) fun K hK hH => by
  delta fX7_chills
  exact (pw_aload_n (pc := 0) dX7_chills_0 0 rfl <|
pw_iload_n (pc := 1) dX7_chills_1 1 rfl <|
pw_putI (o := o) (k := 14) (pw_shTown ho) cfX7 rfl (by decide) flX7_55 rfl (ft := .int) rfl rfl rfl (pc := 2) dX7_chills_2 <|
pw_ltM fun m1 => pw_aload_n (pc := 5) dX7_chills_5 0 rfl <|
pw_callV_wi (n := 0) (rest := []) (tX7_tryAll K.2.1 G ho m1) (pw_shTown ho) cfX7 rfl miX7_tryAll mlX7_102 (pc := 6) dX7_chills_6 rfl rfl (by decide) (Nat.le_of_ble_eq_true rfl) fun y2 m3 =>
pw_iret (a := y2) (v := (y2, m3)) hH rfl (pc := 9) dX7_chills_9)
set_option maxHeartbeats 4000000 in
theorem tX7_stepAll (l : Launch) (G : pw_G) {o : Nat} (ho : pw_isTown o) (m0 : pw_Mem) : PMet l G yX7_stepAll cX7_stepAll 3 (some .int) 0 [.ref (pw_ad G o)] m0 pw_Wi (fX7_stepAll o m0) :=
  pw_met (own := RX7) (l0 := [(0, .ref (pw_ad G o))]) rfl (by decide) rfl (Nat.le_of_ble_eq_true rfl) fun K hK hH => by
  delta fX7_stepAll
  exact (pw_iconst (v := 0) (pc := 0) dX7_stepAll_0 (by decide) <|
pw_istore_n [(1, .int (0 : Int32)), (0, .ref (pw_ad G o))] (pc := 1) dX7_stepAll_1 (by decide) rfl <|
pw_iconst (v := 0) (pc := 2) dX7_stepAll_2 (by decide) <|
pw_istore_n [(2, .int (0 : Int32)), (1, .int (0 : Int32)), (0, .ref (pw_ad G o))] (pc := 3) dX7_stepAll_3 (by decide) rfl <|
pw_lp (fun (kk22 : Int32 → Int32 → pw_Mem → Option (Int32 × pw_Mem)) => ∀ (v1 : Int32) (v2 : Int32) (m3 : pw_Mem), PW K G RX7 cX7_stepAll 3 (some .int) 0 (pw_MQ K G pw_Wi) (kk22 v1 v2 m3) 4 [(2, .int v2), (1, .int v1), (0, .ref (pw_ad G o))] [] m3) (fun _ _ _ => pw_none) (fun nx4 hn5 v1 v2 m3 => pw_iload_n (pc := 4) dX7_stepAll_4 0 rfl <|
pw_aload_n (pc := 5) dX7_stepAll_5 2 rfl <|
pw_getI (o := o) (k := 11) (pw_shTown ho) cfX7 rfl (by decide) flX7_45 (pc := 6) dX7_stepAll_6 <|
pw_icmp_ge  (tgt := 53) (pc := 9) dX7_stepAll_9 (by decide) (fun h20 => pw_iload_n (pc := 53) dX7_stepAll_53 1 rfl <|
pw_iret (a := v1) (v := (v1, m3)) hH rfl (pc := 54) dX7_stepAll_54) (fun h21 => pw_aload_n (pc := 12) dX7_stepAll_12 2 rfl <|
pw_getR (o := o) (k := 2) (t := (o + 3)) (pw_shTown ho) cfX7 rfl (by decide) flX7_18 (pc := 13) dX7_stepAll_13 <|
pw_iload_n (pc := 16) dX7_stepAll_16 0 rfl <|
pw_iald (pw_shTown2 ho) (pc := 17) dX7_stepAll_17 <|
pw_jn (fun (k9 : Int32 → pw_Mem → Option (Int32 × pw_Mem)) => ∀ (v6 : Int32) (m7 : pw_Mem), PW K G RX7 cX7_stepAll 3 (some .int) 0 (pw_MQ K G pw_Wi) (k9 v6 m7) 47 [(2, .int v2), (1, .int v6), (0, .ref (pw_ad G o))] [] m7) (fun v6 m7 => pw_ltA fun x8 hxx8 => pw_iinc (v := x8) [(2, .int x8), (1, .int v6), (0, .ref (pw_ad G o))] (pc := 47) dX7_stepAll_47 0 rfl (by rw [hxx8]; rfl) (by decide) rfl <|
pw_goto (tgt := 4) (pc := 50) dX7_stepAll_50 (by decide) <|
hn5 v6 x8 m7) (fun k9 hk10 => pw_if_eq (a := (m3 (o + 3) (v2).toNatClampNeg)) (b := 0) (tgt := 47) (pc := 18) dX7_stepAll_18 (by decide) (fun h18 => hk10 v1 m3) (fun h19 => pw_aload_n (pc := 21) dX7_stepAll_21 2 rfl <|
pw_getR (o := o) (k := 0) (t := (o + 1)) (pw_shTown ho) cfX7 rfl (by decide) flX7_9 (pc := 22) dX7_stepAll_22 <|
pw_iload_n (pc := 25) dX7_stepAll_25 0 rfl <|
pw_dup2 (pc := 26) dX7_stepAll_26 rfl rfl <|
pw_iald (pw_shTown0 ho) (pc := 27) dX7_stepAll_27 <|
pw_aload_n (pc := 28) dX7_stepAll_28 2 rfl <|
pw_getR (o := o) (k := 2) (t := (o + 3)) (pw_shTown ho) cfX7 rfl (by decide) flX7_18 (pc := 29) dX7_stepAll_29 <|
pw_iload_n (pc := 32) dX7_stepAll_32 0 rfl <|
pw_iald (pw_shTown2 ho) (pc := 33) dX7_stepAll_33 <|
pw_jn (fun (k14 : Int32 → Option (Int32 × pw_Mem)) => ∀ (w11 : Int32), PW K G RX7 cX7_stepAll 3 (some .int) 0 (pw_MQ K G pw_Wi) (k14 w11) 42 [(2, .int v2), (1, .int v1), (0, .ref (pw_ad G o))] [.int w11, .int (m3 (o + 1) (v2).toNatClampNeg), .int v2, .ref (pw_ad G (o + 1))] m3) (fun w11 => pw_iadd (pc := 42) dX7_stepAll_42 <|
pw_iast (pw_shTown0 ho) (pc := 43) dX7_stepAll_43 <| pw_ltM fun m12 =>
pw_ltA fun x13 hxx13 => pw_iinc (v := x13) [(1, .int x13), (2, .int v2), (0, .ref (pw_ad G o))] (pc := 44) dX7_stepAll_44 1 rfl (by rw [hxx13]; rfl) (by decide) rfl <|
pw_sub [1, 0, 2] rfl <| hk10 x13 m12) (fun k14 hk15 => pw_if_le (a := (m3 (o + 3) (v2).toNatClampNeg)) (b := 0) (tgt := 41) (pc := 34) dX7_stepAll_34 (by decide) (fun h16 => pw_iconst (v := -1) (pc := 41) dX7_stepAll_41 (by decide) <|
hk15 (-1 : Int32)) (fun h17 => pw_iconst (v := 1) (pc := 37) dX7_stepAll_37 (by decide) <|
pw_goto (tgt := 42) (pc := 38) dX7_stepAll_38 (by decide) <|
hk15 (1 : Int32))))))) FU (0 : Int32) (0 : Int32) m0)
set_option maxHeartbeats 4000000 in
theorem tX7_passYear (l : Launch) (G : pw_G) {o : Nat} (ho : pw_isTown o) (m0 : pw_Mem) : PMet l G yX7_passYear cX7_passYear 2 (some .boolean) 3 [.ref (pw_ad G o)] m0 pw_Wz (fX7_passYear o m0) :=
  pw_met (own := RX7) (l0 := [(0, .ref (pw_ad G o))]) rfl (by decide) rfl (Nat.le_of_ble_eq_true rfl) fun K hK hH => by
  delta fX7_passYear
  exact (pw_aload_n (pc := 0) dX7_passYear_0 0 rfl <|
pw_dup (pc := 1) dX7_passYear_1 rfl <|
pw_getI (o := o) (k := 15) (pw_shTown ho) cfX7 rfl (by decide) flX7_58 (pc := 2) dX7_passYear_2 <|
pw_iconst (v := 1) (pc := 5) dX7_passYear_5 (by decide) <|
pw_iadd (pc := 6) dX7_passYear_6 <|
pw_putI (o := o) (k := 15) (pw_shTown ho) cfX7 rfl (by decide) flX7_58 rfl (ft := .int) rfl rfl rfl (pc := 7) dX7_passYear_7 <|
pw_ltM fun m1 => pw_iconst (v := 0) (pc := 10) dX7_passYear_10 (by decide) <|
pw_istore_n [(1, .int (0 : Int32)), (0, .ref (pw_ad G o))] (pc := 11) dX7_passYear_11 (by decide) rfl <|
pw_lp (fun (kk21 : Int32 → pw_Mem → Option (Bool × pw_Mem)) => ∀ (v2 : Int32) (m3 : pw_Mem), PW K G RX7 cX7_passYear 2 (some .boolean) 3 (pw_MQ K G pw_Wz) (kk21 v2 m3) 12 [(1, .int v2), (0, .ref (pw_ad G o))] [] m3) (fun _ _ => pw_none) (fun nx4 hn5 v2 m3 => pw_iload_n (pc := 12) dX7_passYear_12 0 rfl <|
pw_aload_n (pc := 13) dX7_passYear_13 1 rfl <|
pw_getI (o := o) (k := 12) (pw_shTown ho) cfX7 rfl (by decide) flX7_49 (pc := 14) dX7_passYear_14 <|
pw_icmp_ge  (tgt := 45) (pc := 17) dX7_passYear_17 (by decide) (fun h19 => pw_aload_n (pc := 45) dX7_passYear_45 1 rfl <|
pw_callV_wi (n := 0) (rest := []) (tX7_tryAll K.2.1 G ho m3) (pw_shTown ho) cfX7 rfl miX7_tryAll mlX7_102 (pc := 46) dX7_passYear_46 rfl rfl (by decide) (Nat.le_of_ble_eq_true rfl) fun y6 m7 =>
pw_istore_n [(1, .int y6), (0, .ref (pw_ad G o))] (pc := 49) dX7_passYear_49 (by decide) rfl <|
pw_aload_n (pc := 50) dX7_passYear_50 1 rfl <|
pw_callV_wv (n := 0) (rest := []) (tX7_weighLeans K.2.1 G ho m7) (pw_shTown ho) cfX7 rfl miX7_weighLeans mlX7_113 (pc := 51) dX7_passYear_51 rfl rfl (by decide) (Nat.le_of_ble_eq_true rfl) fun m8 =>
pw_iload_n (pc := 54) dX7_passYear_54 0 rfl <|
pw_aload_n (pc := 55) dX7_passYear_55 1 rfl <|
pw_callV_wi (n := 0) (rest := [.int y6]) (tX7_stepAll K.2.1 G ho m8) (pw_shTown ho) cfX7 rfl miX7_stepAll mlX7_116 (pc := 56) dX7_passYear_56 rfl rfl (by decide) (Nat.le_of_ble_eq_true rfl) fun y9 m10 =>
pw_iadd (pc := 59) dX7_passYear_59 <|
pw_ltI fun x11 => pw_istore_n [(1, .int x11), (0, .ref (pw_ad G o))] (pc := 60) dX7_passYear_60 (by decide) rfl <|
pw_iload_n (pc := 61) dX7_passYear_61 0 rfl <|
pw_aload_n (pc := 62) dX7_passYear_62 1 rfl <|
pw_callV_wi (n := 0) (rest := [.int x11]) (tX7_tryAll K.2.1 G ho m10) (pw_shTown ho) cfX7 rfl miX7_tryAll mlX7_102 (pc := 63) dX7_passYear_63 rfl rfl (by decide) (Nat.le_of_ble_eq_true rfl) fun y12 m13 =>
pw_iadd (pc := 66) dX7_passYear_66 <|
pw_ltI fun x14 => pw_istore_n [(1, .int x14), (0, .ref (pw_ad G o))] (pc := 67) dX7_passYear_67 (by decide) rfl <|
pw_iload_n (pc := 68) dX7_passYear_68 0 rfl <|
pw_if_le (a := x14) (b := 0) (tgt := 76) (pc := 69) dX7_passYear_69 (by decide) (fun h15 => pw_iconst (v := 0) (pc := 76) dX7_passYear_76 (by decide) <|
pw_zret (b := false) hH rfl (pc := 77) dX7_passYear_77) (fun h16 => pw_iconst (v := 1) (pc := 72) dX7_passYear_72 (by decide) <|
pw_goto (tgt := 77) (pc := 73) dX7_passYear_73 (by decide) <|
pw_zret (b := true) hH rfl (pc := 77) dX7_passYear_77)) (fun h20 => pw_aload_n (pc := 20) dX7_passYear_20 1 rfl <|
pw_getR (o := o) (k := 7) (t := (o + 8)) (pw_shTown ho) cfX7 rfl (by decide) flX7_33 (pc := 21) dX7_passYear_21 <|
pw_iload_n (pc := 24) dX7_passYear_24 0 rfl <|
pw_bipush (v := 99) (pc := 25) dX7_passYear_25 (by decide) <|
pw_aload_n (pc := 27) dX7_passYear_27 1 rfl <|
pw_getR (o := o) (k := 7) (t := (o + 8)) (pw_shTown ho) cfX7 rfl (by decide) flX7_33 (pc := 28) dX7_passYear_28 <|
pw_iload_n (pc := 31) dX7_passYear_31 0 rfl <|
pw_iald (pw_shTown7 ho) (pc := 32) dX7_passYear_32 <|
pw_iconst (v := 1) (pc := 33) dX7_passYear_33 (by decide) <|
pw_iadd (pc := 34) dX7_passYear_34 <|
pw_mmin mlX7_110 ms_min ms_math mc_min (pc := 35) dX7_passYear_35 (by decide) (Nat.le_of_ble_eq_true rfl) <|
pw_iast (pw_shTown7 ho) (pc := 38) dX7_passYear_38 <| pw_ltM fun m17 =>
pw_ltA fun x18 hxx18 => pw_iinc (v := x18) [(1, .int x18), (0, .ref (pw_ad G o))] (pc := 39) dX7_passYear_39 0 rfl (by rw [hxx18]; rfl) (by decide) rfl <|
pw_goto (tgt := 12) (pc := 42) dX7_passYear_42 (by decide) <|
hn5 x18 m17)) FU (0 : Int32) m1)
set_option maxHeartbeats 4000000 in
theorem tX7_passYears (l : Launch) (G : pw_G) {o : Nat} (ho : pw_isTown o) (a1 : Int32) (m0 : pw_Mem) : PMet l G yX7_passYears cX7_passYears 3 (none) 4 [.ref (pw_ad G o), .int a1] m0 pw_Wv (fX7_passYears o a1 m0) :=
  pw_met (own := RX7) (l0 := [(0, .ref (pw_ad G o)), (1, .int a1)]) rfl (by decide) rfl (Nat.le_of_ble_eq_true rfl) fun K hK hH => by
  delta fX7_passYears
  exact (pw_iconst (v := 0) (pc := 0) dX7_passYears_0 (by decide) <|
pw_istore_n [(2, .int (0 : Int32)), (0, .ref (pw_ad G o)), (1, .int a1)] (pc := 1) dX7_passYears_1 (by decide) rfl <|
pw_lp (fun (kk10 : Int32 → pw_Mem → Option pw_Mem) => ∀ (v1 : Int32) (m2 : pw_Mem), PW K G RX7 cX7_passYears 3 (none) 4 (pw_MQ K G pw_Wv) (kk10 v1 m2) 2 [(2, .int v1), (0, .ref (pw_ad G o)), (1, .int a1)] [] m2) (fun _ _ => pw_none) (fun nx3 hn4 v1 m2 => pw_iload_n (pc := 2) dX7_passYears_2 0 rfl <|
pw_iload_n (pc := 3) dX7_passYears_3 2 rfl <|
pw_icmp_ge  (tgt := 18) (pc := 4) dX7_passYears_4 (by decide) (fun h8 => pw_vret hH rfl (pc := 18) dX7_passYears_18) (fun h9 => pw_aload_n (pc := 7) dX7_passYears_7 1 rfl <|
pw_callV_wz (n := 0) (rest := []) (tX7_passYear K.2.1 G ho m2) (pw_shTown ho) cfX7 rfl miX7_passYear mlX7_106 (pc := 8) dX7_passYears_8 rfl rfl (by decide) (Nat.le_of_ble_eq_true rfl) fun y5 m6 =>
pw_pop (pc := 11) dX7_passYears_11 rfl <|
pw_ltA fun x7 hxx7 => pw_iinc (v := x7) [(2, .int x7), (0, .ref (pw_ad G o)), (1, .int a1)] (pc := 12) dX7_passYears_12 0 rfl (by rw [hxx7]; rfl) (by decide) rfl <|
pw_goto (tgt := 2) (pc := 15) dX7_passYears_15 (by decide) <|
hn4 x7 m6)) FU (0 : Int32) m0)
set_option maxHeartbeats 4000000 in
theorem tX7_pulled (l : Launch) (G : pw_G) {o : Nat} (ho : pw_isTown o) (a1 : Int32) (a2 : Int32) (m0 : pw_Mem) : PMet l G yX7_pulled cX7_pulled 6 (some .int) 2 [.ref (pw_ad G o), .int a1, .int a2] m0 (pw_Ri m0) (fX7_pulled o a1 a2 m0) :=
  pw_met (own := RX7) (l0 := [(0, .ref (pw_ad G o)), (1, .int a1), (2, .int a2)]) rfl (by decide) rfl (Nat.le_of_ble_eq_true rfl) fun K hK hH => by
  delta fX7_pulled
  exact (pw_iconst (v := 0) (pc := 0) dX7_pulled_0 (by decide) <|
pw_istore_n [(3, .int (0 : Int32)), (0, .ref (pw_ad G o)), (1, .int a1), (2, .int a2)] (pc := 1) dX7_pulled_1 (by decide) rfl <|
pw_iconst (v := 0) (pc := 2) dX7_pulled_2 (by decide) <|
pw_istore [(4, .int (0 : Int32)), (3, .int (0 : Int32)), (0, .ref (pw_ad G o)), (1, .int a1), (2, .int a2)] (pc := 3) dX7_pulled_3 (by decide) rfl <|
pw_lp (fun (kk24 : Int32 → Int32 → Option Int32) => ∀ (v1 : Int32) (v2 : Int32), PW K G RX7 cX7_pulled 6 (some .int) 2 (pw_MQ K G (pw_Ri m0)) (kk24 v1 v2) 5 [(4, .int v2), (3, .int v1), (0, .ref (pw_ad G o)), (1, .int a1), (2, .int a2)] [] m0) (fun _ _ => pw_none) (fun nx3 hn4 v1 v2 => pw_iload (pc := 5) dX7_pulled_5 0 rfl <|
pw_aload_n (pc := 7) dX7_pulled_7 2 rfl <|
pw_getI (o := o) (k := 12) (pw_shTown ho) cfX7 rfl (by decide) flX7_49 (pc := 8) dX7_pulled_8 <|
pw_icmp_ge  (tgt := 106) (pc := 11) dX7_pulled_11 (by decide) (fun h22 => pw_iload_n (pc := 106) dX7_pulled_106 1 rfl <|
pw_iret (a := v1) (v := v1) hH rfl (pc := 107) dX7_pulled_107) (fun h23 => pw_iconst (v := 0) (pc := 14) dX7_pulled_14 (by decide) <|
pw_istore [(5, .int (0 : Int32)), (4, .int v2), (3, .int v1), (0, .ref (pw_ad G o)), (1, .int a1), (2, .int a2)] (pc := 15) dX7_pulled_15 (by decide) rfl <|
pw_aload_n (pc := 17) dX7_pulled_17 3 rfl <|
pw_getR (o := o) (k := 5) (t := (o + 6)) (pw_shTown ho) cfX7 rfl (by decide) flX7_27 (pc := 18) dX7_pulled_18 <|
pw_iload (pc := 21) dX7_pulled_21 1 rfl <|
pw_iald (pw_shTown5 ho) (pc := 23) dX7_pulled_23 <|
pw_iload_n (pc := 24) dX7_pulled_24 4 rfl <|
pw_jn (fun (k14 : Int32 → Option Int32) => ∀ (v5 : Int32), PW K G RX7 cX7_pulled 6 (some .int) 2 (pw_MQ K G (pw_Ri m0)) (k14 v5) 84 [(5, .int v5), (4, .int v2), (3, .int v1), (0, .ref (pw_ad G o)), (1, .int a1), (2, .int a2)] [] m0) (fun v5 => pw_iload (pc := 84) dX7_pulled_84 0 rfl <|
pw_iload_n (pc := 86) dX7_pulled_86 5 rfl <|
pw_imul (pc := 87) dX7_pulled_87 <|
pw_jn (fun (k8 : Int32 → Option Int32) => ∀ (v6 : Int32), PW K G RX7 cX7_pulled 6 (some .int) 2 (pw_MQ K G (pw_Ri m0)) (k8 v6) 100 [(4, .int v2), (3, .int v6), (0, .ref (pw_ad G o)), (1, .int a1), (2, .int a2)] [] m0) (fun v6 => pw_ltA fun x7 hxx7 => pw_iinc (v := x7) [(4, .int x7), (3, .int v6), (0, .ref (pw_ad G o)), (1, .int a1), (2, .int a2)] (pc := 100) dX7_pulled_100 0 rfl (by rw [hxx7]; rfl) (by decide) rfl <|
pw_goto (tgt := 5) (pc := 103) dX7_pulled_103 (by decide) <|
hn4 v6 x7) (fun k8 hk9 => pw_if_le (a := (v5 * a2)) (b := 0) (tgt := 100) (pc := 88) dX7_pulled_88 (by decide) (fun h12 => pw_sub [1, 2, 3, 4, 5] rfl <| hk9 v1) (fun h13 => pw_iload_n (pc := 91) dX7_pulled_91 2 rfl <|
pw_aload_n (pc := 92) dX7_pulled_92 3 rfl <|
pw_iload (pc := 93) dX7_pulled_93 1 rfl <|
pw_callV_ri (n := 1) (rest := [.int v1]) (tX7_pull K.2.1 G ho v2 m0) (pw_shTown ho) cfX7 rfl miX7_pull mlX7_119 (pc := 95) dX7_pulled_95 rfl rfl (by decide) (Nat.le_of_ble_eq_true rfl) fun y10 =>
pw_iadd (pc := 98) dX7_pulled_98 <|
pw_ltI fun x11 => pw_istore_n [(3, .int x11), (5, .int v5), (4, .int v2), (0, .ref (pw_ad G o)), (1, .int a1), (2, .int a2)] (pc := 99) dX7_pulled_99 (by decide) rfl <|
pw_sub [2, 0, 3, 4, 5] rfl <| hk9 x11))) (fun k14 hk15 => pw_icmp_ne  (tgt := 52) (pc := 25) dX7_pulled_25 (by decide) (fun h20 => pw_aload_n (pc := 52) dX7_pulled_52 3 rfl <|
pw_getR (o := o) (k := 6) (t := (o + 7)) (pw_shTown ho) cfX7 rfl (by decide) flX7_30 (pc := 53) dX7_pulled_53 <|
pw_iload (pc := 56) dX7_pulled_56 1 rfl <|
pw_iald (pw_shTown6 ho) (pc := 58) dX7_pulled_58 <|
pw_iload_n (pc := 59) dX7_pulled_59 4 rfl <|
pw_icmp_ne  (tgt := 84) (pc := 60) dX7_pulled_60 (by decide) (fun h17 => hk15 (0 : Int32)) (fun h18 => pw_aload_n (pc := 63) dX7_pulled_63 3 rfl <|
pw_getR (o := o) (k := 0) (t := (o + 1)) (pw_shTown ho) cfX7 rfl (by decide) flX7_9 (pc := 64) dX7_pulled_64 <|
pw_aload_n (pc := 67) dX7_pulled_67 3 rfl <|
pw_getR (o := o) (k := 5) (t := (o + 6)) (pw_shTown ho) cfX7 rfl (by decide) flX7_27 (pc := 68) dX7_pulled_68 <|
pw_iload (pc := 71) dX7_pulled_71 1 rfl <|
pw_iald (pw_shTown5 ho) (pc := 73) dX7_pulled_73 <|
pw_iald (pw_shTown0 ho) (pc := 74) dX7_pulled_74 <|
pw_aload_n (pc := 75) dX7_pulled_75 3 rfl <|
pw_getR (o := o) (k := 0) (t := (o + 1)) (pw_shTown ho) cfX7 rfl (by decide) flX7_9 (pc := 76) dX7_pulled_76 <|
pw_iload_n (pc := 79) dX7_pulled_79 4 rfl <|
pw_iald (pw_shTown0 ho) (pc := 80) dX7_pulled_80 <|
pw_isub (pc := 81) dX7_pulled_81 <|
pw_ltI fun x16 => pw_istore [(5, .int x16), (4, .int v2), (3, .int v1), (0, .ref (pw_ad G o)), (1, .int a1), (2, .int a2)] (pc := 82) dX7_pulled_82 (by decide) rfl <|
hk15 x16)) (fun h21 => pw_aload_n (pc := 28) dX7_pulled_28 3 rfl <|
pw_getR (o := o) (k := 0) (t := (o + 1)) (pw_shTown ho) cfX7 rfl (by decide) flX7_9 (pc := 29) dX7_pulled_29 <|
pw_aload_n (pc := 32) dX7_pulled_32 3 rfl <|
pw_getR (o := o) (k := 6) (t := (o + 7)) (pw_shTown ho) cfX7 rfl (by decide) flX7_30 (pc := 33) dX7_pulled_33 <|
pw_iload (pc := 36) dX7_pulled_36 1 rfl <|
pw_iald (pw_shTown6 ho) (pc := 38) dX7_pulled_38 <|
pw_iald (pw_shTown0 ho) (pc := 39) dX7_pulled_39 <|
pw_aload_n (pc := 40) dX7_pulled_40 3 rfl <|
pw_getR (o := o) (k := 0) (t := (o + 1)) (pw_shTown ho) cfX7 rfl (by decide) flX7_9 (pc := 41) dX7_pulled_41 <|
pw_iload_n (pc := 44) dX7_pulled_44 4 rfl <|
pw_iald (pw_shTown0 ho) (pc := 45) dX7_pulled_45 <|
pw_isub (pc := 46) dX7_pulled_46 <|
pw_ltI fun x19 => pw_istore [(5, .int x19), (4, .int v2), (3, .int v1), (0, .ref (pw_ad G o)), (1, .int a1), (2, .int a2)] (pc := 47) dX7_pulled_47 (by decide) rfl <|
pw_goto (tgt := 84) (pc := 49) dX7_pulled_49 (by decide) <|
hk15 x19)))) FU (0 : Int32) (0 : Int32))
set_option maxHeartbeats 4000000 in
theorem tX7_allPull (l : Launch) (G : pw_G) {o : Nat} (ho : pw_isTown o) (m0 : pw_Mem) : PMet l G yX7_allPull cX7_allPull 3 (some .int) 2 [.ref (pw_ad G o)] m0 (pw_Ri m0) (fX7_allPull o m0) :=
  pw_met (own := RX7) (l0 := [(0, .ref (pw_ad G o))]) rfl (by decide) rfl (Nat.le_of_ble_eq_true rfl) fun K hK hH => by
  delta fX7_allPull
  exact (pw_iconst (v := 0) (pc := 0) dX7_allPull_0 (by decide) <|
pw_istore_n [(1, .int (0 : Int32)), (0, .ref (pw_ad G o))] (pc := 1) dX7_allPull_1 (by decide) rfl <|
pw_iconst (v := 0) (pc := 2) dX7_allPull_2 (by decide) <|
pw_istore_n [(2, .int (0 : Int32)), (1, .int (0 : Int32)), (0, .ref (pw_ad G o))] (pc := 3) dX7_allPull_3 (by decide) rfl <|
pw_lp (fun (kk10 : Int32 → Int32 → Option Int32) => ∀ (v1 : Int32) (v2 : Int32), PW K G RX7 cX7_allPull 3 (some .int) 2 (pw_MQ K G (pw_Ri m0)) (kk10 v1 v2) 4 [(2, .int v2), (1, .int v1), (0, .ref (pw_ad G o))] [] m0) (fun _ _ => pw_none) (fun nx3 hn4 v1 v2 => pw_iload_n (pc := 4) dX7_allPull_4 0 rfl <|
pw_aload_n (pc := 5) dX7_allPull_5 2 rfl <|
pw_getI (o := o) (k := 12) (pw_shTown ho) cfX7 rfl (by decide) flX7_49 (pc := 6) dX7_allPull_6 <|
pw_icmp_ge  (tgt := 26) (pc := 9) dX7_allPull_9 (by decide) (fun h8 => pw_iload_n (pc := 26) dX7_allPull_26 1 rfl <|
pw_iret (a := v1) (v := v1) hH rfl (pc := 27) dX7_allPull_27) (fun h9 => pw_iload_n (pc := 12) dX7_allPull_12 1 rfl <|
pw_aload_n (pc := 13) dX7_allPull_13 2 rfl <|
pw_iload_n (pc := 14) dX7_allPull_14 0 rfl <|
pw_callV_ri (n := 1) (rest := [.int v1]) (tX7_pull K.2.1 G ho v2 m0) (pw_shTown ho) cfX7 rfl miX7_pull mlX7_119 (pc := 15) dX7_allPull_15 rfl rfl (by decide) (Nat.le_of_ble_eq_true rfl) fun y5 =>
pw_iadd (pc := 18) dX7_allPull_18 <|
pw_ltI fun x6 => pw_istore_n [(1, .int x6), (2, .int v2), (0, .ref (pw_ad G o))] (pc := 19) dX7_allPull_19 (by decide) rfl <|
pw_ltA fun x7 hxx7 => pw_iinc (v := x7) [(2, .int x7), (1, .int x6), (0, .ref (pw_ad G o))] (pc := 20) dX7_allPull_20 1 rfl (by rw [hxx7]; rfl) (by decide) rfl <|
pw_goto (tgt := 4) (pc := 23) dX7_allPull_23 (by decide) <|
hn4 x6 x7)) FU (0 : Int32) (0 : Int32))
set_option maxHeartbeats 4000000 in
theorem tX7_stretchOfWhole (l : Launch) (G : pw_G) {o : Nat} (ho : pw_isTown o) (m0 : pw_Mem) : PMet l G yX7_stretchOfWhole cX7_stretchOfWhole 3 (some .int) 1 [.ref (pw_ad G o)] m0 (pw_Ri m0) (fX7_stretchOfWhole o m0) :=
  pw_met (own := RX7) (l0 := [(0, .ref (pw_ad G o))]) rfl (by decide) rfl (Nat.le_of_ble_eq_true rfl) fun K hK hH => by
  delta fX7_stretchOfWhole
  exact (pw_iconst (v := 0) (pc := 0) dX7_stretchOfWhole_0 (by decide) <|
pw_istore_n [(1, .int (0 : Int32)), (0, .ref (pw_ad G o))] (pc := 1) dX7_stretchOfWhole_1 (by decide) rfl <|
pw_iconst (v := 0) (pc := 2) dX7_stretchOfWhole_2 (by decide) <|
pw_istore_n [(2, .int (0 : Int32)), (1, .int (0 : Int32)), (0, .ref (pw_ad G o))] (pc := 3) dX7_stretchOfWhole_3 (by decide) rfl <|
pw_lp (fun (kk16 : Int32 → Int32 → Option Int32) => ∀ (v1 : Int32) (v2 : Int32), PW K G RX7 cX7_stretchOfWhole 3 (some .int) 1 (pw_MQ K G (pw_Ri m0)) (kk16 v1 v2) 4 [(2, .int v2), (1, .int v1), (0, .ref (pw_ad G o))] [] m0) (fun _ _ => pw_none) (fun nx3 hn4 v1 v2 => pw_iload_n (pc := 4) dX7_stretchOfWhole_4 0 rfl <|
pw_aload_n (pc := 5) dX7_stretchOfWhole_5 2 rfl <|
pw_getI (o := o) (k := 12) (pw_shTown ho) cfX7 rfl (by decide) flX7_49 (pc := 6) dX7_stretchOfWhole_6 <|
pw_icmp_ge  (tgt := 38) (pc := 9) dX7_stretchOfWhole_9 (by decide) (fun h14 => pw_iload_n (pc := 38) dX7_stretchOfWhole_38 1 rfl <|
pw_iret (a := v1) (v := v1) hH rfl (pc := 39) dX7_stretchOfWhole_39) (fun h15 => pw_iload_n (pc := 12) dX7_stretchOfWhole_12 1 rfl <|
pw_aload_n (pc := 13) dX7_stretchOfWhole_13 2 rfl <|
pw_iload_n (pc := 14) dX7_stretchOfWhole_14 0 rfl <|
pw_callV_rz (n := 1) (rest := [.int v1]) (tX7_isSnapped K.2.1 G ho v2 m0) (pw_shTown ho) cfX7 rfl miX7_isSnapped mlX7_76 (pc := 15) dX7_stretchOfWhole_15 rfl rfl (by decide) (Nat.le_of_ble_eq_true rfl) fun y5 =>
pw_jn (fun (k9 : Int32 → Option Int32) => ∀ (w6 : Int32), PW K G RX7 cX7_stretchOfWhole 3 (some .int) 1 (pw_MQ K G (pw_Ri m0)) (k9 w6) 30 [(2, .int v2), (0, .ref (pw_ad G o))] [.int w6, .int v1] m0) (fun w6 => pw_iadd (pc := 30) dX7_stretchOfWhole_30 <|
pw_ltI fun x7 => pw_istore_n [(1, .int x7), (2, .int v2), (0, .ref (pw_ad G o))] (pc := 31) dX7_stretchOfWhole_31 (by decide) rfl <|
pw_ltA fun x8 hxx8 => pw_iinc (v := x8) [(2, .int x8), (1, .int x7), (0, .ref (pw_ad G o))] (pc := 32) dX7_stretchOfWhole_32 1 rfl (by rw [hxx8]; rfl) (by decide) rfl <|
pw_goto (tgt := 4) (pc := 35) dX7_stretchOfWhole_35 (by decide) <|
hn4 x7 x8) (fun k9 hk10 => pw_ifz_eq (tgt := 25) (pc := 18) dX7_stretchOfWhole_18 (by decide) (fun h12 => pw_iconst (v := 0) (pc := 21) dX7_stretchOfWhole_21 (by decide) <|
pw_goto (tgt := 30) (pc := 22) dX7_stretchOfWhole_22 (by decide) <|
pw_sub [0, 2] rfl <| hk10 (0 : Int32)) (fun h13 => pw_aload_n (pc := 25) dX7_stretchOfWhole_25 2 rfl <|
pw_iload_n (pc := 26) dX7_stretchOfWhole_26 0 rfl <|
pw_callV_ri (n := 1) (rest := [.int v1]) (tX7_stretch K.2.1 G ho v2 m0) (pw_shTown ho) cfX7 rfl miX7_stretch mlX7_79 (pc := 27) dX7_stretchOfWhole_27 rfl rfl (by decide) (Nat.le_of_ble_eq_true rfl) fun y11 =>
pw_sub [0, 2] rfl <| hk10 y11)))) FU (0 : Int32) (0 : Int32))
