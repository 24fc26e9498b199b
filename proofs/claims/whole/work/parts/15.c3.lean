set_option maxRecDepth 100000
set_option maxHeartbeats 4000000 in
theorem tX10_isShelf (l : Launch) (G : pw_G) (a1 : Int32) (m0 : pw_Mem) : PMet l G yX10_isShelf cX10_isShelf 1 (some .boolean) 0 [.int a1] m0 (pw_Rz m0) (fX10_isShelf a1 m0) :=
  pw_met (own := RX10) (l0 := [(0, .int a1)]) rfl (by decide) rfl (Nat.le_of_ble_eq_true rfl) fun K hK hH => by
  delta fX10_isShelf
  exact (pw_iload_n (pc := 0) dX10_isShelf_0 0 rfl <|
pw_if_lt (a := a1) (b := 0) (tgt := 14) (pc := 1) dX10_isShelf_1 (by decide) (fun h3 => pw_iconst (v := 0) (pc := 14) dX10_isShelf_14 (by decide) <|
pw_zret (b := false) hH rfl (pc := 15) dX10_isShelf_15) (fun h4 => pw_iload_n (pc := 4) dX10_isShelf_4 0 rfl <|
pw_bipush (v := 8) (pc := 5) dX10_isShelf_5 (by decide) <|
pw_icmp_ge  (tgt := 14) (pc := 7) dX10_isShelf_7 (by decide) (fun h1 => pw_iconst (v := 0) (pc := 14) dX10_isShelf_14 (by decide) <|
pw_zret (b := false) hH rfl (pc := 15) dX10_isShelf_15) (fun h2 => pw_iconst (v := 1) (pc := 10) dX10_isShelf_10 (by decide) <|
pw_goto (tgt := 15) (pc := 11) dX10_isShelf_11 (by decide) <|
pw_zret (b := true) hH rfl (pc := 15) dX10_isShelf_15)))
set_option maxHeartbeats 4000000 in
theorem tX10_heldRefusal (l : Launch) (G : pw_G) (a1 : Int32) (a2 : Int32) (m0 : pw_Mem) : PMet l G yX10_heldRefusal cX10_heldRefusal 3 (some .int) 1 [.ref (pw_ad G 0), .int a1, .int a2] m0 (pw_Ri m0) (fX10_heldRefusal a1 a2 m0) :=
  pw_met (own := RX10) (l0 := [(0, .ref (pw_ad G 0)), (1, .int a1), (2, .int a2)]) rfl (by decide) rfl (Nat.le_of_ble_eq_true rfl) fun K hK hH => by
  delta fX10_heldRefusal
  exact (pw_iload_n (pc := 0) dX10_heldRefusal_0 1 rfl <|
pw_callS_rz (n := 1) (rest := []) (tX10_isShelf K.2.1 G a1 m0) miX10_isShelf mlX10_164 (pc := 1) dX10_heldRefusal_1 rfl rfl (by decide) (Nat.le_of_ble_eq_true rfl) fun y1 =>
pw_ifz_ne (tgt := 9) (pc := 4) dX10_heldRefusal_4 (by decide) (fun h8 => pw_aload_n (pc := 9) dX10_heldRefusal_9 0 rfl <|
pw_getR (o := 0) (k := 9) (t := 54) (pw_sh_0) cfX10 rfl (by decide) flX10_70 (pc := 10) dX10_heldRefusal_10 <|
pw_iload_n (pc := 13) dX10_heldRefusal_13 1 rfl <|
pw_aaldS (pc := 14) dX10_heldRefusal_14 fun hs2 =>
pw_getI (o := (55 + 2 * (a1).toNatClampNeg)) (k := 1) (pw_shShelf hs2) cfX5 rfl (by decide) flX10_329 (pc := 15) dX10_heldRefusal_15 <|
pw_if_ne (a := (m0 (55 + 2 * (a1).toNatClampNeg) 1)) (b := 0) (tgt := 24) (pc := 18) dX10_heldRefusal_18 (by decide) (fun h6 => pw_aload_n (pc := 24) dX10_heldRefusal_24 0 rfl <|
pw_getR (o := 0) (k := 9) (t := 54) (pw_sh_0) cfX10 rfl (by decide) flX10_70 (pc := 25) dX10_heldRefusal_25 <|
pw_iload_n (pc := 28) dX10_heldRefusal_28 1 rfl <|
pw_aaldS (pc := 29) dX10_heldRefusal_29 fun hs3 =>
pw_getI (o := (55 + 2 * (a1).toNatClampNeg)) (k := 1) (pw_shShelf hs3) cfX5 rfl (by decide) flX10_329 (pc := 30) dX10_heldRefusal_30 <|
pw_iload_n (pc := 33) dX10_heldRefusal_33 2 rfl <|
pw_icmp_ne  (tgt := 41) (pc := 34) dX10_heldRefusal_34 (by decide) (fun h4 => pw_bipush (v := -12) (pc := 41) dX10_heldRefusal_41 (by decide) <|
pw_iret (a := (-12 : Int32)) (v := (-12 : Int32)) hH rfl (pc := 43) dX10_heldRefusal_43) (fun h5 => pw_iconst (v := 0) (pc := 37) dX10_heldRefusal_37 (by decide) <|
pw_goto (tgt := 43) (pc := 38) dX10_heldRefusal_38 (by decide) <|
pw_iret (a := (0 : Int32)) (v := (0 : Int32)) hH rfl (pc := 43) dX10_heldRefusal_43)) (fun h7 => pw_bipush (v := -11) (pc := 21) dX10_heldRefusal_21 (by decide) <|
pw_iret (a := (-11 : Int32)) (v := (-11 : Int32)) hH rfl (pc := 23) dX10_heldRefusal_23)) (fun h9 => pw_iconst (v := -1) (pc := 7) dX10_heldRefusal_7 (by decide) <|
pw_iret (a := (-1 : Int32)) (v := (-1 : Int32)) hH rfl (pc := 8) dX10_heldRefusal_8))
set_option maxHeartbeats 4000000 in
theorem tX10_rowRefusal (l : Launch) (G : pw_G) (a1 : Int32) (m0 : pw_Mem) : PMet l G yX10_rowRefusal cX10_rowRefusal 2 (some .int) 2 [.ref (pw_ad G 0), .int a1] m0 (pw_Ri m0) (fX10_rowRefusal a1 m0) :=
  pw_met (own := RX10) (l0 := [(0, .ref (pw_ad G 0)), (1, .int a1)]) rfl (by decide) rfl (Nat.le_of_ble_eq_true rfl) fun K hK hH => by
  delta fX10_rowRefusal
  exact (pw_aload_n (pc := 0) dX10_rowRefusal_0 0 rfl <|
pw_iload_n (pc := 1) dX10_rowRefusal_1 1 rfl <|
pw_iconst (v := 2) (pc := 2) dX10_rowRefusal_2 (by decide) <|
pw_callV_ri (n := 2) (rest := []) (tX10_heldRefusal K.2.1 G a1 (2 : Int32) m0) (pw_sh_0) cfX10 rfl miX10_heldRefusal mlX10_379 (pc := 3) dX10_rowRefusal_3 rfl rfl (by decide) (Nat.le_of_ble_eq_true rfl) fun y1 =>
pw_iret (a := y1) (v := y1) hH rfl (pc := 6) dX10_rowRefusal_6)
set_option maxHeartbeats 4000000 in
theorem tX10_town (l : Launch) (G : pw_G) (a1 : Int32) (m0 : pw_Mem) : PMet l G yX10_town cX10_town 7 (some .int) 6 [.ref (pw_ad G 0), .int a1] m0 pw_Wi (fX10_town a1 m0) :=
  pw_met (own := RX10) (l0 := [(0, .ref (pw_ad G 0)), (1, .int a1)]) rfl (by decide) rfl (Nat.le_of_ble_eq_true rfl) fun K hK hH => by
  delta fX10_town
  exact (pw_aload_n (pc := 0) dX10_town_0 0 rfl <|
pw_iload_n (pc := 1) dX10_town_1 1 rfl <|
pw_callV_ri (n := 1) (rest := []) (tX10_rowRefusal K.2.1 G a1 m0) (pw_sh_0) cfX10 rfl miX10_rowRefusal mlX10_75 (pc := 2) dX10_town_2 rfl rfl (by decide) (Nat.le_of_ble_eq_true rfl) fun y1 =>
pw_istore_n [(2, .int y1), (0, .ref (pw_ad G 0)), (1, .int a1)] (pc := 5) dX10_town_5 (by decide) rfl <|
pw_iload_n (pc := 6) dX10_town_6 0 rfl <|
pw_if_eq (a := y1) (b := 0) (tgt := 12) (pc := 7) dX10_town_7 (by decide) (fun h32 => pw_aload_n (pc := 12) dX10_town_12 1 rfl <|
pw_getR (o := 0) (k := 9) (t := 54) (pw_sh_0) cfX10 rfl (by decide) flX10_70 (pc := 13) dX10_town_13 <|
pw_iload_n (pc := 16) dX10_town_16 2 rfl <|
pw_aaldS (pc := 17) dX10_town_17 fun hs2 =>
pw_astore_n [(3, .ref (pw_ad G (55 + 2 * (a1).toNatClampNeg))), (2, .int y1), (0, .ref (pw_ad G 0)), (1, .int a1)] (pc := 18) dX10_town_18 (by decide) rfl <|
pw_aload_n (pc := 19) dX10_town_19 0 rfl <|
pw_getI (o := (55 + 2 * (a1).toNatClampNeg)) (k := 4) (pw_shShelf hs2) cfX5 rfl (by decide) flX10_79 (pc := 20) dX10_town_20 <|
pw_if_eq (a := (m0 (55 + 2 * (a1).toNatClampNeg) 4)) (b := 0) (tgt := 29) (pc := 23) dX10_town_23 (by decide) (fun h30 => pw_aload_n (pc := 29) dX10_town_29 0 rfl <|
pw_callS_ri (n := 1) (rest := []) (tX8_formFault K.2.1 G hs2 m0) miX8_formFault mlX10_83 (pc := 30) dX10_town_30 rfl rfl (by decide) (Nat.le_of_ble_eq_true rfl) fun y3 =>
pw_istore [(4, .int y3), (3, .ref (pw_ad G (55 + 2 * (a1).toNatClampNeg))), (2, .int y1), (0, .ref (pw_ad G 0)), (1, .int a1)] (pc := 33) dX10_town_33 (by decide) rfl <|
pw_iload (pc := 35) dX10_town_35 0 rfl <|
pw_iconst (v := -1) (pc := 37) dX10_town_37 (by decide) <|
pw_icmp_eq  (tgt := 48) (pc := 38) dX10_town_38 (by decide) (fun h28 => pw_aload_n (pc := 48) dX10_town_48 3 rfl <|
pw_getR (o := 0) (k := 1) (t := 13) (pw_sh_0) cfX10 rfl (by decide) flX10_16 (pc := 49) dX10_town_49 <|
pw_aload_n (pc := 52) dX10_town_52 3 rfl <|
pw_getR (o := 0) (k := 0) (t := 1) (pw_sh_0) cfX10 rfl (by decide) flX10_10 (pc := 53) dX10_town_53 <|
pw_callV_wv (n := 1) (rest := []) (tX7_becomes K.2.1 G pw_t13 pw_t1 m0) (pw_shTown pw_t13) cfX7 rfl miX7_becomes mlX10_89 (pc := 56) dX10_town_56 rfl rfl (by decide) (Nat.le_of_ble_eq_true rfl) fun m4 =>
pw_iconst (v := 0) (pc := 59) dX10_town_59 (by decide) <|
pw_istore [(5, .int (0 : Int32)), (4, .int y3), (3, .ref (pw_ad G (55 + 2 * (a1).toNatClampNeg))), (2, .int y1), (0, .ref (pw_ad G 0)), (1, .int a1)] (pc := 60) dX10_town_60 (by decide) rfl <|
pw_iconst (v := 0) (pc := 62) dX10_town_62 (by decide) <|
pw_istore [(6, .int (0 : Int32)), (5, .int (0 : Int32)), (4, .int y3), (3, .ref (pw_ad G (55 + 2 * (a1).toNatClampNeg))), (2, .int y1), (0, .ref (pw_ad G 0)), (1, .int a1)] (pc := 63) dX10_town_63 (by decide) rfl <|
pw_sub [0, 1, 3, 5] rfl <| pw_lp (fun (kk27 : Int32 → Int32 → pw_Mem → Option (Int32 × pw_Mem)) => ∀ (v5 : Int32) (v6 : Int32) (m7 : pw_Mem), PW K G RX10 cX10_town 7 (some .int) 6 (pw_MQ K G pw_Wi) (kk27 v5 v6 m7) 65 [(6, .int v6), (5, .int v5), (3, .ref (pw_ad G (55 + 2 * (a1).toNatClampNeg))), (0, .ref (pw_ad G 0))] [] m7) (fun _ _ _ => pw_none) (fun nx8 hn9 v5 v6 m7 => pw_iload (pc := 65) dX10_town_65 0 rfl <|
pw_aload_n (pc := 67) dX10_town_67 2 rfl <|
pw_getI (o := (55 + 2 * (a1).toNatClampNeg)) (k := 5) (pw_shShelf hs2) cfX5 rfl (by decide) flX10_92 (pc := 68) dX10_town_68 <|
pw_icmp_ge  (tgt := 118) (pc := 71) dX10_town_71 (by decide) (fun h25 => pw_aload_n (pc := 118) dX10_town_118 3 rfl <|
pw_getR (o := 0) (k := 0) (t := 1) (pw_sh_0) cfX10 rfl (by decide) flX10_10 (pc := 119) dX10_town_119 <|
pw_aload_n (pc := 122) dX10_town_122 3 rfl <|
pw_getR (o := 0) (k := 1) (t := 13) (pw_sh_0) cfX10 rfl (by decide) flX10_16 (pc := 123) dX10_town_123 <|
pw_callV_wv (n := 1) (rest := []) (tX7_becomes K.2.1 G pw_t1 pw_t13 m7) (pw_shTown pw_t1) cfX7 rfl miX7_becomes mlX10_89 (pc := 126) dX10_town_126 rfl rfl (by decide) (Nat.le_of_ble_eq_true rfl) fun m10 =>
pw_iload (pc := 129) dX10_town_129 1 rfl <|
pw_iret (a := v5) (v := (v5, m10)) hH rfl (pc := 131) dX10_town_131) (fun h26 => pw_aload_n (pc := 74) dX10_town_74 2 rfl <|
pw_iload (pc := 75) dX10_town_75 0 rfl <|
pw_callV_ri (n := 1) (rest := []) (tX5_at K.2.1 G hs2 v6 m7) (pw_shShelf hs2) cfX5 rfl miX5_at mlX10_95 (pc := 77) dX10_town_77 rfl rfl (by decide) (Nat.le_of_ble_eq_true rfl) fun y11 =>
pw_callS_ri (n := 1) (rest := []) (tX8_digitsBehind K.2.1 G y11 m7) miX8_digitsBehind mlX10_98 (pc := 80) dX10_town_80 rfl rfl (by decide) (Nat.le_of_ble_eq_true rfl) fun y12 =>
pw_jn (fun (k16 : Int32 → pw_Mem → Option (Int32 × pw_Mem)) => ∀ (v13 : Int32) (m14 : pw_Mem), PW K G RX10 cX10_town 7 (some .int) 6 (pw_MQ K G pw_Wi) (k16 v13 m14) 112 [(6, .int v6), (5, .int v13), (3, .ref (pw_ad G (55 + 2 * (a1).toNatClampNeg))), (0, .ref (pw_ad G 0))] [] m14) (fun v13 m14 => pw_ltA fun x15 hxx15 => pw_iinc (v := x15) [(6, .int x15), (5, .int v13), (3, .ref (pw_ad G (55 + 2 * (a1).toNatClampNeg))), (0, .ref (pw_ad G 0))] (pc := 112) dX10_town_112 0 rfl (by rw [hxx15]; rfl) (by decide) rfl <|
pw_goto (tgt := 65) (pc := 115) dX10_town_115 (by decide) <|
hn9 v13 x15 m14) (fun k16 hk17 => pw_if_ne (a := y12) (b := 0) (tgt := 89) (pc := 83) dX10_town_83 (by decide) (fun h23 => pw_aload_n (pc := 89) dX10_town_89 2 rfl <|
pw_iload (pc := 90) dX10_town_90 0 rfl <|
pw_aload_n (pc := 92) dX10_town_92 3 rfl <|
pw_getR (o := 0) (k := 1) (t := 13) (pw_sh_0) cfX10 rfl (by decide) flX10_16 (pc := 93) dX10_town_93 <|
pw_callS_wz (n := 3) (rest := []) (tX8_happens K.2.1 G hs2 pw_t13 v6 m7) miX8_happens mlX10_101 (pc := 96) dX10_town_96 rfl rfl (by decide) (Nat.le_of_ble_eq_true rfl) fun y18 m19 =>
pw_ifz_ne (tgt := 109) (pc := 99) dX10_town_99 (by decide) (fun h21 => pw_ltA fun x20 hxx20 => pw_iinc (v := x20) [(5, .int x20), (6, .int v6), (3, .ref (pw_ad G (55 + 2 * (a1).toNatClampNeg))), (0, .ref (pw_ad G 0))] (pc := 109) dX10_town_109 1 rfl (by rw [hxx20]; rfl) (by decide) rfl <|
pw_sub [1, 0, 2, 3] rfl <| hk17 x20 m19) (fun h22 => pw_sipush (v := -2000) (pc := 102) dX10_town_102 (by decide) <|
pw_iload (pc := 105) dX10_town_105 0 rfl <|
pw_isub (pc := 107) dX10_town_107 <|
pw_iret (a := ((-2000 : Int32) - v6)) (v := ((-2000 : Int32) - v6, m19)) hH rfl (pc := 108) dX10_town_108)) (fun h24 => pw_goto (tgt := 112) (pc := 86) dX10_town_86 (by decide) <|
hk17 v5 m7)))) FU (0 : Int32) (0 : Int32) m4) (fun h29 => pw_sipush (v := -1000) (pc := 41) dX10_town_41 (by decide) <|
pw_iload (pc := 44) dX10_town_44 0 rfl <|
pw_isub (pc := 46) dX10_town_46 <|
pw_iret (a := ((-1000 : Int32) - y3)) (v := ((-1000 : Int32) - y3, m0)) hH rfl (pc := 47) dX10_town_47)) (fun h31 => pw_bipush (v := -12) (pc := 26) dX10_town_26 (by decide) <|
pw_iret (a := (-12 : Int32)) (v := ((-12 : Int32), m0)) hH rfl (pc := 28) dX10_town_28)) (fun h33 => pw_iload_n (pc := 10) dX10_town_10 0 rfl <|
pw_iret (a := y1) (v := (y1, m0)) hH rfl (pc := 11) dX10_town_11))
set_option maxHeartbeats 4000000 in
theorem tX10_person (l : Launch) (G : pw_G) (a1 : Int32) (a2 : Int32) (m0 : pw_Mem) : PMet l G yX10_person cX10_person 3 (some .int) 3 [.ref (pw_ad G 0), .int a1, .int a2] m0 (pw_Ri m0) (fX10_person a1 a2 m0) :=
  pw_met (own := RX10) (l0 := [(0, .ref (pw_ad G 0)), (1, .int a1), (2, .int a2)]) rfl (by decide) rfl (Nat.le_of_ble_eq_true rfl) fun K hK hH => by
  delta fX10_person
  exact (pw_aload_n (pc := 0) dX10_person_0 0 rfl <|
pw_getR (o := 0) (k := 0) (t := 1) (pw_sh_0) cfX10 rfl (by decide) flX10_10 (pc := 1) dX10_person_1 <|
pw_iload_n (pc := 4) dX10_person_4 1 rfl <|
pw_callV_rz (n := 1) (rest := []) (tX7_isPerson K.2.1 G pw_t1 a1 m0) (pw_shTown pw_t1) cfX7 rfl miX7_isPerson mlX10_105 (pc := 5) dX10_person_5 rfl rfl (by decide) (Nat.le_of_ble_eq_true rfl) fun y1 =>
pw_ifz_ne (tgt := 13) (pc := 8) dX10_person_8 (by decide) (fun h8 => pw_iload_n (pc := 13) dX10_person_13 2 rfl <|
pw_if (fun h2 => pw_tIn (tgt := 44) (pc := 14) dX10_person_14 h2 (by decide) (by decide) rfl (by decide) <|
pw_aload_n (pc := 44) dX10_person_44 0 rfl <|
pw_getR (o := 0) (k := 0) (t := 1) (pw_sh_0) cfX10 rfl (by decide) flX10_10 (pc := 45) dX10_person_45 <|
pw_getR (o := 1) (k := 0) (t := (1 + 1)) (pw_shTown pw_t1) cfX7 rfl (by decide) flX10_109 (pc := 48) dX10_person_48 <|
pw_iload_n (pc := 51) dX10_person_51 1 rfl <|
pw_iald (pw_shTown0 pw_t1) (pc := 52) dX10_person_52 <|
pw_iret (a := (m0 (1 + 1) (a1).toNatClampNeg)) (v := (m0 (1 + 1) (a1).toNatClampNeg)) hH rfl (pc := 53) dX10_person_53) (fun h2 => pw_if (fun h3 => pw_tIn (tgt := 54) (pc := 14) dX10_person_14 h3 (by decide) (by decide) rfl (by decide) <|
pw_aload_n (pc := 54) dX10_person_54 0 rfl <|
pw_getR (o := 0) (k := 0) (t := 1) (pw_sh_0) cfX10 rfl (by decide) flX10_10 (pc := 55) dX10_person_55 <|
pw_getR (o := 1) (k := 1) (t := (1 + 2)) (pw_shTown pw_t1) cfX7 rfl (by decide) flX10_113 (pc := 58) dX10_person_58 <|
pw_iload_n (pc := 61) dX10_person_61 1 rfl <|
pw_iald (pw_shTown1 pw_t1) (pc := 62) dX10_person_62 <|
pw_iret (a := (m0 (1 + 2) (a1).toNatClampNeg)) (v := (m0 (1 + 2) (a1).toNatClampNeg)) hH rfl (pc := 63) dX10_person_63) (fun h3 => pw_if (fun h5 => pw_tIn (tgt := 64) (pc := 14) dX10_person_14 h5 (by decide) (by decide) rfl (by decide) <|
pw_aload_n (pc := 64) dX10_person_64 0 rfl <|
pw_getR (o := 0) (k := 0) (t := 1) (pw_sh_0) cfX10 rfl (by decide) flX10_10 (pc := 65) dX10_person_65 <|
pw_iload_n (pc := 68) dX10_person_68 1 rfl <|
pw_iconst (v := -1) (pc := 69) dX10_person_69 (by decide) <|
pw_callV_ri (n := 2) (rest := []) (tX7_pulled K.2.1 G pw_t1 a1 (-1 : Int32) m0) (pw_shTown pw_t1) cfX7 rfl miX7_pulled mlX10_116 (pc := 70) dX10_person_70 rfl rfl (by decide) (Nat.le_of_ble_eq_true rfl) fun y4 =>
pw_iret (a := y4) (v := y4) hH rfl (pc := 73) dX10_person_73) (fun h5 => pw_if (fun h7 => pw_tIn (tgt := 74) (pc := 14) dX10_person_14 h7 (by decide) (by decide) rfl (by decide) <|
pw_aload_n (pc := 74) dX10_person_74 0 rfl <|
pw_getR (o := 0) (k := 0) (t := 1) (pw_sh_0) cfX10 rfl (by decide) flX10_10 (pc := 75) dX10_person_75 <|
pw_iload_n (pc := 78) dX10_person_78 1 rfl <|
pw_iconst (v := 1) (pc := 79) dX10_person_79 (by decide) <|
pw_callV_ri (n := 2) (rest := []) (tX7_pulled K.2.1 G pw_t1 a1 (1 : Int32) m0) (pw_shTown pw_t1) cfX7 rfl miX7_pulled mlX10_116 (pc := 80) dX10_person_80 rfl rfl (by decide) (Nat.le_of_ble_eq_true rfl) fun y6 =>
pw_iret (a := y6) (v := y6) hH rfl (pc := 83) dX10_person_83) (fun h7 => pw_tOut (tgt := 84) (pc := 14) dX10_person_14 (by have q0 := lv_neT h2 (a := 0) rfl; have q1 := lv_neT h3 (a := 1) rfl; have q2 := lv_neT h5 (a := 2) rfl; have q3 := lv_neT h7 (a := 3) rfl; omega) (by decide) <|
pw_iconst (v := -1) (pc := 84) dX10_person_84 (by decide) <|
pw_iret (a := (-1 : Int32)) (v := (-1 : Int32)) hH rfl (pc := 85) dX10_person_85))))) (fun h9 => pw_iconst (v := -1) (pc := 11) dX10_person_11 (by decide) <|
pw_iret (a := (-1 : Int32)) (v := (-1 : Int32)) hH rfl (pc := 12) dX10_person_12))
set_option maxHeartbeats 4000000 in
theorem tX10_band (l : Launch) (G : pw_G) (a1 : Int32) (a2 : Int32) (m0 : pw_Mem) : PMet l G yX10_band cX10_band 3 (some .int) 2 [.ref (pw_ad G 0), .int a1, .int a2] m0 (pw_Ri m0) (fX10_band a1 a2 m0) :=
  pw_met (own := RX10) (l0 := [(0, .ref (pw_ad G 0)), (1, .int a1), (2, .int a2)]) rfl (by decide) rfl (Nat.le_of_ble_eq_true rfl) fun K hK hH => by
  delta fX10_band
  exact (pw_aload_n (pc := 0) dX10_band_0 0 rfl <|
pw_getR (o := 0) (k := 0) (t := 1) (pw_sh_0) cfX10 rfl (by decide) flX10_10 (pc := 1) dX10_band_1 <|
pw_iload_n (pc := 4) dX10_band_4 1 rfl <|
pw_callV_rz (n := 1) (rest := []) (tX7_isBand K.2.1 G pw_t1 a1 m0) (pw_shTown pw_t1) cfX7 rfl miX7_isBand mlX10_120 (pc := 5) dX10_band_5 rfl rfl (by decide) (Nat.le_of_ble_eq_true rfl) fun y1 =>
pw_ifz_ne (tgt := 13) (pc := 8) dX10_band_8 (by decide) (fun h17 => pw_iload_n (pc := 13) dX10_band_13 2 rfl <|
pw_if (fun h2 => pw_tIn (tgt := 64) (pc := 14) dX10_band_14 h2 (by decide) (by decide) rfl (by decide) <|
pw_aload_n (pc := 64) dX10_band_64 0 rfl <|
pw_getR (o := 0) (k := 0) (t := 1) (pw_sh_0) cfX10 rfl (by decide) flX10_10 (pc := 65) dX10_band_65 <|
pw_getR (o := 1) (k := 3) (t := (1 + 4)) (pw_shTown pw_t1) cfX7 rfl (by decide) flX10_123 (pc := 68) dX10_band_68 <|
pw_iload_n (pc := 71) dX10_band_71 1 rfl <|
pw_iald (pw_shTown3 pw_t1) (pc := 72) dX10_band_72 <|
pw_iret (a := (m0 (1 + 4) (a1).toNatClampNeg)) (v := (m0 (1 + 4) (a1).toNatClampNeg)) hH rfl (pc := 73) dX10_band_73) (fun h2 => pw_if (fun h3 => pw_tIn (tgt := 74) (pc := 14) dX10_band_14 h3 (by decide) (by decide) rfl (by decide) <|
pw_aload_n (pc := 74) dX10_band_74 0 rfl <|
pw_getR (o := 0) (k := 0) (t := 1) (pw_sh_0) cfX10 rfl (by decide) flX10_10 (pc := 75) dX10_band_75 <|
pw_getR (o := 1) (k := 4) (t := (1 + 5)) (pw_shTown pw_t1) cfX7 rfl (by decide) flX10_126 (pc := 78) dX10_band_78 <|
pw_iload_n (pc := 81) dX10_band_81 1 rfl <|
pw_iald (pw_shTown4 pw_t1) (pc := 82) dX10_band_82 <|
pw_iret (a := (m0 (1 + 5) (a1).toNatClampNeg)) (v := (m0 (1 + 5) (a1).toNatClampNeg)) hH rfl (pc := 83) dX10_band_83) (fun h3 => pw_if (fun h4 => pw_tIn (tgt := 84) (pc := 14) dX10_band_14 h4 (by decide) (by decide) rfl (by decide) <|
pw_aload_n (pc := 84) dX10_band_84 0 rfl <|
pw_getR (o := 0) (k := 0) (t := 1) (pw_sh_0) cfX10 rfl (by decide) flX10_10 (pc := 85) dX10_band_85 <|
pw_getR (o := 1) (k := 5) (t := (1 + 6)) (pw_shTown pw_t1) cfX7 rfl (by decide) flX10_129 (pc := 88) dX10_band_88 <|
pw_iload_n (pc := 91) dX10_band_91 1 rfl <|
pw_iald (pw_shTown5 pw_t1) (pc := 92) dX10_band_92 <|
pw_iret (a := (m0 (1 + 6) (a1).toNatClampNeg)) (v := (m0 (1 + 6) (a1).toNatClampNeg)) hH rfl (pc := 93) dX10_band_93) (fun h4 => pw_if (fun h5 => pw_tIn (tgt := 94) (pc := 14) dX10_band_14 h5 (by decide) (by decide) rfl (by decide) <|
pw_aload_n (pc := 94) dX10_band_94 0 rfl <|
pw_getR (o := 0) (k := 0) (t := 1) (pw_sh_0) cfX10 rfl (by decide) flX10_10 (pc := 95) dX10_band_95 <|
pw_getR (o := 1) (k := 6) (t := (1 + 7)) (pw_shTown pw_t1) cfX7 rfl (by decide) flX10_132 (pc := 98) dX10_band_98 <|
pw_iload_n (pc := 101) dX10_band_101 1 rfl <|
pw_iald (pw_shTown6 pw_t1) (pc := 102) dX10_band_102 <|
pw_iret (a := (m0 (1 + 7) (a1).toNatClampNeg)) (v := (m0 (1 + 7) (a1).toNatClampNeg)) hH rfl (pc := 103) dX10_band_103) (fun h5 => pw_if (fun h6 => pw_tIn (tgt := 104) (pc := 14) dX10_band_14 h6 (by decide) (by decide) rfl (by decide) <|
pw_aload_n (pc := 104) dX10_band_104 0 rfl <|
pw_getR (o := 0) (k := 0) (t := 1) (pw_sh_0) cfX10 rfl (by decide) flX10_10 (pc := 105) dX10_band_105 <|
pw_getR (o := 1) (k := 7) (t := (1 + 8)) (pw_shTown pw_t1) cfX7 rfl (by decide) flX10_135 (pc := 108) dX10_band_108 <|
pw_iload_n (pc := 111) dX10_band_111 1 rfl <|
pw_iald (pw_shTown7 pw_t1) (pc := 112) dX10_band_112 <|
pw_iret (a := (m0 (1 + 8) (a1).toNatClampNeg)) (v := (m0 (1 + 8) (a1).toNatClampNeg)) hH rfl (pc := 113) dX10_band_113) (fun h6 => pw_if (fun h10 => pw_tIn (tgt := 114) (pc := 14) dX10_band_14 h10 (by decide) (by decide) rfl (by decide) <|
pw_aload_n (pc := 114) dX10_band_114 0 rfl <|
pw_getR (o := 0) (k := 0) (t := 1) (pw_sh_0) cfX10 rfl (by decide) flX10_10 (pc := 115) dX10_band_115 <|
pw_iload_n (pc := 118) dX10_band_118 1 rfl <|
pw_callV_rz (n := 1) (rest := []) (tX7_isSnapped K.2.1 G pw_t1 a1 m0) (pw_shTown pw_t1) cfX7 rfl miX7_isSnapped mlX10_138 (pc := 119) dX10_band_119 rfl rfl (by decide) (Nat.le_of_ble_eq_true rfl) fun y7 =>
pw_ifz_eq (tgt := 129) (pc := 122) dX10_band_122 (by decide) (fun h8 => pw_iconst (v := 1) (pc := 125) dX10_band_125 (by decide) <|
pw_goto (tgt := 130) (pc := 126) dX10_band_126 (by decide) <|
pw_iret (a := (1 : Int32)) (v := (1 : Int32)) hH rfl (pc := 130) dX10_band_130) (fun h9 => pw_iconst (v := 0) (pc := 129) dX10_band_129 (by decide) <|
pw_iret (a := (0 : Int32)) (v := (0 : Int32)) hH rfl (pc := 130) dX10_band_130)) (fun h10 => pw_if (fun h12 => pw_tIn (tgt := 131) (pc := 14) dX10_band_14 h12 (by decide) (by decide) rfl (by decide) <|
pw_aload_n (pc := 131) dX10_band_131 0 rfl <|
pw_getR (o := 0) (k := 0) (t := 1) (pw_sh_0) cfX10 rfl (by decide) flX10_10 (pc := 132) dX10_band_132 <|
pw_iload_n (pc := 135) dX10_band_135 1 rfl <|
pw_callV_ri (n := 1) (rest := []) (tX7_stretch K.2.1 G pw_t1 a1 m0) (pw_shTown pw_t1) cfX7 rfl miX7_stretch mlX10_141 (pc := 136) dX10_band_136 rfl rfl (by decide) (Nat.le_of_ble_eq_true rfl) fun y11 =>
pw_iret (a := y11) (v := y11) hH rfl (pc := 139) dX10_band_139) (fun h12 => pw_if (fun h14 => pw_tIn (tgt := 140) (pc := 14) dX10_band_14 h14 (by decide) (by decide) rfl (by decide) <|
pw_aload_n (pc := 140) dX10_band_140 0 rfl <|
pw_getR (o := 0) (k := 0) (t := 1) (pw_sh_0) cfX10 rfl (by decide) flX10_10 (pc := 141) dX10_band_141 <|
pw_iload_n (pc := 144) dX10_band_144 1 rfl <|
pw_callV_ri (n := 1) (rest := []) (tX7_pull K.2.1 G pw_t1 a1 m0) (pw_shTown pw_t1) cfX7 rfl miX7_pull mlX10_144 (pc := 145) dX10_band_145 rfl rfl (by decide) (Nat.le_of_ble_eq_true rfl) fun y13 =>
pw_iret (a := y13) (v := y13) hH rfl (pc := 148) dX10_band_148) (fun h14 => pw_if (fun h16 => pw_tIn (tgt := 149) (pc := 14) dX10_band_14 h16 (by decide) (by decide) rfl (by decide) <|
pw_aload_n (pc := 149) dX10_band_149 0 rfl <|
pw_getR (o := 0) (k := 0) (t := 1) (pw_sh_0) cfX10 rfl (by decide) flX10_10 (pc := 150) dX10_band_150 <|
pw_iload_n (pc := 153) dX10_band_153 1 rfl <|
pw_aload_n (pc := 154) dX10_band_154 0 rfl <|
pw_getR (o := 0) (k := 0) (t := 1) (pw_sh_0) cfX10 rfl (by decide) flX10_10 (pc := 155) dX10_band_155 <|
pw_getR (o := 1) (k := 7) (t := (1 + 8)) (pw_shTown pw_t1) cfX7 rfl (by decide) flX10_135 (pc := 158) dX10_band_158 <|
pw_iload_n (pc := 161) dX10_band_161 1 rfl <|
pw_iald (pw_shTown7 pw_t1) (pc := 162) dX10_band_162 <|
pw_aload_n (pc := 163) dX10_band_163 0 rfl <|
pw_getR (o := 0) (k := 0) (t := 1) (pw_sh_0) cfX10 rfl (by decide) flX10_10 (pc := 164) dX10_band_164 <|
pw_getI (o := 1) (k := 14) (pw_shTown pw_t1) cfX7 rfl (by decide) flX10_147 (pc := 167) dX10_band_167 <|
pw_callV_ri (n := 3) (rest := []) (tX7_holdsAt K.2.1 G pw_t1 a1 (m0 (1 + 8) (a1).toNatClampNeg) (m0 1 14) m0) (pw_shTown pw_t1) cfX7 rfl miX7_holdsAt mlX10_150 (pc := 170) dX10_band_170 rfl rfl (by decide) (Nat.le_of_ble_eq_true rfl) fun y15 =>
pw_iret (a := y15) (v := y15) hH rfl (pc := 173) dX10_band_173) (fun h16 => pw_tOut (tgt := 174) (pc := 14) dX10_band_14 (by have q0 := lv_neT h2 (a := 0) rfl; have q1 := lv_neT h3 (a := 1) rfl; have q2 := lv_neT h4 (a := 2) rfl; have q3 := lv_neT h5 (a := 3) rfl; have q4 := lv_neT h6 (a := 4) rfl; have q5 := lv_neT h10 (a := 5) rfl; have q6 := lv_neT h12 (a := 6) rfl; have q7 := lv_neT h14 (a := 7) rfl; have q8 := lv_neT h16 (a := 8) rfl; omega) (by decide) <|
pw_iconst (v := -1) (pc := 174) dX10_band_174 (by decide) <|
pw_iret (a := (-1 : Int32)) (v := (-1 : Int32)) hH rfl (pc := 175) dX10_band_175)))))))))) (fun h18 => pw_iconst (v := -1) (pc := 11) dX10_band_11 (by decide) <|
pw_iret (a := (-1 : Int32)) (v := (-1 : Int32)) hH rfl (pc := 12) dX10_band_12))
set_option maxHeartbeats 4000000 in
theorem tX10_comes (l : Launch) (G : pw_G) (a1 : Int32) (m0 : pw_Mem) : PMet l G yX10_comes cX10_comes 2 (some .int) 1 [.ref (pw_ad G 0), .int a1] m0 pw_Wi (fX10_comes a1 m0) :=
  pw_met (own := RX10) (l0 := [(0, .ref (pw_ad G 0)), (1, .int a1)]) rfl (by decide) rfl (Nat.le_of_ble_eq_true rfl) fun K hK hH => by
  delta fX10_comes
  exact (pw_iload_n (pc := 0) dX10_comes_0 1 rfl <|
pw_bipush (v := 30) (pc := 1) dX10_comes_1 (by decide) <|
pw_callS_rz (n := 2) (rest := []) (tX10_isUpTo K.2.1 G a1 (30 : Int32) m0) miX10_isUpTo mlX10_154 (pc := 3) dX10_comes_3 rfl rfl (by decide) (Nat.le_of_ble_eq_true rfl) fun y1 =>
pw_ifz_ne (tgt := 11) (pc := 6) dX10_comes_6 (by decide) (fun h6 => pw_aload_n (pc := 11) dX10_comes_11 0 rfl <|
pw_getR (o := 0) (k := 0) (t := 1) (pw_sh_0) cfX10 rfl (by decide) flX10_10 (pc := 12) dX10_comes_12 <|
pw_getI (o := 1) (k := 11) (pw_shTown pw_t1) cfX7 rfl (by decide) flX10_158 (pc := 15) dX10_comes_15 <|
pw_bipush (v := 7) (pc := 18) dX10_comes_18 (by decide) <|
pw_icmp_ge  (tgt := 34) (pc := 20) dX10_comes_20 (by decide) (fun h4 => pw_bipush (v := -2) (pc := 34) dX10_comes_34 (by decide) <|
pw_iret (a := (-2 : Int32)) (v := ((-2 : Int32), m0)) hH rfl (pc := 36) dX10_comes_36) (fun h5 => pw_aload_n (pc := 23) dX10_comes_23 0 rfl <|
pw_getR (o := 0) (k := 0) (t := 1) (pw_sh_0) cfX10 rfl (by decide) flX10_10 (pc := 24) dX10_comes_24 <|
pw_iload_n (pc := 27) dX10_comes_27 1 rfl <|
pw_callV_wi (n := 1) (rest := []) (tX7_addPerson K.2.1 G pw_t1 a1 m0) (pw_shTown pw_t1) cfX7 rfl miX7_addPerson mlX10_161 (pc := 28) dX10_comes_28 rfl rfl (by decide) (Nat.le_of_ble_eq_true rfl) fun y2 m3 =>
pw_goto (tgt := 36) (pc := 31) dX10_comes_31 (by decide) <|
pw_iret (a := y2) (v := (y2, m3)) hH rfl (pc := 36) dX10_comes_36)) (fun h7 => pw_iconst (v := -1) (pc := 9) dX10_comes_9 (by decide) <|
pw_iret (a := (-1 : Int32)) (v := ((-1 : Int32), m0)) hH rfl (pc := 10) dX10_comes_10))
set_option maxHeartbeats 4000000 in
theorem tX10_kindRefusal (l : Launch) (G : pw_G) (a1 : Int32) (m0 : pw_Mem) : PMet l G yX10_kindRefusal cX10_kindRefusal 2 (some .int) 2 [.ref (pw_ad G 0), .int a1] m0 (pw_Ri m0) (fX10_kindRefusal a1 m0) :=
  pw_met (own := RX10) (l0 := [(0, .ref (pw_ad G 0)), (1, .int a1)]) rfl (by decide) rfl (Nat.le_of_ble_eq_true rfl) fun K hK hH => by
  delta fX10_kindRefusal
  exact (pw_aload_n (pc := 0) dX10_kindRefusal_0 0 rfl <|
pw_iload_n (pc := 1) dX10_kindRefusal_1 1 rfl <|
pw_iconst (v := 1) (pc := 2) dX10_kindRefusal_2 (by decide) <|
pw_callV_ri (n := 2) (rest := []) (tX10_heldRefusal K.2.1 G a1 (1 : Int32) m0) (pw_sh_0) cfX10 rfl miX10_heldRefusal mlX10_379 (pc := 3) dX10_kindRefusal_3 rfl rfl (by decide) (Nat.le_of_ble_eq_true rfl) fun y1 =>
pw_iret (a := y1) (v := y1) hH rfl (pc := 6) dX10_kindRefusal_6)
set_option maxHeartbeats 4000000 in
theorem tX10_ties (l : Launch) (G : pw_G) (a1 : Int32) (a2 : Int32) (a3 : Int32) (m0 : pw_Mem) : PMet l G yX10_ties cX10_ties 5 (some .int) 4 [.ref (pw_ad G 0), .int a1, .int a2, .int a3] m0 pw_Wi (fX10_ties a1 a2 a3 m0) :=
  pw_met (own := RX10) (l0 := [(0, .ref (pw_ad G 0)), (1, .int a1), (2, .int a2), (3, .int a3)]) rfl (by decide) rfl (Nat.le_of_ble_eq_true rfl) fun K hK hH => by
  delta fX10_ties
  exact (pw_iload_n (pc := 0) dX10_ties_0 1 rfl <|
pw_callS_rz (n := 1) (rest := []) (tX10_isShelf K.2.1 G a1 m0) miX10_isShelf mlX10_164 (pc := 1) dX10_ties_1 rfl rfl (by decide) (Nat.le_of_ble_eq_true rfl) fun y1 =>
pw_ifz_eq (tgt := 19) (pc := 4) dX10_ties_4 (by decide) (fun h14 => pw_aload_n (pc := 7) dX10_ties_7 0 rfl <|
pw_getR (o := 0) (k := 0) (t := 1) (pw_sh_0) cfX10 rfl (by decide) flX10_10 (pc := 8) dX10_ties_8 <|
pw_iload_n (pc := 11) dX10_ties_11 2 rfl <|
pw_iload_n (pc := 12) dX10_ties_12 3 rfl <|
pw_callV_rz (n := 2) (rest := []) (tX7_areTwo K.2.1 G pw_t1 a2 a3 m0) (pw_shTown pw_t1) cfX7 rfl miX7_areTwo mlX10_167 (pc := 13) dX10_ties_13 rfl rfl (by decide) (Nat.le_of_ble_eq_true rfl) fun y2 =>
pw_ifz_ne (tgt := 21) (pc := 16) dX10_ties_16 (by decide) (fun h12 => pw_aload_n (pc := 21) dX10_ties_21 0 rfl <|
pw_iload_n (pc := 22) dX10_ties_22 1 rfl <|
pw_callV_ri (n := 1) (rest := []) (tX10_kindRefusal K.2.1 G a1 m0) (pw_sh_0) cfX10 rfl miX10_kindRefusal mlX10_170 (pc := 23) dX10_ties_23 rfl rfl (by decide) (Nat.le_of_ble_eq_true rfl) fun y3 =>
pw_istore [(4, .int y3), (0, .ref (pw_ad G 0)), (1, .int a1), (2, .int a2), (3, .int a3)] (pc := 26) dX10_ties_26 (by decide) rfl <|
pw_iload (pc := 28) dX10_ties_28 0 rfl <|
pw_if_eq (a := y3) (b := 0) (tgt := 36) (pc := 30) dX10_ties_30 (by decide) (fun h10 => pw_aload_n (pc := 36) dX10_ties_36 1 rfl <|
pw_getR (o := 0) (k := 0) (t := 1) (pw_sh_0) cfX10 rfl (by decide) flX10_10 (pc := 37) dX10_ties_37 <|
pw_getI (o := 1) (k := 12) (pw_shTown pw_t1) cfX7 rfl (by decide) flX10_173 (pc := 40) dX10_ties_40 <|
pw_bipush (v := 10) (pc := 43) dX10_ties_43 (by decide) <|
pw_icmp_lt  (tgt := 51) (pc := 45) dX10_ties_45 (by decide) (fun h8 => pw_aload_n (pc := 51) dX10_ties_51 1 rfl <|
pw_getR (o := 0) (k := 0) (t := 1) (pw_sh_0) cfX10 rfl (by decide) flX10_10 (pc := 52) dX10_ties_52 <|
pw_aload_n (pc := 55) dX10_ties_55 1 rfl <|
pw_getR (o := 0) (k := 9) (t := 54) (pw_sh_0) cfX10 rfl (by decide) flX10_70 (pc := 56) dX10_ties_56 <|
pw_iload_n (pc := 59) dX10_ties_59 2 rfl <|
pw_aaldS (pc := 60) dX10_ties_60 fun hs4 =>
pw_getI (o := (55 + 2 * (a1).toNatClampNeg)) (k := 2) (pw_shShelf hs4) cfX5 rfl (by decide) flX10_176 (pc := 61) dX10_ties_61 <|
pw_aload_n (pc := 64) dX10_ties_64 1 rfl <|
pw_getR (o := 0) (k := 9) (t := 54) (pw_sh_0) cfX10 rfl (by decide) flX10_70 (pc := 65) dX10_ties_65 <|
pw_iload_n (pc := 68) dX10_ties_68 2 rfl <|
pw_aaldS (pc := 69) dX10_ties_69 fun hs5 =>
pw_getI (o := (55 + 2 * (a1).toNatClampNeg)) (k := 3) (pw_shShelf hs5) cfX5 rfl (by decide) flX10_178 (pc := 70) dX10_ties_70 <|
pw_iload_n (pc := 73) dX10_ties_73 3 rfl <|
pw_iload_n (pc := 74) dX10_ties_74 4 rfl <|
pw_callV_wi (n := 4) (rest := []) (tX7_addBand K.2.1 G pw_t1 (m0 (55 + 2 * (a1).toNatClampNeg) 2) (m0 (55 + 2 * (a1).toNatClampNeg) 3) a2 a3 m0) (pw_shTown pw_t1) cfX7 rfl miX7_addBand mlX10_180 (pc := 75) dX10_ties_75 rfl rfl (by decide) (Nat.le_of_ble_eq_true rfl) fun y6 m7 =>
pw_iret (a := y6) (v := (y6, m7)) hH rfl (pc := 78) dX10_ties_78) (fun h9 => pw_bipush (v := -2) (pc := 48) dX10_ties_48 (by decide) <|
pw_iret (a := (-2 : Int32)) (v := ((-2 : Int32), m0)) hH rfl (pc := 50) dX10_ties_50)) (fun h11 => pw_iload (pc := 33) dX10_ties_33 0 rfl <|
pw_iret (a := y3) (v := (y3, m0)) hH rfl (pc := 35) dX10_ties_35)) (fun h13 => pw_iconst (v := -1) (pc := 19) dX10_ties_19 (by decide) <|
pw_iret (a := (-1 : Int32)) (v := ((-1 : Int32), m0)) hH rfl (pc := 20) dX10_ties_20)) (fun h15 => pw_iconst (v := -1) (pc := 19) dX10_ties_19 (by decide) <|
pw_iret (a := (-1 : Int32)) (v := ((-1 : Int32), m0)) hH rfl (pc := 20) dX10_ties_20))
set_option maxHeartbeats 4000000 in
theorem tX10_goes (l : Launch) (G : pw_G) (a1 : Int32) (a2 : Int32) (m0 : pw_Mem) : PMet l G yX10_goes cX10_goes 3 (some .int) 4 [.ref (pw_ad G 0), .int a1, .int a2] m0 pw_Wi (fX10_goes a1 a2 m0) :=
  pw_met (own := RX10) (l0 := [(0, .ref (pw_ad G 0)), (1, .int a1), (2, .int a2)]) rfl (by decide) rfl (Nat.le_of_ble_eq_true rfl) fun K hK hH => by
  delta fX10_goes
  exact (pw_aload_n (pc := 0) dX10_goes_0 0 rfl <|
pw_getR (o := 0) (k := 0) (t := 1) (pw_sh_0) cfX10 rfl (by decide) flX10_10 (pc := 1) dX10_goes_1 <|
pw_iload_n (pc := 4) dX10_goes_4 1 rfl <|
pw_callV_rz (n := 1) (rest := []) (tX7_isPerson K.2.1 G pw_t1 a1 m0) (pw_shTown pw_t1) cfX7 rfl miX7_isPerson mlX10_105 (pc := 5) dX10_goes_5 rfl rfl (by decide) (Nat.le_of_ble_eq_true rfl) fun y1 =>
pw_ifz_eq (tgt := 20) (pc := 8) dX10_goes_8 (by decide) (fun h7 => pw_iload_n (pc := 11) dX10_goes_11 2 rfl <|
pw_bipush (v := 30) (pc := 12) dX10_goes_12 (by decide) <|
pw_callS_rz (n := 2) (rest := []) (tX10_isUpTo K.2.1 G a2 (30 : Int32) m0) miX10_isUpTo mlX10_154 (pc := 14) dX10_goes_14 rfl rfl (by decide) (Nat.le_of_ble_eq_true rfl) fun y2 =>
pw_ifz_ne (tgt := 22) (pc := 17) dX10_goes_17 (by decide) (fun h5 => pw_aload_n (pc := 22) dX10_goes_22 0 rfl <|
pw_getR (o := 0) (k := 0) (t := 1) (pw_sh_0) cfX10 rfl (by decide) flX10_10 (pc := 23) dX10_goes_23 <|
pw_iload_n (pc := 26) dX10_goes_26 1 rfl <|
pw_iload_n (pc := 27) dX10_goes_27 2 rfl <|
pw_callV_wi (n := 2) (rest := []) (tX7_moves K.2.1 G pw_t1 a1 a2 m0) (pw_shTown pw_t1) cfX7 rfl miX7_moves mlX10_184 (pc := 28) dX10_goes_28 rfl rfl (by decide) (Nat.le_of_ble_eq_true rfl) fun y3 m4 =>
pw_iret (a := y3) (v := (y3, m4)) hH rfl (pc := 31) dX10_goes_31) (fun h6 => pw_iconst (v := -1) (pc := 20) dX10_goes_20 (by decide) <|
pw_iret (a := (-1 : Int32)) (v := ((-1 : Int32), m0)) hH rfl (pc := 21) dX10_goes_21)) (fun h8 => pw_iconst (v := -1) (pc := 20) dX10_goes_20 (by decide) <|
pw_iret (a := (-1 : Int32)) (v := ((-1 : Int32), m0)) hH rfl (pc := 21) dX10_goes_21))
set_option maxHeartbeats 4000000 in
theorem tX10_cold (l : Launch) (G : pw_G) (a1 : Int32) (m0 : pw_Mem) : PMet l G yX10_cold cX10_cold 2 (some .int) 4 [.ref (pw_ad G 0), .int a1] m0 pw_Wi (fX10_cold a1 m0) :=
  pw_met (own := RX10) (l0 := [(0, .ref (pw_ad G 0)), (1, .int a1)]) rfl (by decide) rfl (Nat.le_of_ble_eq_true rfl) fun K hK hH => by
  delta fX10_cold
  exact (pw_iload_n (pc := 0) dX10_cold_0 1 rfl <|
pw_bipush (v := 9) (pc := 1) dX10_cold_1 (by decide) <|
pw_callS_rz (n := 2) (rest := []) (tX10_isUpTo K.2.1 G a1 (9 : Int32) m0) miX10_isUpTo mlX10_154 (pc := 3) dX10_cold_3 rfl rfl (by decide) (Nat.le_of_ble_eq_true rfl) fun y1 =>
pw_ifz_eq (tgt := 20) (pc := 6) dX10_cold_6 (by decide) (fun h4 => pw_aload_n (pc := 9) dX10_cold_9 0 rfl <|
pw_getR (o := 0) (k := 0) (t := 1) (pw_sh_0) cfX10 rfl (by decide) flX10_10 (pc := 10) dX10_cold_10 <|
pw_iload_n (pc := 13) dX10_cold_13 1 rfl <|
pw_callV_wi (n := 1) (rest := []) (tX7_chills K.2.1 G pw_t1 a1 m0) (pw_shTown pw_t1) cfX7 rfl miX7_chills mlX10_187 (pc := 14) dX10_cold_14 rfl rfl (by decide) (Nat.le_of_ble_eq_true rfl) fun y2 m3 =>
pw_goto (tgt := 21) (pc := 17) dX10_cold_17 (by decide) <|
pw_iret (a := y2) (v := (y2, m3)) hH rfl (pc := 21) dX10_cold_21) (fun h5 => pw_iconst (v := -1) (pc := 20) dX10_cold_20 (by decide) <|
pw_iret (a := (-1 : Int32)) (v := ((-1 : Int32), m0)) hH rfl (pc := 21) dX10_cold_21))
set_option maxHeartbeats 4000000 in
theorem tX10_years (l : Launch) (G : pw_G) (a1 : Int32) (m0 : pw_Mem) : PMet l G yX10_years cX10_years 3 (some .int) 5 [.ref (pw_ad G 0), .int a1] m0 pw_Wi (fX10_years a1 m0) :=
  pw_met (own := RX10) (l0 := [(0, .ref (pw_ad G 0)), (1, .int a1)]) rfl (by decide) rfl (Nat.le_of_ble_eq_true rfl) fun K hK hH => by
  delta fX10_years
  exact (pw_iload_n (pc := 0) dX10_years_0 1 rfl <|
pw_iconst (v := 1) (pc := 1) dX10_years_1 (by decide) <|
pw_icmp_lt  (tgt := 11) (pc := 2) dX10_years_2 (by decide) (fun h8 => pw_iconst (v := -1) (pc := 11) dX10_years_11 (by decide) <|
pw_iret (a := (-1 : Int32)) (v := ((-1 : Int32), m0)) hH rfl (pc := 12) dX10_years_12) (fun h9 => pw_iload_n (pc := 5) dX10_years_5 1 rfl <|
pw_bipush (v := 60) (pc := 6) dX10_years_6 (by decide) <|
pw_icmp_le  (tgt := 13) (pc := 8) dX10_years_8 (by decide) (fun h6 => pw_aload_n (pc := 13) dX10_years_13 0 rfl <|
pw_getR (o := 0) (k := 0) (t := 1) (pw_sh_0) cfX10 rfl (by decide) flX10_10 (pc := 14) dX10_years_14 <|
pw_getI (o := 1) (k := 15) (pw_shTown pw_t1) cfX7 rfl (by decide) flX10_190 (pc := 17) dX10_years_17 <|
pw_iload_n (pc := 20) dX10_years_20 1 rfl <|
pw_iadd (pc := 21) dX10_years_21 <|
pw_sipush (v := 999) (pc := 22) dX10_years_22 (by decide) <|
pw_icmp_le  (tgt := 31) (pc := 25) dX10_years_25 (by decide) (fun h4 => pw_aload_n (pc := 31) dX10_years_31 0 rfl <|
pw_getR (o := 0) (k := 0) (t := 1) (pw_sh_0) cfX10 rfl (by decide) flX10_10 (pc := 32) dX10_years_32 <|
pw_callV_ri (n := 0) (rest := []) (tX7_snappedCount K.2.1 G pw_t1 m0) (pw_shTown pw_t1) cfX7 rfl miX7_snappedCount mlX10_193 (pc := 35) dX10_years_35 rfl rfl (by decide) (Nat.le_of_ble_eq_true rfl) fun y1 =>
pw_istore_n [(2, .int y1), (0, .ref (pw_ad G 0)), (1, .int a1)] (pc := 38) dX10_years_38 (by decide) rfl <|
pw_aload_n (pc := 39) dX10_years_39 1 rfl <|
pw_getR (o := 0) (k := 0) (t := 1) (pw_sh_0) cfX10 rfl (by decide) flX10_10 (pc := 40) dX10_years_40 <|
pw_iload_n (pc := 43) dX10_years_43 2 rfl <|
pw_callV_wv (n := 1) (rest := []) (tX7_passYears K.2.1 G pw_t1 a1 m0) (pw_shTown pw_t1) cfX7 rfl miX7_passYears mlX10_197 (pc := 44) dX10_years_44 rfl rfl (by decide) (Nat.le_of_ble_eq_true rfl) fun m2 =>
pw_aload_n (pc := 47) dX10_years_47 1 rfl <|
pw_getR (o := 0) (k := 0) (t := 1) (pw_sh_0) cfX10 rfl (by decide) flX10_10 (pc := 48) dX10_years_48 <|
pw_callV_ri (n := 0) (rest := []) (tX7_snappedCount K.2.1 G pw_t1 m2) (pw_shTown pw_t1) cfX7 rfl miX7_snappedCount mlX10_193 (pc := 51) dX10_years_51 rfl rfl (by decide) (Nat.le_of_ble_eq_true rfl) fun y3 =>
pw_iload_n (pc := 54) dX10_years_54 0 rfl <|
pw_isub (pc := 55) dX10_years_55 <|
pw_iret (a := (y3 - y1)) (v := (y3 - y1, m2)) hH rfl (pc := 56) dX10_years_56) (fun h5 => pw_bipush (v := -3) (pc := 28) dX10_years_28 (by decide) <|
pw_iret (a := (-3 : Int32)) (v := ((-3 : Int32), m0)) hH rfl (pc := 30) dX10_years_30)) (fun h7 => pw_iconst (v := -1) (pc := 11) dX10_years_11 (by decide) <|
pw_iret (a := (-1 : Int32)) (v := ((-1 : Int32), m0)) hH rfl (pc := 12) dX10_years_12)))
set_option maxHeartbeats 4000000 in
theorem tX10_cuts (l : Launch) (G : pw_G) (a1 : Int32) (m0 : pw_Mem) : PMet l G yX10_cuts cX10_cuts 2 (some .int) 2 [.ref (pw_ad G 0), .int a1] m0 pw_Wi (fX10_cuts a1 m0) :=
  pw_met (own := RX10) (l0 := [(0, .ref (pw_ad G 0)), (1, .int a1)]) rfl (by decide) rfl (Nat.le_of_ble_eq_true rfl) fun K hK hH => by
  delta fX10_cuts
  exact (pw_aload_n (pc := 0) dX10_cuts_0 0 rfl <|
pw_getR (o := 0) (k := 0) (t := 1) (pw_sh_0) cfX10 rfl (by decide) flX10_10 (pc := 1) dX10_cuts_1 <|
pw_iload_n (pc := 4) dX10_cuts_4 1 rfl <|
pw_callV_rz (n := 1) (rest := []) (tX7_isBand K.2.1 G pw_t1 a1 m0) (pw_shTown pw_t1) cfX7 rfl miX7_isBand mlX10_120 (pc := 5) dX10_cuts_5 rfl rfl (by decide) (Nat.le_of_ble_eq_true rfl) fun y1 =>
pw_ifz_ne (tgt := 13) (pc := 8) dX10_cuts_8 (by decide) (fun h7 => pw_aload_n (pc := 13) dX10_cuts_13 0 rfl <|
pw_getR (o := 0) (k := 0) (t := 1) (pw_sh_0) cfX10 rfl (by decide) flX10_10 (pc := 14) dX10_cuts_14 <|
pw_iload_n (pc := 17) dX10_cuts_17 1 rfl <|
pw_callV_rz (n := 1) (rest := []) (tX7_isSnapped K.2.1 G pw_t1 a1 m0) (pw_shTown pw_t1) cfX7 rfl miX7_isSnapped mlX10_138 (pc := 18) dX10_cuts_18 rfl rfl (by decide) (Nat.le_of_ble_eq_true rfl) fun y2 =>
pw_ifz_eq (tgt := 27) (pc := 21) dX10_cuts_21 (by decide) (fun h5 => pw_bipush (v := -3) (pc := 24) dX10_cuts_24 (by decide) <|
pw_iret (a := (-3 : Int32)) (v := ((-3 : Int32), m0)) hH rfl (pc := 26) dX10_cuts_26) (fun h6 => pw_aload_n (pc := 27) dX10_cuts_27 0 rfl <|
pw_getR (o := 0) (k := 0) (t := 1) (pw_sh_0) cfX10 rfl (by decide) flX10_10 (pc := 28) dX10_cuts_28 <|
pw_dup (pc := 31) dX10_cuts_31 rfl <|
pw_getI (o := 1) (k := 13) (pw_shTown pw_t1) cfX7 rfl (by decide) flX10_201 (pc := 32) dX10_cuts_32 <|
pw_iconst (v := 1) (pc := 35) dX10_cuts_35 (by decide) <|
pw_iload_n (pc := 36) dX10_cuts_36 1 rfl <|
pw_ishl (pc := 37) dX10_cuts_37 <|
pw_ior (pc := 38) dX10_cuts_38 <|
pw_putI (o := 1) (k := 13) (pw_shTown pw_t1) cfX7 rfl (by decide) flX10_201 rfl (ft := .int) rfl rfl rfl (pc := 39) dX10_cuts_39 <|
pw_ltM fun m3 => pw_aload_n (pc := 42) dX10_cuts_42 0 rfl <|
pw_getR (o := 0) (k := 0) (t := 1) (pw_sh_0) cfX10 rfl (by decide) flX10_10 (pc := 43) dX10_cuts_43 <|
pw_callV_ri (n := 0) (rest := []) (tX7_snappedCount K.2.1 G pw_t1 m3) (pw_shTown pw_t1) cfX7 rfl miX7_snappedCount mlX10_193 (pc := 46) dX10_cuts_46 rfl rfl (by decide) (Nat.le_of_ble_eq_true rfl) fun y4 =>
pw_iret (a := y4) (v := (y4, m3)) hH rfl (pc := 49) dX10_cuts_49)) (fun h8 => pw_iconst (v := -1) (pc := 11) dX10_cuts_11 (by decide) <|
pw_iret (a := (-1 : Int32)) (v := ((-1 : Int32), m0)) hH rfl (pc := 12) dX10_cuts_12))
set_option maxHeartbeats 4000000 in
theorem tX10_mayGo (l : Launch) (G : pw_G) (a1 : Int32) (a2 : Int32) (m0 : pw_Mem) : PMet l G yX10_mayGo cX10_mayGo 3 (some .int) 3 [.ref (pw_ad G 0), .int a1, .int a2] m0 pw_Wi (fX10_mayGo a1 a2 m0) :=
  pw_met (own := RX10) (l0 := [(0, .ref (pw_ad G 0)), (1, .int a1), (2, .int a2)]) rfl (by decide) rfl (Nat.le_of_ble_eq_true rfl) fun K hK hH => by
  delta fX10_mayGo
  exact (pw_aload_n (pc := 0) dX10_mayGo_0 0 rfl <|
pw_getR (o := 0) (k := 0) (t := 1) (pw_sh_0) cfX10 rfl (by decide) flX10_10 (pc := 1) dX10_mayGo_1 <|
pw_iload_n (pc := 4) dX10_mayGo_4 1 rfl <|
pw_callV_rz (n := 1) (rest := []) (tX7_isPerson K.2.1 G pw_t1 a1 m0) (pw_shTown pw_t1) cfX7 rfl miX7_isPerson mlX10_105 (pc := 5) dX10_mayGo_5 rfl rfl (by decide) (Nat.le_of_ble_eq_true rfl) fun y1 =>
pw_ifz_eq (tgt := 19) (pc := 8) dX10_mayGo_8 (by decide) (fun h11 => pw_iload_n (pc := 11) dX10_mayGo_11 2 rfl <|
pw_iconst (v := 1) (pc := 12) dX10_mayGo_12 (by decide) <|
pw_callS_rz (n := 2) (rest := []) (tX10_isUpTo K.2.1 G a2 (1 : Int32) m0) miX10_isUpTo mlX10_154 (pc := 13) dX10_mayGo_13 rfl rfl (by decide) (Nat.le_of_ble_eq_true rfl) fun y2 =>
pw_ifz_ne (tgt := 21) (pc := 16) dX10_mayGo_16 (by decide) (fun h9 => pw_aload_n (pc := 21) dX10_mayGo_21 0 rfl <|
pw_getR (o := 0) (k := 3) (t := 37) (pw_sh_0) cfX10 rfl (by decide) flX10_27 (pc := 22) dX10_mayGo_22 <|
pw_iload_n (pc := 25) dX10_mayGo_25 1 rfl <|
pw_iload_n (pc := 26) dX10_mayGo_26 2 rfl <|
pw_if_ne (a := a2) (b := 0) (tgt := 34) (pc := 27) dX10_mayGo_27 (by decide) (fun h7 => pw_iconst (v := 1) (pc := 34) dX10_mayGo_34 (by decide) <|
pw_callV_wi (n := 2) (rest := []) (tX4_endOfTheRoad K.2.1 G a1 (1 : Int32) m0) (pw_sh_37) cfX4 rfl miX4_endOfTheRoad mlX10_204 (pc := 35) dX10_mayGo_35 rfl rfl (by decide) (Nat.le_of_ble_eq_true rfl) fun y3 m4 =>
pw_iret (a := y3) (v := (y3, m4)) hH rfl (pc := 38) dX10_mayGo_38) (fun h8 => pw_iconst (v := -1) (pc := 30) dX10_mayGo_30 (by decide) <|
pw_goto (tgt := 35) (pc := 31) dX10_mayGo_31 (by decide) <|
pw_callV_wi (n := 2) (rest := []) (tX4_endOfTheRoad K.2.1 G a1 (-1 : Int32) m0) (pw_sh_37) cfX4 rfl miX4_endOfTheRoad mlX10_204 (pc := 35) dX10_mayGo_35 rfl rfl (by decide) (Nat.le_of_ble_eq_true rfl) fun y5 m6 =>
pw_iret (a := y5) (v := (y5, m6)) hH rfl (pc := 38) dX10_mayGo_38)) (fun h10 => pw_iconst (v := -1) (pc := 19) dX10_mayGo_19 (by decide) <|
pw_iret (a := (-1 : Int32)) (v := ((-1 : Int32), m0)) hH rfl (pc := 20) dX10_mayGo_20)) (fun h12 => pw_iconst (v := -1) (pc := 19) dX10_mayGo_19 (by decide) <|
pw_iret (a := (-1 : Int32)) (v := ((-1 : Int32), m0)) hH rfl (pc := 20) dX10_mayGo_20))
set_option maxHeartbeats 4000000 in
theorem tX10_rest (l : Launch) (G : pw_G) (a1 : Int32) (m0 : pw_Mem) : PMet l G yX10_rest cX10_rest 2 (some .int) 4 [.ref (pw_ad G 0), .int a1] m0 pw_Wi (fX10_rest a1 m0) :=
  pw_met (own := RX10) (l0 := [(0, .ref (pw_ad G 0)), (1, .int a1)]) rfl (by decide) rfl (Nat.le_of_ble_eq_true rfl) fun K hK hH => by
  delta fX10_rest
  exact (pw_aload_n (pc := 0) dX10_rest_0 0 rfl <|
pw_getR (o := 0) (k := 0) (t := 1) (pw_sh_0) cfX10 rfl (by decide) flX10_10 (pc := 1) dX10_rest_1 <|
pw_iload_n (pc := 4) dX10_rest_4 1 rfl <|
pw_callV_rz (n := 1) (rest := []) (tX7_isPerson K.2.1 G pw_t1 a1 m0) (pw_shTown pw_t1) cfX7 rfl miX7_isPerson mlX10_105 (pc := 5) dX10_rest_5 rfl rfl (by decide) (Nat.le_of_ble_eq_true rfl) fun y1 =>
pw_ifz_eq (tgt := 22) (pc := 8) dX10_rest_8 (by decide) (fun h4 => pw_aload_n (pc := 11) dX10_rest_11 0 rfl <|
pw_getR (o := 0) (k := 3) (t := 37) (pw_sh_0) cfX10 rfl (by decide) flX10_27 (pc := 12) dX10_rest_12 <|
pw_iload_n (pc := 15) dX10_rest_15 1 rfl <|
pw_callV_wi (n := 1) (rest := []) (tX4_restingPlace K.2.1 G a1 m0) (pw_sh_37) cfX4 rfl miX4_restingPlace mlX10_207 (pc := 16) dX10_rest_16 rfl rfl (by decide) (Nat.le_of_ble_eq_true rfl) fun y2 m3 =>
pw_goto (tgt := 23) (pc := 19) dX10_rest_19 (by decide) <|
pw_iret (a := y2) (v := (y2, m3)) hH rfl (pc := 23) dX10_rest_23) (fun h5 => pw_iconst (v := -1) (pc := 22) dX10_rest_22 (by decide) <|
pw_iret (a := (-1 : Int32)) (v := ((-1 : Int32), m0)) hH rfl (pc := 23) dX10_rest_23))
set_option maxHeartbeats 4000000 in
theorem tX10_placeIn (l : Launch) (G : pw_G) (a1 : Int32) (a2 : Int32) (m0 : pw_Mem) : PMet l G yX10_placeIn cX10_placeIn 3 (some .int) 6 [.ref (pw_ad G 0), .int a1, .int a2] m0 pw_Wi (fX10_placeIn a1 a2 m0) :=
  pw_met (own := RX10) (l0 := [(0, .ref (pw_ad G 0)), (1, .int a1), (2, .int a2)]) rfl (by decide) rfl (Nat.le_of_ble_eq_true rfl) fun K hK hH => by
  delta fX10_placeIn
  exact (pw_aload_n (pc := 0) dX10_placeIn_0 0 rfl <|
pw_getR (o := 0) (k := 0) (t := 1) (pw_sh_0) cfX10 rfl (by decide) flX10_10 (pc := 1) dX10_placeIn_1 <|
pw_iload_n (pc := 4) dX10_placeIn_4 1 rfl <|
pw_callV_rz (n := 1) (rest := []) (tX7_isPerson K.2.1 G pw_t1 a1 m0) (pw_shTown pw_t1) cfX7 rfl miX7_isPerson mlX10_105 (pc := 5) dX10_placeIn_5 rfl rfl (by decide) (Nat.le_of_ble_eq_true rfl) fun y1 =>
pw_ifz_eq (tgt := 20) (pc := 8) dX10_placeIn_8 (by decide) (fun h6 => pw_iload_n (pc := 11) dX10_placeIn_11 2 rfl <|
pw_bipush (v := 60) (pc := 12) dX10_placeIn_12 (by decide) <|
pw_callS_rz (n := 2) (rest := []) (tX10_isUpTo K.2.1 G a2 (60 : Int32) m0) miX10_isUpTo mlX10_154 (pc := 14) dX10_placeIn_14 rfl rfl (by decide) (Nat.le_of_ble_eq_true rfl) fun y2 =>
pw_ifz_ne (tgt := 22) (pc := 17) dX10_placeIn_17 (by decide) (fun h4 => pw_aload_n (pc := 22) dX10_placeIn_22 0 rfl <|
pw_getR (o := 0) (k := 4) (t := 47) (pw_sh_0) cfX10 rfl (by decide) flX10_34 (pc := 23) dX10_placeIn_23 <|
pw_iload_n (pc := 26) dX10_placeIn_26 2 rfl <|
pw_callV_wa (n := 1) (rest := []) (tX9_townIn K.2.1 G a2 m0) (pw_sh_47) cfX9 rfl miX9_townIn mlX10_210 (pc := 27) dX10_placeIn_27 rfl rfl (by decide) (Nat.le_of_ble_eq_true rfl) fun m3 =>
pw_getR (o := 13) (k := 0) (t := (13 + 1)) (pw_shTown pw_t13) cfX7 rfl (by decide) flX10_109 (pc := 30) dX10_placeIn_30 <|
pw_iload_n (pc := 33) dX10_placeIn_33 1 rfl <|
pw_iald (pw_shTown0 pw_t13) (pc := 34) dX10_placeIn_34 <|
pw_iret (a := (m3 (13 + 1) (a1).toNatClampNeg)) (v := (m3 (13 + 1) (a1).toNatClampNeg, m3)) hH rfl (pc := 35) dX10_placeIn_35) (fun h5 => pw_iconst (v := -1) (pc := 20) dX10_placeIn_20 (by decide) <|
pw_iret (a := (-1 : Int32)) (v := ((-1 : Int32), m0)) hH rfl (pc := 21) dX10_placeIn_21)) (fun h7 => pw_iconst (v := -1) (pc := 20) dX10_placeIn_20 (by decide) <|
pw_iret (a := (-1 : Int32)) (v := ((-1 : Int32), m0)) hH rfl (pc := 21) dX10_placeIn_21))
set_option maxHeartbeats 4000000 in
theorem tX10_snappedIn (l : Launch) (G : pw_G) (a1 : Int32) (m0 : pw_Mem) : PMet l G yX10_snappedIn cX10_snappedIn 2 (some .int) 6 [.ref (pw_ad G 0), .int a1] m0 pw_Wi (fX10_snappedIn a1 m0) :=
  pw_met (own := RX10) (l0 := [(0, .ref (pw_ad G 0)), (1, .int a1)]) rfl (by decide) rfl (Nat.le_of_ble_eq_true rfl) fun K hK hH => by
  delta fX10_snappedIn
  exact (pw_iload_n (pc := 0) dX10_snappedIn_0 1 rfl <|
pw_bipush (v := 60) (pc := 1) dX10_snappedIn_1 (by decide) <|
pw_callS_rz (n := 2) (rest := []) (tX10_isUpTo K.2.1 G a1 (60 : Int32) m0) miX10_isUpTo mlX10_154 (pc := 3) dX10_snappedIn_3 rfl rfl (by decide) (Nat.le_of_ble_eq_true rfl) fun y1 =>
pw_ifz_eq (tgt := 23) (pc := 6) dX10_snappedIn_6 (by decide) (fun h3 => pw_aload_n (pc := 9) dX10_snappedIn_9 0 rfl <|
pw_getR (o := 0) (k := 4) (t := 47) (pw_sh_0) cfX10 rfl (by decide) flX10_34 (pc := 10) dX10_snappedIn_10 <|
pw_iload_n (pc := 13) dX10_snappedIn_13 1 rfl <|
pw_callV_wa (n := 1) (rest := []) (tX9_townIn K.2.1 G a1 m0) (pw_sh_47) cfX9 rfl miX9_townIn mlX10_210 (pc := 14) dX10_snappedIn_14 rfl rfl (by decide) (Nat.le_of_ble_eq_true rfl) fun m2 =>
pw_getI (o := 13) (k := 13) (pw_shTown pw_t13) cfX7 rfl (by decide) flX10_201 (pc := 17) dX10_snappedIn_17 <|
pw_goto (tgt := 24) (pc := 20) dX10_snappedIn_20 (by decide) <|
pw_iret (a := (m2 13 13)) (v := (m2 13 13, m2)) hH rfl (pc := 24) dX10_snappedIn_24) (fun h4 => pw_iconst (v := -1) (pc := 23) dX10_snappedIn_23 (by decide) <|
pw_iret (a := (-1 : Int32)) (v := ((-1 : Int32), m0)) hH rfl (pc := 24) dX10_snappedIn_24))
set_option maxHeartbeats 4000000 in
theorem tX10_still (l : Launch) (G : pw_G)  (m0 : pw_Mem) : PMet l G yX10_still cX10_still 1 (some .int) 5 [.ref (pw_ad G 0)] m0 pw_Wi (fX10_still m0) :=
  pw_met (own := RX10) (l0 := [(0, .ref (pw_ad G 0))]) rfl (by decide) rfl (Nat.le_of_ble_eq_true rfl) fun K hK hH => by
  delta fX10_still
  exact (pw_aload_n (pc := 0) dX10_still_0 0 rfl <|
pw_getR (o := 0) (k := 4) (t := 47) (pw_sh_0) cfX10 rfl (by decide) flX10_34 (pc := 1) dX10_still_1 <|
pw_callV_wi (n := 0) (rest := []) (tX9_yearsToStillness K.2.1 G m0) (pw_sh_47) cfX9 rfl miX9_yearsToStillness mlX10_214 (pc := 4) dX10_still_4 rfl rfl (by decide) (Nat.le_of_ble_eq_true rfl) fun y1 m2 =>
pw_iret (a := y1) (v := (y1, m2)) hH rfl (pc := 7) dX10_still_7)
set_option maxHeartbeats 4000000 in
theorem tX10_firstSnap (l : Launch) (G : pw_G) (a1 : Int32) (m0 : pw_Mem) : PMet l G yX10_firstSnap cX10_firstSnap 2 (some .int) 5 [.ref (pw_ad G 0), .int a1] m0 pw_Wi (fX10_firstSnap a1 m0) :=
  pw_met (own := RX10) (l0 := [(0, .ref (pw_ad G 0)), (1, .int a1)]) rfl (by decide) rfl (Nat.le_of_ble_eq_true rfl) fun K hK hH => by
  delta fX10_firstSnap
  exact (pw_iload_n (pc := 0) dX10_firstSnap_0 1 rfl <|
pw_iconst (v := 1) (pc := 1) dX10_firstSnap_1 (by decide) <|
pw_callS_rz (n := 2) (rest := []) (tX10_isUpTo K.2.1 G a1 (1 : Int32) m0) miX10_isUpTo mlX10_154 (pc := 2) dX10_firstSnap_2 rfl rfl (by decide) (Nat.le_of_ble_eq_true rfl) fun y1 =>
pw_ifz_eq (tgt := 27) (pc := 5) dX10_firstSnap_5 (by decide) (fun h8 => pw_aload_n (pc := 8) dX10_firstSnap_8 0 rfl <|
pw_getR (o := 0) (k := 4) (t := 47) (pw_sh_0) cfX10 rfl (by decide) flX10_34 (pc := 9) dX10_firstSnap_9 <|
pw_iload_n (pc := 12) dX10_firstSnap_12 1 rfl <|
pw_if_ne (a := a1) (b := 0) (tgt := 20) (pc := 13) dX10_firstSnap_13 (by decide) (fun h6 => pw_iconst (v := 0) (pc := 20) dX10_firstSnap_20 (by decide) <|
pw_callV_wi (n := 1) (rest := []) (tX9_firstToSnap K.2.1 G (0 : Int32) m0) (pw_sh_47) cfX9 rfl miX9_firstToSnap mlX10_217 (pc := 21) dX10_firstSnap_21 rfl rfl (by decide) (Nat.le_of_ble_eq_true rfl) fun y2 m3 =>
pw_goto (tgt := 28) (pc := 24) dX10_firstSnap_24 (by decide) <|
pw_iret (a := y2) (v := (y2, m3)) hH rfl (pc := 28) dX10_firstSnap_28) (fun h7 => pw_iconst (v := 1) (pc := 16) dX10_firstSnap_16 (by decide) <|
pw_goto (tgt := 21) (pc := 17) dX10_firstSnap_17 (by decide) <|
pw_callV_wi (n := 1) (rest := []) (tX9_firstToSnap K.2.1 G (1 : Int32) m0) (pw_sh_47) cfX9 rfl miX9_firstToSnap mlX10_217 (pc := 21) dX10_firstSnap_21 rfl rfl (by decide) (Nat.le_of_ble_eq_true rfl) fun y4 m5 =>
pw_goto (tgt := 28) (pc := 24) dX10_firstSnap_24 (by decide) <|
pw_iret (a := y4) (v := (y4, m5)) hH rfl (pc := 28) dX10_firstSnap_28)) (fun h9 => pw_iconst (v := -1) (pc := 27) dX10_firstSnap_27 (by decide) <|
pw_iret (a := (-1 : Int32)) (v := ((-1 : Int32), m0)) hH rfl (pc := 28) dX10_firstSnap_28))
set_option maxHeartbeats 4000000 in
theorem tX10_christmas (l : Launch) (G : pw_G) (a1 : Int32) (m0 : pw_Mem) : PMet l G yX10_christmas cX10_christmas 2 (some .int) 5 [.ref (pw_ad G 0), .int a1] m0 pw_Wi (fX10_christmas a1 m0) :=
  pw_met (own := RX10) (l0 := [(0, .ref (pw_ad G 0)), (1, .int a1)]) rfl (by decide) rfl (Nat.le_of_ble_eq_true rfl) fun K hK hH => by
  delta fX10_christmas
  exact (pw_iload_n (pc := 0) dX10_christmas_0 1 rfl <|
pw_if (fun h2 => pw_tIn (tgt := 28) (pc := 1) dX10_christmas_1 h2 (by decide) (by decide) rfl (by decide) <|
pw_aload_n (pc := 28) dX10_christmas_28 0 rfl <|
pw_getR (o := 0) (k := 3) (t := 37) (pw_sh_0) cfX10 rfl (by decide) flX10_27 (pc := 29) dX10_christmas_29 <|
pw_callV_ri (n := 0) (rest := []) (tX4_meetingPlace K.2.1 G m0) (pw_sh_37) cfX4 rfl miX4_meetingPlace mlX10_221 (pc := 32) dX10_christmas_32 rfl rfl (by decide) (Nat.le_of_ble_eq_true rfl) fun y1 =>
pw_iret (a := y1) (v := (y1, m0)) hH rfl (pc := 35) dX10_christmas_35) (fun h2 => pw_if (fun h5 => pw_tIn (tgt := 36) (pc := 1) dX10_christmas_1 h5 (by decide) (by decide) rfl (by decide) <|
pw_aload_n (pc := 36) dX10_christmas_36 0 rfl <|
pw_getR (o := 0) (k := 3) (t := 37) (pw_sh_0) cfX10 rfl (by decide) flX10_27 (pc := 37) dX10_christmas_37 <|
pw_aload_n (pc := 40) dX10_christmas_40 0 rfl <|
pw_getR (o := 0) (k := 3) (t := 37) (pw_sh_0) cfX10 rfl (by decide) flX10_27 (pc := 41) dX10_christmas_41 <|
pw_callV_ri (n := 0) (rest := [.ref (pw_ad G 37)]) (tX4_meetingPlace K.2.1 G m0) (pw_sh_37) cfX4 rfl miX4_meetingPlace mlX10_221 (pc := 44) dX10_christmas_44 rfl rfl (by decide) (Nat.le_of_ble_eq_true rfl) fun y3 =>
pw_callV_ri (n := 1) (rest := []) (tX4_farTo K.2.1 G y3 m0) (pw_sh_37) cfX4 rfl miX4_farTo mlX10_224 (pc := 47) dX10_christmas_47 rfl rfl (by decide) (Nat.le_of_ble_eq_true rfl) fun y4 =>
pw_iret (a := y4) (v := (y4, m0)) hH rfl (pc := 50) dX10_christmas_50) (fun h5 => pw_if (fun h8 => pw_tIn (tgt := 51) (pc := 1) dX10_christmas_1 h8 (by decide) (by decide) rfl (by decide) <|
pw_aload_n (pc := 51) dX10_christmas_51 0 rfl <|
pw_getR (o := 0) (k := 3) (t := 37) (pw_sh_0) cfX10 rfl (by decide) flX10_27 (pc := 52) dX10_christmas_52 <|
pw_callV_wi (n := 0) (rest := []) (tX4_snappedByMeeting K.2.1 G m0) (pw_sh_37) cfX4 rfl miX4_snappedByMeeting mlX10_227 (pc := 55) dX10_christmas_55 rfl rfl (by decide) (Nat.le_of_ble_eq_true rfl) fun y6 m7 =>
pw_iret (a := y6) (v := (y6, m7)) hH rfl (pc := 58) dX10_christmas_58) (fun h8 => pw_tOut (tgt := 59) (pc := 1) dX10_christmas_1 (by have q0 := lv_neT h2 (a := 0) rfl; have q1 := lv_neT h5 (a := 1) rfl; have q2 := lv_neT h8 (a := 2) rfl; omega) (by decide) <|
pw_iconst (v := -1) (pc := 59) dX10_christmas_59 (by decide) <|
pw_iret (a := (-1 : Int32)) (v := ((-1 : Int32), m0)) hH rfl (pc := 60) dX10_christmas_60))))
set_option maxHeartbeats 4000000 in
theorem tX10_order (l : Launch) (G : pw_G) (a1 : Int32) (m0 : pw_Mem) : PMet l G yX10_order cX10_order 2 (some .int) 5 [.ref (pw_ad G 0), .int a1] m0 pw_Wi (fX10_order a1 m0) :=
  pw_met (own := RX10) (l0 := [(0, .ref (pw_ad G 0)), (1, .int a1)]) rfl (by decide) rfl (Nat.le_of_ble_eq_true rfl) fun K hK hH => by
  delta fX10_order
  exact (pw_iload_n (pc := 0) dX10_order_0 1 rfl <|
pw_iconst (v := -1) (pc := 1) dX10_order_1 (by decide) <|
pw_icmp_lt  (tgt := 16) (pc := 2) dX10_order_2 (by decide) (fun h8 => pw_iconst (v := -1) (pc := 16) dX10_order_16 (by decide) <|
pw_iret (a := (-1 : Int32)) (v := ((-1 : Int32), m0)) hH rfl (pc := 17) dX10_order_17) (fun h9 => pw_iload_n (pc := 5) dX10_order_5 1 rfl <|
pw_aload_n (pc := 6) dX10_order_6 0 rfl <|
pw_getR (o := 0) (k := 0) (t := 1) (pw_sh_0) cfX10 rfl (by decide) flX10_10 (pc := 7) dX10_order_7 <|
pw_getI (o := 1) (k := 11) (pw_shTown pw_t1) cfX7 rfl (by decide) flX10_158 (pc := 10) dX10_order_10 <|
pw_icmp_lt  (tgt := 18) (pc := 13) dX10_order_13 (by decide) (fun h6 => pw_aload_n (pc := 18) dX10_order_18 0 rfl <|
pw_getR (o := 0) (k := 3) (t := 37) (pw_sh_0) cfX10 rfl (by decide) flX10_27 (pc := 19) dX10_order_19 <|
pw_callV_wv (n := 0) (rest := []) (tX4_weighOrders K.2.1 G m0) (pw_sh_37) cfX4 rfl miX4_weighOrders mlX10_230 (pc := 22) dX10_order_22 rfl rfl (by decide) (Nat.le_of_ble_eq_true rfl) fun m1 =>
pw_iload_n (pc := 25) dX10_order_25 1 rfl <|
pw_if_ge (a := a1) (b := 0) (tgt := 39) (pc := 26) dX10_order_26 (by decide) (fun h4 => pw_aload_n (pc := 39) dX10_order_39 0 rfl <|
pw_getR (o := 0) (k := 3) (t := 37) (pw_sh_0) cfX10 rfl (by decide) flX10_27 (pc := 40) dX10_order_40 <|
pw_iload_n (pc := 43) dX10_order_43 1 rfl <|
pw_callV_ri (n := 1) (rest := []) (tX4_inOrder K.2.1 G a1 m1) (pw_sh_37) cfX4 rfl miX4_inOrder mlX10_236 (pc := 44) dX10_order_44 rfl rfl (by decide) (Nat.le_of_ble_eq_true rfl) fun y2 =>
pw_iret (a := y2) (v := (y2, m1)) hH rfl (pc := 47) dX10_order_47) (fun h5 => pw_aload_n (pc := 29) dX10_order_29 0 rfl <|
pw_getR (o := 0) (k := 3) (t := 37) (pw_sh_0) cfX10 rfl (by decide) flX10_27 (pc := 30) dX10_order_30 <|
pw_callV_ri (n := 0) (rest := []) (tX4_fewestSnapped K.2.1 G m1) (pw_sh_37) cfX4 rfl miX4_fewestSnapped mlX10_233 (pc := 33) dX10_order_33 rfl rfl (by decide) (Nat.le_of_ble_eq_true rfl) fun y3 =>
pw_goto (tgt := 47) (pc := 36) dX10_order_36 (by decide) <|
pw_iret (a := y3) (v := (y3, m1)) hH rfl (pc := 47) dX10_order_47)) (fun h7 => pw_iconst (v := -1) (pc := 16) dX10_order_16 (by decide) <|
pw_iret (a := (-1 : Int32)) (v := ((-1 : Int32), m0)) hH rfl (pc := 17) dX10_order_17)))
set_option maxHeartbeats 4000000 in
theorem tX10_letGo (l : Launch) (G : pw_G) (a1 : Int32) (a2 : Int32) (m0 : pw_Mem) : PMet l G yX10_letGo cX10_letGo 3 (some .int) 3 [.ref (pw_ad G 0), .int a1, .int a2] m0 pw_Wi (fX10_letGo a1 a2 m0) :=
  pw_met (own := RX10) (l0 := [(0, .ref (pw_ad G 0)), (1, .int a1), (2, .int a2)]) rfl (by decide) rfl (Nat.le_of_ble_eq_true rfl) fun K hK hH => by
  delta fX10_letGo
  exact (pw_aload_n (pc := 0) dX10_letGo_0 0 rfl <|
pw_getR (o := 0) (k := 0) (t := 1) (pw_sh_0) cfX10 rfl (by decide) flX10_10 (pc := 1) dX10_letGo_1 <|
pw_iload_n (pc := 4) dX10_letGo_4 1 rfl <|
pw_callV_rz (n := 1) (rest := []) (tX7_isPerson K.2.1 G pw_t1 a1 m0) (pw_shTown pw_t1) cfX7 rfl miX7_isPerson mlX10_105 (pc := 5) dX10_letGo_5 rfl rfl (by decide) (Nat.le_of_ble_eq_true rfl) fun y1 =>
pw_ifz_eq (tgt := 20) (pc := 8) dX10_letGo_8 (by decide) (fun h7 => pw_iload_n (pc := 11) dX10_letGo_11 2 rfl <|
pw_bipush (v := 30) (pc := 12) dX10_letGo_12 (by decide) <|
pw_callS_rz (n := 2) (rest := []) (tX10_isUpTo K.2.1 G a2 (30 : Int32) m0) miX10_isUpTo mlX10_154 (pc := 14) dX10_letGo_14 rfl rfl (by decide) (Nat.le_of_ble_eq_true rfl) fun y2 =>
pw_ifz_ne (tgt := 22) (pc := 17) dX10_letGo_17 (by decide) (fun h5 => pw_aload_n (pc := 22) dX10_letGo_22 0 rfl <|
pw_getR (o := 0) (k := 3) (t := 37) (pw_sh_0) cfX10 rfl (by decide) flX10_27 (pc := 23) dX10_letGo_23 <|
pw_iload_n (pc := 26) dX10_letGo_26 1 rfl <|
pw_iload_n (pc := 27) dX10_letGo_27 2 rfl <|
pw_callV_wi (n := 2) (rest := []) (tX4_snappedByGoing K.2.1 G a1 a2 m0) (pw_sh_37) cfX4 rfl miX4_snappedByGoing mlX10_239 (pc := 28) dX10_letGo_28 rfl rfl (by decide) (Nat.le_of_ble_eq_true rfl) fun y3 m4 =>
pw_iret (a := y3) (v := (y3, m4)) hH rfl (pc := 31) dX10_letGo_31) (fun h6 => pw_iconst (v := -1) (pc := 20) dX10_letGo_20 (by decide) <|
pw_iret (a := (-1 : Int32)) (v := ((-1 : Int32), m0)) hH rfl (pc := 21) dX10_letGo_21)) (fun h8 => pw_iconst (v := -1) (pc := 20) dX10_letGo_20 (by decide) <|
pw_iret (a := (-1 : Int32)) (v := ((-1 : Int32), m0)) hH rfl (pc := 21) dX10_letGo_21))
set_option maxHeartbeats 4000000 in
theorem tX10_crossing (l : Launch) (G : pw_G) (a1 : Int32) (m0 : pw_Mem) : PMet l G yX10_crossing cX10_crossing 2 (some .int) 5 [.ref (pw_ad G 0), .int a1] m0 pw_Wi (fX10_crossing a1 m0) :=
  pw_met (own := RX10) (l0 := [(0, .ref (pw_ad G 0)), (1, .int a1)]) rfl (by decide) rfl (Nat.le_of_ble_eq_true rfl) fun K hK hH => by
  delta fX10_crossing
  exact (pw_iload_n (pc := 0) dX10_crossing_0 1 rfl <|
pw_if (fun h3 => pw_lk (off := 27) (tgt := 28) (pc := 1) dX10_crossing_1 (by decide) (by rw [h3] <;> rfl) (by decide) <|
pw_aload_n (pc := 28) dX10_crossing_28 0 rfl <|
pw_getR (o := 0) (k := 5) (t := 48) (pw_sh_0) cfX10 rfl (by decide) flX10_43 (pc := 29) dX10_crossing_29 <|
pw_callV_wi (n := 0) (rest := []) (tX6_howMany K.2.1 G m0) (pw_sh_48) cfX6 rfl miX6_howMany mlX10_242 (pc := 32) dX10_crossing_32 rfl rfl (by decide) (Nat.le_of_ble_eq_true rfl) fun y1 m2 =>
pw_iret (a := y1) (v := (y1, m2)) hH rfl (pc := 35) dX10_crossing_35) (fun h3 => pw_if (fun h6 => pw_lk (off := 35) (tgt := 36) (pc := 1) dX10_crossing_1 (by decide) (by rw [h6] <;> rfl) (by decide) <|
pw_aload_n (pc := 36) dX10_crossing_36 0 rfl <|
pw_getR (o := 0) (k := 5) (t := 48) (pw_sh_0) cfX10 rfl (by decide) flX10_43 (pc := 37) dX10_crossing_37 <|
pw_callV_wi (n := 0) (rest := []) (tX6_firstTwo K.2.1 G m0) (pw_sh_48) cfX6 rfl miX6_firstTwo mlX10_245 (pc := 40) dX10_crossing_40 rfl rfl (by decide) (Nat.le_of_ble_eq_true rfl) fun y4 m5 =>
pw_iret (a := y4) (v := (y4, m5)) hH rfl (pc := 43) dX10_crossing_43) (fun h6 => pw_lk (off := 43) (tgt := 44) (pc := 1) dX10_crossing_1 (by decide) ((lv_osw h3 (a := 0) rfl).trans ((lv_osw h6 (a := 1) rfl).trans rfl)) (by decide) <|
pw_iconst (v := -1) (pc := 44) dX10_crossing_44 (by decide) <|
pw_iret (a := (-1 : Int32)) (v := ((-1 : Int32), m0)) hH rfl (pc := 45) dX10_crossing_45)))
set_option maxHeartbeats 4000000 in
theorem tX10_untangle (l : Launch) (G : pw_G)  (m0 : pw_Mem) : PMet l G yX10_untangle cX10_untangle 1 (some .int) 5 [.ref (pw_ad G 0)] m0 pw_Wi (fX10_untangle m0) :=
  pw_met (own := RX10) (l0 := [(0, .ref (pw_ad G 0))]) rfl (by decide) rfl (Nat.le_of_ble_eq_true rfl) fun K hK hH => by
  delta fX10_untangle
  exact (pw_aload_n (pc := 0) dX10_untangle_0 0 rfl <|
pw_getR (o := 0) (k := 5) (t := 48) (pw_sh_0) cfX10 rfl (by decide) flX10_43 (pc := 1) dX10_untangle_1 <|
pw_callV_wi (n := 0) (rest := []) (tX6_fewestInTheWay K.2.1 G m0) (pw_sh_48) cfX6 rfl miX6_fewestInTheWay mlX10_248 (pc := 4) dX10_untangle_4 rfl rfl (by decide) (Nat.le_of_ble_eq_true rfl) fun y1 m2 =>
pw_iret (a := y1) (v := (y1, m2)) hH rfl (pc := 7) dX10_untangle_7)
set_option maxHeartbeats 4000000 in
theorem tX10_clans (l : Launch) (G : pw_G) (a1 : Int32) (m0 : pw_Mem) : PMet l G yX10_clans cX10_clans 2 (some .int) 3 [.ref (pw_ad G 0), .int a1] m0 (pw_Ri m0) (fX10_clans a1 m0) :=
  pw_met (own := RX10) (l0 := [(0, .ref (pw_ad G 0)), (1, .int a1)]) rfl (by decide) rfl (Nat.le_of_ble_eq_true rfl) fun K hK hH => by
  delta fX10_clans
  exact (pw_iload_n (pc := 0) dX10_clans_0 1 rfl <|
pw_if (fun h2 => pw_lk (off := 27) (tgt := 28) (pc := 1) dX10_clans_1 (by decide) (by rw [h2] <;> rfl) (by decide) <|
pw_aload_n (pc := 28) dX10_clans_28 0 rfl <|
pw_getR (o := 0) (k := 6) (t := 50) (pw_sh_0) cfX10 rfl (by decide) flX10_50 (pc := 29) dX10_clans_29 <|
pw_callV_ri (n := 0) (rest := []) (tX0_howMany K.2.1 G m0) (pw_sh_50) cfX0 rfl miX0_howMany mlX10_251 (pc := 32) dX10_clans_32 rfl rfl (by decide) (Nat.le_of_ble_eq_true rfl) fun y1 =>
pw_iret (a := y1) (v := y1) hH rfl (pc := 35) dX10_clans_35) (fun h2 => pw_if (fun h4 => pw_lk (off := 35) (tgt := 36) (pc := 1) dX10_clans_1 (by decide) (by rw [h4] <;> rfl) (by decide) <|
pw_aload_n (pc := 36) dX10_clans_36 0 rfl <|
pw_getR (o := 0) (k := 6) (t := 50) (pw_sh_0) cfX10 rfl (by decide) flX10_50 (pc := 37) dX10_clans_37 <|
pw_callV_ri (n := 0) (rest := []) (tX0_greatest K.2.1 G m0) (pw_sh_50) cfX0 rfl miX0_greatest mlX10_252 (pc := 40) dX10_clans_40 rfl rfl (by decide) (Nat.le_of_ble_eq_true rfl) fun y3 =>
pw_iret (a := y3) (v := y3) hH rfl (pc := 43) dX10_clans_43) (fun h4 => pw_lk (off := 43) (tgt := 44) (pc := 1) dX10_clans_1 (by decide) ((lv_osw h2 (a := 0) rfl).trans ((lv_osw h4 (a := 1) rfl).trans rfl)) (by decide) <|
pw_iconst (v := -1) (pc := 44) dX10_clans_44 (by decide) <|
pw_iret (a := (-1 : Int32)) (v := (-1 : Int32)) hH rfl (pc := 45) dX10_clans_45)))
set_option maxHeartbeats 4000000 in
theorem tX10_cousins (l : Launch) (G : pw_G) (a1 : Int32) (a2 : Int32) (m0 : pw_Mem) : PMet l G yX10_cousins cX10_cousins 3 (some .int) 2 [.ref (pw_ad G 0), .int a1, .int a2] m0 (pw_Ri m0) (fX10_cousins a1 a2 m0) :=
  pw_met (own := RX10) (l0 := [(0, .ref (pw_ad G 0)), (1, .int a1), (2, .int a2)]) rfl (by decide) rfl (Nat.le_of_ble_eq_true rfl) fun K hK hH => by
  delta fX10_cousins
  exact (pw_aload_n (pc := 0) dX10_cousins_0 0 rfl <|
pw_getR (o := 0) (k := 0) (t := 1) (pw_sh_0) cfX10 rfl (by decide) flX10_10 (pc := 1) dX10_cousins_1 <|
pw_iload_n (pc := 4) dX10_cousins_4 1 rfl <|
pw_iload_n (pc := 5) dX10_cousins_5 2 rfl <|
pw_callV_rz (n := 2) (rest := []) (tX7_areTwo K.2.1 G pw_t1 a1 a2 m0) (pw_shTown pw_t1) cfX7 rfl miX7_areTwo mlX10_167 (pc := 6) dX10_cousins_6 rfl rfl (by decide) (Nat.le_of_ble_eq_true rfl) fun y1 =>
pw_ifz_eq (tgt := 24) (pc := 9) dX10_cousins_9 (by decide) (fun h3 => pw_aload_n (pc := 12) dX10_cousins_12 0 rfl <|
pw_getR (o := 0) (k := 6) (t := 50) (pw_sh_0) cfX10 rfl (by decide) flX10_50 (pc := 13) dX10_cousins_13 <|
pw_iload_n (pc := 16) dX10_cousins_16 1 rfl <|
pw_iload_n (pc := 17) dX10_cousins_17 2 rfl <|
pw_callV_ri (n := 2) (rest := []) (tX0_bandsBetween K.2.1 G a1 a2 m0) (pw_sh_50) cfX0 rfl miX0_bandsBetween mlX10_255 (pc := 18) dX10_cousins_18 rfl rfl (by decide) (Nat.le_of_ble_eq_true rfl) fun y2 =>
pw_goto (tgt := 25) (pc := 21) dX10_cousins_21 (by decide) <|
pw_iret (a := y2) (v := y2) hH rfl (pc := 25) dX10_cousins_25) (fun h4 => pw_iconst (v := -1) (pc := 24) dX10_cousins_24 (by decide) <|
pw_iret (a := (-1 : Int32)) (v := (-1 : Int32)) hH rfl (pc := 25) dX10_cousins_25))
set_option maxHeartbeats 4000000 in
theorem tX10_bridges (l : Launch) (G : pw_G)  (m0 : pw_Mem) : PMet l G yX10_bridges cX10_bridges 1 (some .int) 3 [.ref (pw_ad G 0)] m0 (pw_Ri m0) (fX10_bridges m0) :=
  pw_met (own := RX10) (l0 := [(0, .ref (pw_ad G 0))]) rfl (by decide) rfl (Nat.le_of_ble_eq_true rfl) fun K hK hH => by
  delta fX10_bridges
  exact (pw_aload_n (pc := 0) dX10_bridges_0 0 rfl <|
pw_getR (o := 0) (k := 6) (t := 50) (pw_sh_0) cfX10 rfl (by decide) flX10_50 (pc := 1) dX10_bridges_1 <|
pw_callV_ri (n := 0) (rest := []) (tX0_dividing K.2.1 G m0) (pw_sh_50) cfX0 rfl miX0_dividing mlX10_258 (pc := 4) dX10_bridges_4 rfl rfl (by decide) (Nat.le_of_ble_eq_true rfl) fun y1 =>
pw_iret (a := y1) (v := y1) hH rfl (pc := 7) dX10_bridges_7)
set_option maxHeartbeats 4000000 in
theorem tX10_renew (l : Launch) (G : pw_G) (a1 : Int32) (a2 : Int32) (m0 : pw_Mem) : PMet l G yX10_renew cX10_renew 4 (some .int) 2 [.ref (pw_ad G 0), .int a1, .int a2] m0 pw_Wi (fX10_renew a1 a2 m0) :=
  pw_met (own := RX10) (l0 := [(0, .ref (pw_ad G 0)), (1, .int a1), (2, .int a2)]) rfl (by decide) rfl (Nat.le_of_ble_eq_true rfl) fun K hK hH => by
  delta fX10_renew
  exact (pw_iload_n (pc := 0) dX10_renew_0 1 rfl <|
pw_iconst (v := 4) (pc := 1) dX10_renew_1 (by decide) <|
pw_callS_rz (n := 2) (rest := []) (tX10_isUpTo K.2.1 G a1 (4 : Int32) m0) miX10_isUpTo mlX10_154 (pc := 2) dX10_renew_2 rfl rfl (by decide) (Nat.le_of_ble_eq_true rfl) fun y1 =>
pw_ifz_eq (tgt := 16) (pc := 5) dX10_renew_5 (by decide) (fun h10 => pw_iload_n (pc := 8) dX10_renew_8 2 rfl <|
pw_iconst (v := 1) (pc := 9) dX10_renew_9 (by decide) <|
pw_callS_rz (n := 2) (rest := []) (tX10_isUpTo K.2.1 G a2 (1 : Int32) m0) miX10_isUpTo mlX10_154 (pc := 10) dX10_renew_10 rfl rfl (by decide) (Nat.le_of_ble_eq_true rfl) fun y2 =>
pw_ifz_ne (tgt := 18) (pc := 13) dX10_renew_13 (by decide) (fun h8 => pw_aload_n (pc := 18) dX10_renew_18 0 rfl <|
pw_getR (o := 0) (k := 7) (t := 51) (pw_sh_0) cfX10 rfl (by decide) flX10_57 (pc := 19) dX10_renew_19 <|
pw_iload_n (pc := 22) dX10_renew_22 1 rfl <|
pw_callV_wi (n := 1) (rest := []) (tX2_bestRenewed K.2.1 G a1 m0) (pw_sh_51) cfX2 rfl miX2_bestRenewed mlX10_261 (pc := 23) dX10_renew_23 rfl rfl (by decide) (Nat.le_of_ble_eq_true rfl) fun y3 m4 =>
pw_istore_n [(3, .int y3), (0, .ref (pw_ad G 0)), (1, .int a1), (2, .int a2)] (pc := 26) dX10_renew_26 (by decide) rfl <|
pw_iload_n (pc := 27) dX10_renew_27 3 rfl <|
pw_if_ne (a := a2) (b := 0) (tgt := 35) (pc := 28) dX10_renew_28 (by decide) (fun h6 => pw_aload_n (pc := 35) dX10_renew_35 1 rfl <|
pw_getR (o := 0) (k := 7) (t := 51) (pw_sh_0) cfX10 rfl (by decide) flX10_57 (pc := 36) dX10_renew_36 <|
pw_iload_n (pc := 39) dX10_renew_39 0 rfl <|
pw_callV_ri (n := 1) (rest := []) (tX2_spareWith K.2.1 G y3 m4) (pw_sh_51) cfX2 rfl miX2_spareWith mlX10_264 (pc := 40) dX10_renew_40 rfl rfl (by decide) (Nat.le_of_ble_eq_true rfl) fun y5 =>
pw_iret (a := y5) (v := (y5, m4)) hH rfl (pc := 43) dX10_renew_43) (fun h7 => pw_iload_n (pc := 31) dX10_renew_31 0 rfl <|
pw_goto (tgt := 43) (pc := 32) dX10_renew_32 (by decide) <|
pw_iret (a := y3) (v := (y3, m4)) hH rfl (pc := 43) dX10_renew_43)) (fun h9 => pw_iconst (v := -1) (pc := 16) dX10_renew_16 (by decide) <|
pw_iret (a := (-1 : Int32)) (v := ((-1 : Int32), m0)) hH rfl (pc := 17) dX10_renew_17)) (fun h11 => pw_iconst (v := -1) (pc := 16) dX10_renew_16 (by decide) <|
pw_iret (a := (-1 : Int32)) (v := ((-1 : Int32), m0)) hH rfl (pc := 17) dX10_renew_17))
set_option maxHeartbeats 4000000 in
theorem tX10_frost (l : Launch) (G : pw_G) (a1 : Int32) (m0 : pw_Mem) : PMet l G yX10_frost cX10_frost 2 (some .int) 3 [.ref (pw_ad G 0), .int a1] m0 (pw_Ri m0) (fX10_frost a1 m0) :=
  pw_met (own := RX10) (l0 := [(0, .ref (pw_ad G 0)), (1, .int a1)]) rfl (by decide) rfl (Nat.le_of_ble_eq_true rfl) fun K hK hH => by
  delta fX10_frost
  exact (pw_iload_n (pc := 0) dX10_frost_0 1 rfl <|
pw_iconst (v := 1) (pc := 1) dX10_frost_1 (by decide) <|
pw_callS_rz (n := 2) (rest := []) (tX10_isUpTo K.2.1 G a1 (1 : Int32) m0) miX10_isUpTo mlX10_154 (pc := 2) dX10_frost_2 rfl rfl (by decide) (Nat.le_of_ble_eq_true rfl) fun y1 =>
pw_ifz_eq (tgt := 27) (pc := 5) dX10_frost_5 (by decide) (fun h6 => pw_aload_n (pc := 8) dX10_frost_8 0 rfl <|
pw_getR (o := 0) (k := 7) (t := 51) (pw_sh_0) cfX10 rfl (by decide) flX10_57 (pc := 9) dX10_frost_9 <|
pw_iload_n (pc := 12) dX10_frost_12 1 rfl <|
pw_if_ne (a := a1) (b := 0) (tgt := 20) (pc := 13) dX10_frost_13 (by decide) (fun h4 => pw_iconst (v := 0) (pc := 20) dX10_frost_20 (by decide) <|
pw_callV_ri (n := 1) (rest := []) (tX2_firstFrost K.2.1 G (0 : Int32) m0) (pw_sh_51) cfX2 rfl miX2_firstFrost mlX10_267 (pc := 21) dX10_frost_21 rfl rfl (by decide) (Nat.le_of_ble_eq_true rfl) fun y2 =>
pw_goto (tgt := 28) (pc := 24) dX10_frost_24 (by decide) <|
pw_iret (a := y2) (v := y2) hH rfl (pc := 28) dX10_frost_28) (fun h5 => pw_iconst (v := 1) (pc := 16) dX10_frost_16 (by decide) <|
pw_goto (tgt := 21) (pc := 17) dX10_frost_17 (by decide) <|
pw_callV_ri (n := 1) (rest := []) (tX2_firstFrost K.2.1 G (1 : Int32) m0) (pw_sh_51) cfX2 rfl miX2_firstFrost mlX10_267 (pc := 21) dX10_frost_21 rfl rfl (by decide) (Nat.le_of_ble_eq_true rfl) fun y3 =>
pw_goto (tgt := 28) (pc := 24) dX10_frost_24 (by decide) <|
pw_iret (a := y3) (v := y3) hH rfl (pc := 28) dX10_frost_28)) (fun h7 => pw_iconst (v := -1) (pc := 27) dX10_frost_27 (by decide) <|
pw_iret (a := (-1 : Int32)) (v := (-1 : Int32)) hH rfl (pc := 28) dX10_frost_28))
set_option maxHeartbeats 4000000 in
theorem tX10_lurch (l : Launch) (G : pw_G) (a1 : Int32) (a2 : Int32) (m0 : pw_Mem) : PMet l G yX10_lurch cX10_lurch 5 (some .int) 5 [.ref (pw_ad G 0), .int a1, .int a2] m0 pw_Wi (fX10_lurch a1 a2 m0) :=
  pw_met (own := RX10) (l0 := [(0, .ref (pw_ad G 0)), (1, .int a1), (2, .int a2)]) rfl (by decide) rfl (Nat.le_of_ble_eq_true rfl) fun K hK hH => by
  delta fX10_lurch
  exact (pw_iload_n (pc := 0) dX10_lurch_0 1 rfl <|
pw_callS_rz (n := 1) (rest := []) (tX10_isShelf K.2.1 G a1 m0) miX10_isShelf mlX10_164 (pc := 1) dX10_lurch_1 rfl rfl (by decide) (Nat.le_of_ble_eq_true rfl) fun y1 =>
pw_ifz_eq (tgt := 15) (pc := 4) dX10_lurch_4 (by decide) (fun h17 => pw_iload_n (pc := 7) dX10_lurch_7 2 rfl <|
pw_iconst (v := 1) (pc := 8) dX10_lurch_8 (by decide) <|
pw_callS_rz (n := 2) (rest := []) (tX10_isUpTo K.2.1 G a2 (1 : Int32) m0) miX10_isUpTo mlX10_154 (pc := 9) dX10_lurch_9 rfl rfl (by decide) (Nat.le_of_ble_eq_true rfl) fun y2 =>
pw_ifz_ne (tgt := 17) (pc := 12) dX10_lurch_12 (by decide) (fun h15 => pw_aload_n (pc := 17) dX10_lurch_17 0 rfl <|
pw_iload_n (pc := 18) dX10_lurch_18 1 rfl <|
pw_callV_ri (n := 1) (rest := []) (tX10_rowRefusal K.2.1 G a1 m0) (pw_sh_0) cfX10 rfl miX10_rowRefusal mlX10_75 (pc := 19) dX10_lurch_19 rfl rfl (by decide) (Nat.le_of_ble_eq_true rfl) fun y3 =>
pw_istore_n [(3, .int y3), (0, .ref (pw_ad G 0)), (1, .int a1), (2, .int a2)] (pc := 22) dX10_lurch_22 (by decide) rfl <|
pw_iload_n (pc := 23) dX10_lurch_23 0 rfl <|
pw_if_eq (a := y3) (b := 0) (tgt := 29) (pc := 24) dX10_lurch_24 (by decide) (fun h13 => pw_aload_n (pc := 29) dX10_lurch_29 1 rfl <|
pw_getR (o := 0) (k := 9) (t := 54) (pw_sh_0) cfX10 rfl (by decide) flX10_70 (pc := 30) dX10_lurch_30 <|
pw_iload_n (pc := 33) dX10_lurch_33 2 rfl <|
pw_aaldS (pc := 34) dX10_lurch_34 fun hs4 =>
pw_getI (o := (55 + 2 * (a1).toNatClampNeg)) (k := 5) (pw_shShelf hs4) cfX5 rfl (by decide) flX10_92 (pc := 35) dX10_lurch_35 <|
pw_aload_n (pc := 38) dX10_lurch_38 1 rfl <|
pw_getR (o := 0) (k := 0) (t := 1) (pw_sh_0) cfX10 rfl (by decide) flX10_10 (pc := 39) dX10_lurch_39 <|
pw_getI (o := 1) (k := 11) (pw_shTown pw_t1) cfX7 rfl (by decide) flX10_158 (pc := 42) dX10_lurch_42 <|
pw_icmp_le  (tgt := 51) (pc := 45) dX10_lurch_45 (by decide) (fun h11 => pw_aload_n (pc := 51) dX10_lurch_51 1 rfl <|
pw_getR (o := 0) (k := 7) (t := 51) (pw_sh_0) cfX10 rfl (by decide) flX10_57 (pc := 52) dX10_lurch_52 <|
pw_aload_n (pc := 55) dX10_lurch_55 1 rfl <|
pw_getR (o := 0) (k := 9) (t := 54) (pw_sh_0) cfX10 rfl (by decide) flX10_70 (pc := 56) dX10_lurch_56 <|
pw_iload_n (pc := 59) dX10_lurch_59 2 rfl <|
pw_aaldS (pc := 60) dX10_lurch_60 fun hs5 =>
pw_callV_wi (n := 1) (rest := []) (tX2_goneBy K.2.1 G hs5 m0) (pw_sh_51) cfX2 rfl miX2_goneBy mlX10_270 (pc := 61) dX10_lurch_61 rfl rfl (by decide) (Nat.le_of_ble_eq_true rfl) fun y6 m7 =>
pw_istore [(4, .int y6), (3, .int y3), (0, .ref (pw_ad G 0)), (1, .int a1), (2, .int a2)] (pc := 64) dX10_lurch_64 (by decide) rfl <|
pw_iload_n (pc := 66) dX10_lurch_66 4 rfl <|
pw_if_ne (a := a2) (b := 0) (tgt := 75) (pc := 67) dX10_lurch_67 (by decide) (fun h9 => pw_iload (pc := 75) dX10_lurch_75 0 rfl <|
pw_callS_ri (n := 1) (rest := []) (tJ6_bitCount_0f7a4 K.2.1 G y6 m7) miJ6_bitCount_0f7a4 mlX10_273 (pc := 77) dX10_lurch_77 rfl rfl (by decide) (Nat.le_of_ble_eq_true rfl) fun y8 =>
pw_iret (a := y8) (v := (y8, m7)) hH rfl (pc := 80) dX10_lurch_80) (fun h10 => pw_iload (pc := 70) dX10_lurch_70 0 rfl <|
pw_goto (tgt := 80) (pc := 72) dX10_lurch_72 (by decide) <|
pw_iret (a := y6) (v := (y6, m7)) hH rfl (pc := 80) dX10_lurch_80)) (fun h12 => pw_bipush (v := -13) (pc := 48) dX10_lurch_48 (by decide) <|
pw_iret (a := (-13 : Int32)) (v := ((-13 : Int32), m0)) hH rfl (pc := 50) dX10_lurch_50)) (fun h14 => pw_iload_n (pc := 27) dX10_lurch_27 0 rfl <|
pw_iret (a := y3) (v := (y3, m0)) hH rfl (pc := 28) dX10_lurch_28)) (fun h16 => pw_iconst (v := -1) (pc := 15) dX10_lurch_15 (by decide) <|
pw_iret (a := (-1 : Int32)) (v := ((-1 : Int32), m0)) hH rfl (pc := 16) dX10_lurch_16)) (fun h18 => pw_iconst (v := -1) (pc := 15) dX10_lurch_15 (by decide) <|
pw_iret (a := (-1 : Int32)) (v := ((-1 : Int32), m0)) hH rfl (pc := 16) dX10_lurch_16))
set_option maxHeartbeats 4000000 in
theorem tX10_gauges (l : Launch) (G : pw_G) (a1 : Int32) (a2 : Int32) (a3 : Int32) (m0 : pw_Mem) : PMet l G yX10_gauges cX10_gauges 6 (some .int) 5 [.ref (pw_ad G 0), .int a1, .int a2, .int a3] m0 (pw_Ri m0) (fX10_gauges a1 a2 a3 m0) :=
  pw_met (own := RX10) (l0 := [(0, .ref (pw_ad G 0)), (1, .int a1), (2, .int a2), (3, .int a3)]) rfl (by decide) rfl (Nat.le_of_ble_eq_true rfl) fun K hK hH => by
  delta fX10_gauges
  exact (pw_iload_n (pc := 0) dX10_gauges_0 1 rfl <|
pw_callS_rz (n := 1) (rest := []) (tX10_isShelf K.2.1 G a1 m0) miX10_isShelf mlX10_164 (pc := 1) dX10_gauges_1 rfl rfl (by decide) (Nat.le_of_ble_eq_true rfl) fun y1 =>
pw_ifz_eq (tgt := 24) (pc := 4) dX10_gauges_4 (by decide) (fun h16 => pw_iload_n (pc := 7) dX10_gauges_7 2 rfl <|
pw_bipush (v := 9) (pc := 8) dX10_gauges_8 (by decide) <|
pw_callS_rz (n := 2) (rest := []) (tX10_isUpTo K.2.1 G a2 (9 : Int32) m0) miX10_isUpTo mlX10_154 (pc := 10) dX10_gauges_10 rfl rfl (by decide) (Nat.le_of_ble_eq_true rfl) fun y2 =>
pw_ifz_eq (tgt := 24) (pc := 13) dX10_gauges_13 (by decide) (fun h14 => pw_iload_n (pc := 16) dX10_gauges_16 3 rfl <|
pw_iconst (v := 1) (pc := 17) dX10_gauges_17 (by decide) <|
pw_callS_rz (n := 2) (rest := []) (tX10_isUpTo K.2.1 G a3 (1 : Int32) m0) miX10_isUpTo mlX10_154 (pc := 18) dX10_gauges_18 rfl rfl (by decide) (Nat.le_of_ble_eq_true rfl) fun y3 =>
pw_ifz_ne (tgt := 26) (pc := 21) dX10_gauges_21 (by decide) (fun h12 => pw_aload_n (pc := 26) dX10_gauges_26 0 rfl <|
pw_iload_n (pc := 27) dX10_gauges_27 1 rfl <|
pw_callV_ri (n := 1) (rest := []) (tX10_rowRefusal K.2.1 G a1 m0) (pw_sh_0) cfX10 rfl miX10_rowRefusal mlX10_75 (pc := 28) dX10_gauges_28 rfl rfl (by decide) (Nat.le_of_ble_eq_true rfl) fun y4 =>
pw_istore [(4, .int y4), (0, .ref (pw_ad G 0)), (1, .int a1), (2, .int a2), (3, .int a3)] (pc := 31) dX10_gauges_31 (by decide) rfl <|
pw_iload (pc := 33) dX10_gauges_33 0 rfl <|
pw_if_eq (a := y4) (b := 0) (tgt := 41) (pc := 35) dX10_gauges_35 (by decide) (fun h10 => pw_aload_n (pc := 41) dX10_gauges_41 1 rfl <|
pw_getR (o := 0) (k := 7) (t := 51) (pw_sh_0) cfX10 rfl (by decide) flX10_57 (pc := 42) dX10_gauges_42 <|
pw_aload_n (pc := 45) dX10_gauges_45 1 rfl <|
pw_getR (o := 0) (k := 9) (t := 54) (pw_sh_0) cfX10 rfl (by decide) flX10_70 (pc := 46) dX10_gauges_46 <|
pw_iload_n (pc := 49) dX10_gauges_49 2 rfl <|
pw_aaldS (pc := 50) dX10_gauges_50 fun hs5 =>
pw_iload_n (pc := 51) dX10_gauges_51 3 rfl <|
pw_callV_ri (n := 2) (rest := []) (tX2_kindsPullingAs K.2.1 G hs5 a2 m0) (pw_sh_51) cfX2 rfl miX2_kindsPullingAs mlX10_278 (pc := 52) dX10_gauges_52 rfl rfl (by decide) (Nat.le_of_ble_eq_true rfl) fun y6 =>
pw_istore [(5, .int y6), (4, .int y4), (0, .ref (pw_ad G 0)), (1, .int a1), (2, .int a2), (3, .int a3)] (pc := 55) dX10_gauges_55 (by decide) rfl <|
pw_iload_n (pc := 57) dX10_gauges_57 5 rfl <|
pw_if_ne (a := a3) (b := 0) (tgt := 66) (pc := 58) dX10_gauges_58 (by decide) (fun h8 => pw_iload (pc := 66) dX10_gauges_66 0 rfl <|
pw_callS_ri (n := 1) (rest := []) (tJ6_bitCount_0f7a4 K.2.1 G y6 m0) miJ6_bitCount_0f7a4 mlX10_273 (pc := 68) dX10_gauges_68 rfl rfl (by decide) (Nat.le_of_ble_eq_true rfl) fun y7 =>
pw_iret (a := y7) (v := y7) hH rfl (pc := 71) dX10_gauges_71) (fun h9 => pw_iload (pc := 61) dX10_gauges_61 0 rfl <|
pw_goto (tgt := 71) (pc := 63) dX10_gauges_63 (by decide) <|
pw_iret (a := y6) (v := y6) hH rfl (pc := 71) dX10_gauges_71)) (fun h11 => pw_iload (pc := 38) dX10_gauges_38 0 rfl <|
pw_iret (a := y4) (v := y4) hH rfl (pc := 40) dX10_gauges_40)) (fun h13 => pw_iconst (v := -1) (pc := 24) dX10_gauges_24 (by decide) <|
pw_iret (a := (-1 : Int32)) (v := (-1 : Int32)) hH rfl (pc := 25) dX10_gauges_25)) (fun h15 => pw_iconst (v := -1) (pc := 24) dX10_gauges_24 (by decide) <|
pw_iret (a := (-1 : Int32)) (v := (-1 : Int32)) hH rfl (pc := 25) dX10_gauges_25)) (fun h17 => pw_iconst (v := -1) (pc := 24) dX10_gauges_24 (by decide) <|
pw_iret (a := (-1 : Int32)) (v := (-1 : Int32)) hH rfl (pc := 25) dX10_gauges_25))
set_option maxHeartbeats 4000000 in
theorem tX10_two (l : Launch) (G : pw_G) (a1 : Int32) (a2 : Int32) (m0 : pw_Mem) : PMet l G yX10_two cX10_two 3 (some .int) 7 [.ref (pw_ad G 0), .int a1, .int a2] m0 (pw_Ri m0) (fX10_two a1 a2 m0) :=
  pw_met (own := RX10) (l0 := [(0, .ref (pw_ad G 0)), (1, .int a1), (2, .int a2)]) rfl (by decide) rfl (Nat.le_of_ble_eq_true rfl) fun K hK hH => by
  delta fX10_two
  exact (pw_aload_n (pc := 0) dX10_two_0 0 rfl <|
pw_getR (o := 0) (k := 0) (t := 1) (pw_sh_0) cfX10 rfl (by decide) flX10_10 (pc := 1) dX10_two_1 <|
pw_iload_n (pc := 4) dX10_two_4 1 rfl <|
pw_iload_n (pc := 5) dX10_two_5 2 rfl <|
pw_callV_rz (n := 2) (rest := []) (tX7_areTwo K.2.1 G pw_t1 a1 a2 m0) (pw_shTown pw_t1) cfX7 rfl miX7_areTwo mlX10_167 (pc := 6) dX10_two_6 rfl rfl (by decide) (Nat.le_of_ble_eq_true rfl) fun y1 =>
pw_ifz_ne (tgt := 14) (pc := 9) dX10_two_9 (by decide) (fun h5 => pw_aload_n (pc := 14) dX10_two_14 0 rfl <|
pw_getR (o := 0) (k := 0) (t := 1) (pw_sh_0) cfX10 rfl (by decide) flX10_10 (pc := 15) dX10_two_15 <|
pw_getR (o := 1) (k := 0) (t := (1 + 1)) (pw_shTown pw_t1) cfX7 rfl (by decide) flX10_109 (pc := 18) dX10_two_18 <|
pw_iload_n (pc := 21) dX10_two_21 1 rfl <|
pw_iald (pw_shTown0 pw_t1) (pc := 22) dX10_two_22 <|
pw_aload_n (pc := 23) dX10_two_23 0 rfl <|
pw_getR (o := 0) (k := 0) (t := 1) (pw_sh_0) cfX10 rfl (by decide) flX10_10 (pc := 24) dX10_two_24 <|
pw_getR (o := 1) (k := 0) (t := (1 + 1)) (pw_shTown pw_t1) cfX7 rfl (by decide) flX10_109 (pc := 27) dX10_two_27 <|
pw_iload_n (pc := 30) dX10_two_30 2 rfl <|
pw_iald (pw_shTown0 pw_t1) (pc := 31) dX10_two_31 <|
pw_icmp_ne  (tgt := 38) (pc := 32) dX10_two_32 (by decide) (fun h3 => pw_aload_n (pc := 38) dX10_two_38 0 rfl <|
pw_getR (o := 0) (k := 7) (t := 51) (pw_sh_0) cfX10 rfl (by decide) flX10_57 (pc := 39) dX10_two_39 <|
pw_iload_n (pc := 42) dX10_two_42 1 rfl <|
pw_iload_n (pc := 43) dX10_two_43 2 rfl <|
pw_callV_ri (n := 2) (rest := []) (tX2_restingChoices K.2.1 G a1 a2 m0) (pw_sh_51) cfX2 rfl miX2_restingChoices mlX10_282 (pc := 44) dX10_two_44 rfl rfl (by decide) (Nat.le_of_ble_eq_true rfl) fun y2 =>
pw_iret (a := y2) (v := y2) hH rfl (pc := 47) dX10_two_47) (fun h4 => pw_bipush (v := -3) (pc := 35) dX10_two_35 (by decide) <|
pw_iret (a := (-3 : Int32)) (v := (-3 : Int32)) hH rfl (pc := 37) dX10_two_37)) (fun h6 => pw_iconst (v := -1) (pc := 12) dX10_two_12 (by decide) <|
pw_iret (a := (-1 : Int32)) (v := (-1 : Int32)) hH rfl (pc := 13) dX10_two_13))
set_option maxHeartbeats 4000000 in
theorem tX10_partOfFraction (l : Launch) (G : pw_G) (a1 : Int64) (a2 : Int64) (a3 : Int32) (m0 : pw_Mem) : PMet l G yX10_partOfFraction cX10_partOfFraction 12 (some .long) 0 [.long a1, .long a2, .int a3] m0 (pw_Rl m0) (fX10_partOfFraction a1 a2 a3 m0) :=
  pw_met (own := RX10) (l0 := [(0, .long a1), (2, .long a2), (4, .int a3)]) rfl (by decide) rfl (Nat.le_of_ble_eq_true rfl) fun K hK hH => by
  delta fX10_partOfFraction
  exact (pw_lload_n (pc := 0) dX10_partOfFraction_0 1 rfl <|
pw_lstore [(5, .long a2), (0, .long a1), (2, .long a2), (4, .int a3)] (pc := 1) dX10_partOfFraction_1 (by decide) rfl <|
pw_lload_n (pc := 3) dX10_partOfFraction_3 1 rfl <|
pw_lstore [(7, .long a1), (5, .long a2), (0, .long a1), (2, .long a2), (4, .int a3)] (pc := 4) dX10_partOfFraction_4 (by decide) rfl <|
pw_iconst (v := 0) (pc := 6) dX10_partOfFraction_6 (by decide) <|
pw_istore [(9, .int (0 : Int32)), (7, .long a1), (5, .long a2), (0, .long a1), (2, .long a2), (4, .int a3)] (pc := 7) dX10_partOfFraction_7 (by decide) rfl <|
pw_lp (fun (kk23 : Int64 → Int64 → Int32 → Option Int64) => ∀ (v1 : Int64) (v2 : Int64) (v3 : Int32), PW K G RX10 cX10_partOfFraction 12 (some .long) 0 (pw_MQ K G (pw_Rl m0)) (kk23 v1 v2 v3) 9 [(9, .int v3), (7, .long v2), (5, .long v1), (0, .long a1), (2, .long a2), (4, .int a3)] [] m0) (fun _ _ _ => pw_none) (fun nx4 hn5 v1 v2 v3 => pw_iload (pc := 9) dX10_partOfFraction_9 0 rfl <|
pw_bipush (v := 100) (pc := 11) dX10_partOfFraction_11 (by decide) <|
pw_jn (fun (k14 : Option Int64) => PW K G RX10 cX10_partOfFraction 12 (some .long) 0 (pw_MQ K G (pw_Rl m0)) k14 44 [(5, .long v1), (0, .long a1), (2, .long a2), (4, .int a3)] [] m0) (pw_iload (pc := 44) dX10_partOfFraction_44 3 rfl <|
pw_jn (fun (k10 : Int64 → Option Int64) => ∀ (w6 : Int64), PW K G RX10 cX10_partOfFraction 12 (some .long) 0 (pw_MQ K G (pw_Rl m0)) (k10 w6) 54 [(5, .long v1)] [.long w6] m0) (fun w6 => pw_lstore [(9, .long w6), (5, .long v1)] (pc := 54) dX10_partOfFraction_54 (by decide) rfl <|
pw_lload (pc := 56) dX10_partOfFraction_56 1 rfl <|
pw_lconst (v := 0) (pc := 58) dX10_partOfFraction_58 rfl <|
pw_lcmp (pc := 59) dX10_partOfFraction_59 <|
pw_if_le (a := (lg_cmp v1 (0 : Int64))) (b := 0) (tgt := 71) (pc := 60) dX10_partOfFraction_60 (by decide) (fun h8 => pw_lload (pc := 71) dX10_partOfFraction_71 0 rfl <|
pw_lret hH rfl (pc := 73) dX10_partOfFraction_73) (fun h9 => pw_lload (pc := 63) dX10_partOfFraction_63 0 rfl <|
pw_lload (pc := 65) dX10_partOfFraction_65 1 rfl <|
pw_gd fun h7 => pw_ldiv (pc := 67) dX10_partOfFraction_67 h7 <|
pw_goto (tgt := 73) (pc := 68) dX10_partOfFraction_68 (by decide) <|
pw_lret hH rfl (pc := 73) dX10_partOfFraction_73)) (fun k10 hk11 => pw_if_ne (a := a3) (b := 0) (tgt := 53) (pc := 46) dX10_partOfFraction_46 (by decide) (fun h12 => pw_lload_n (pc := 53) dX10_partOfFraction_53 2 rfl <|
pw_sub [0] rfl <| hk11 a2) (fun h13 => pw_lload_n (pc := 49) dX10_partOfFraction_49 1 rfl <|
pw_goto (tgt := 54) (pc := 50) dX10_partOfFraction_50 (by decide) <|
pw_sub [0] rfl <| hk11 a1))) (fun k14 hk15 => pw_icmp_ge  (tgt := 44) (pc := 13) dX10_partOfFraction_13 (by decide) (fun h21 => pw_sub [2, 3, 4, 5] rfl <| hk15) (fun h22 => pw_lload (pc := 16) dX10_partOfFraction_16 1 rfl <|
pw_lconst (v := 0) (pc := 18) dX10_partOfFraction_18 rfl <|
pw_lcmp (pc := 19) dX10_partOfFraction_19 <|
pw_if_eq (a := (lg_cmp v2 (0 : Int64))) (b := 0) (tgt := 44) (pc := 20) dX10_partOfFraction_20 (by decide) (fun h19 => pw_sub [2, 3, 4, 5] rfl <| hk15) (fun h20 => pw_lload (pc := 23) dX10_partOfFraction_23 2 rfl <|
pw_lload (pc := 25) dX10_partOfFraction_25 1 rfl <|
pw_gd fun h16 => pw_lrem (pc := 27) dX10_partOfFraction_27 h16 <|
pw_ltL fun x17 => pw_lstore [(10, .long x17), (9, .int v3), (7, .long v2), (5, .long v1), (0, .long a1), (2, .long a2), (4, .int a3)] (pc := 28) dX10_partOfFraction_28 (by decide) rfl <|
pw_lload (pc := 30) dX10_partOfFraction_30 2 rfl <|
pw_lstore [(5, .long v2), (10, .long x17), (9, .int v3), (7, .long v2), (0, .long a1), (2, .long a2), (4, .int a3)] (pc := 32) dX10_partOfFraction_32 (by decide) rfl <|
pw_lload (pc := 34) dX10_partOfFraction_34 1 rfl <|
pw_lstore [(7, .long x17), (5, .long v2), (10, .long x17), (9, .int v3), (0, .long a1), (2, .long a2), (4, .int a3)] (pc := 36) dX10_partOfFraction_36 (by decide) rfl <|
pw_ltA fun x18 hxx18 => pw_iinc (v := x18) [(9, .int x18), (7, .long x17), (5, .long v2), (10, .long x17), (0, .long a1), (2, .long a2), (4, .int a3)] (pc := 38) dX10_partOfFraction_38 3 rfl (by rw [hxx18]; rfl) (by decide) rfl <|
pw_goto (tgt := 9) (pc := 41) dX10_partOfFraction_41 (by decide) <|
pw_sub [0, 1, 2, 4, 5, 6] rfl <| hn5 v2 x17 x18)))) FU a2 a1 (0 : Int32))
set_option maxHeartbeats 4000000 in
theorem tX10_night (l : Launch) (G : pw_G) (a1 : Int32) (a2 : Int32) (a3 : Int32) (a4 : Int32) (m0 : pw_Mem) : PMet l G yX10_night cX10_night 5 (some .long) 16 [.ref (pw_ad G 0), .int a1, .int a2, .int a3, .int a4] m0 (pw_Rl m0) (fX10_night a1 a2 a3 a4 m0) :=
  pw_met (own := RX10) (l0 := [(0, .ref (pw_ad G 0)), (1, .int a1), (2, .int a2), (3, .int a3), (4, .int a4)]) rfl (by decide) rfl (Nat.le_of_ble_eq_true rfl) fun K hK hH => by
  delta fX10_night
  exact (pw_aload_n (pc := 0) dX10_night_0 0 rfl <|
pw_getR (o := 0) (k := 0) (t := 1) (pw_sh_0) cfX10 rfl (by decide) flX10_10 (pc := 1) dX10_night_1 <|
pw_iload_n (pc := 4) dX10_night_4 1 rfl <|
pw_iload_n (pc := 5) dX10_night_5 2 rfl <|
pw_callV_rz (n := 2) (rest := []) (tX7_areTwo K.2.1 G pw_t1 a1 a2 m0) (pw_shTown pw_t1) cfX7 rfl miX7_areTwo mlX10_167 (pc := 6) dX10_night_6 rfl rfl (by decide) (Nat.le_of_ble_eq_true rfl) fun y1 =>
pw_ifz_eq (tgt := 32) (pc := 9) dX10_night_9 (by decide) (fun h12 => pw_iload_n (pc := 12) dX10_night_12 3 rfl <|
pw_iconst (v := 2) (pc := 13) dX10_night_13 (by decide) <|
pw_icmp_lt  (tgt := 32) (pc := 14) dX10_night_14 (by decide) (fun h10 => pw_ldc2 (v := 1000000001) (pc := 32) dX10_night_32 klX10_285 <|
pw_lret hH rfl (pc := 35) dX10_night_35) (fun h11 => pw_iload_n (pc := 17) dX10_night_17 3 rfl <|
pw_bipush (v := 20) (pc := 18) dX10_night_18 (by decide) <|
pw_icmp_gt  (tgt := 32) (pc := 20) dX10_night_20 (by decide) (fun h8 => pw_ldc2 (v := 1000000001) (pc := 32) dX10_night_32 klX10_285 <|
pw_lret hH rfl (pc := 35) dX10_night_35) (fun h9 => pw_iload (pc := 23) dX10_night_23 4 rfl <|
pw_iconst (v := 1) (pc := 25) dX10_night_25 (by decide) <|
pw_callS_rz (n := 2) (rest := []) (tX10_isUpTo K.2.1 G a4 (1 : Int32) m0) miX10_isUpTo mlX10_154 (pc := 26) dX10_night_26 rfl rfl (by decide) (Nat.le_of_ble_eq_true rfl) fun y2 =>
pw_ifz_ne (tgt := 36) (pc := 29) dX10_night_29 (by decide) (fun h6 => pw_aload_n (pc := 36) dX10_night_36 0 rfl <|
pw_getR (o := 0) (k := 6) (t := 50) (pw_sh_0) cfX10 rfl (by decide) flX10_50 (pc := 37) dX10_night_37 <|
pw_iload_n (pc := 40) dX10_night_40 1 rfl <|
pw_iload_n (pc := 41) dX10_night_41 2 rfl <|
pw_iload_n (pc := 42) dX10_night_42 3 rfl <|
pw_callV_rl (n := 3) (rest := []) (tX0_waysStillTied K.2.1 G a1 a2 a3 m0) (pw_sh_50) cfX0 rfl miX0_waysStillTied mlX10_287 (pc := 43) dX10_night_43 rfl rfl (by decide) (Nat.le_of_ble_eq_true rfl) fun y3 =>
pw_aload_n (pc := 46) dX10_night_46 0 rfl <|
pw_getR (o := 0) (k := 6) (t := 50) (pw_sh_0) cfX10 rfl (by decide) flX10_50 (pc := 47) dX10_night_47 <|
pw_iload_n (pc := 50) dX10_night_50 3 rfl <|
pw_callV_rl (n := 1) (rest := [.long y3]) (tX0_allWays K.2.1 G a3 m0) (pw_sh_50) cfX0 rfl miX0_allWays mlX10_291 (pc := 51) dX10_night_51 rfl rfl (by decide) (Nat.le_of_ble_eq_true rfl) fun y4 =>
pw_iload (pc := 54) dX10_night_54 4 rfl <|
pw_callS_rl (n := 3) (rest := []) (tX10_partOfFraction K.2.1 G y3 y4 a4 m0) miX10_partOfFraction mlX10_295 (pc := 56) dX10_night_56 rfl rfl (by decide) (Nat.le_of_ble_eq_true rfl) fun y5 =>
pw_lret hH rfl (pc := 59) dX10_night_59) (fun h7 => pw_ldc2 (v := 1000000001) (pc := 32) dX10_night_32 klX10_285 <|
pw_lret hH rfl (pc := 35) dX10_night_35)))) (fun h13 => pw_ldc2 (v := 1000000001) (pc := 32) dX10_night_32 klX10_285 <|
pw_lret hH rfl (pc := 35) dX10_night_35))
set_option maxHeartbeats 4000000 in
theorem tX10_mean (l : Launch) (G : pw_G) (a1 : Int32) (m0 : pw_Mem) : PMet l G yX10_mean cX10_mean 3 (some .long) 2 [.ref (pw_ad G 0), .int a1] m0 (pw_Rl m0) (fX10_mean a1 m0) :=
  pw_met (own := RX10) (l0 := [(0, .ref (pw_ad G 0)), (1, .int a1)]) rfl (by decide) rfl (Nat.le_of_ble_eq_true rfl) fun K hK hH => by
  delta fX10_mean
  exact (pw_iload_n (pc := 0) dX10_mean_0 1 rfl <|
pw_iconst (v := 1) (pc := 1) dX10_mean_1 (by decide) <|
pw_callS_rz (n := 2) (rest := []) (tX10_isUpTo K.2.1 G a1 (1 : Int32) m0) miX10_isUpTo mlX10_154 (pc := 2) dX10_mean_2 rfl rfl (by decide) (Nat.le_of_ble_eq_true rfl) fun y1 =>
pw_ifz_ne (tgt := 12) (pc := 5) dX10_mean_5 (by decide) (fun h9 => pw_aload_n (pc := 12) dX10_mean_12 0 rfl <|
pw_getR (o := 0) (k := 0) (t := 1) (pw_sh_0) cfX10 rfl (by decide) flX10_10 (pc := 13) dX10_mean_13 <|
pw_getI (o := 1) (k := 12) (pw_shTown pw_t1) cfX7 rfl (by decide) flX10_173 (pc := 16) dX10_mean_16 <|
pw_aload_n (pc := 19) dX10_mean_19 0 rfl <|
pw_getR (o := 0) (k := 0) (t := 1) (pw_sh_0) cfX10 rfl (by decide) flX10_10 (pc := 20) dX10_mean_20 <|
pw_callV_ri (n := 0) (rest := [.int (m0 1 12)]) (tX7_snappedCount K.2.1 G pw_t1 m0) (pw_shTown pw_t1) cfX7 rfl miX7_snappedCount mlX10_193 (pc := 23) dX10_mean_23 rfl rfl (by decide) (Nat.le_of_ble_eq_true rfl) fun y2 =>
pw_isub (pc := 26) dX10_mean_26 <|
pw_ltI fun x3 => pw_istore_n [(2, .int x3), (0, .ref (pw_ad G 0)), (1, .int a1)] (pc := 27) dX10_mean_27 (by decide) rfl <|
pw_aload_n (pc := 28) dX10_mean_28 1 rfl <|
pw_getR (o := 0) (k := 0) (t := 1) (pw_sh_0) cfX10 rfl (by decide) flX10_10 (pc := 29) dX10_mean_29 <|
pw_callV_ri (n := 0) (rest := []) (tX7_stretchOfWhole K.2.1 G pw_t1 m0) (pw_shTown pw_t1) cfX7 rfl miX7_stretchOfWhole mlX10_299 (pc := 32) dX10_mean_32 rfl rfl (by decide) (Nat.le_of_ble_eq_true rfl) fun y4 =>
pw_i2l (pc := 35) dX10_mean_35 <|
pw_iload_n (pc := 36) dX10_mean_36 0 rfl <|
pw_iconst (v := 1) (pc := 37) dX10_mean_37 (by decide) <|
pw_icmp_ge  (tgt := 45) (pc := 38) dX10_mean_38 (by decide) (fun h7 => pw_iload_n (pc := 45) dX10_mean_45 0 rfl <|
pw_i2l (pc := 46) dX10_mean_46 <|
pw_iload_n (pc := 47) dX10_mean_47 2 rfl <|
pw_callS_rl (n := 3) (rest := []) (tX10_partOfFraction K.2.1 G y4.toInt64 x3.toInt64 a1 m0) miX10_partOfFraction mlX10_295 (pc := 48) dX10_mean_48 rfl rfl (by decide) (Nat.le_of_ble_eq_true rfl) fun y5 =>
pw_lret hH rfl (pc := 51) dX10_mean_51) (fun h8 => pw_lconst (v := 1) (pc := 41) dX10_mean_41 rfl <|
pw_goto (tgt := 47) (pc := 42) dX10_mean_42 (by decide) <|
pw_iload_n (pc := 47) dX10_mean_47 2 rfl <|
pw_callS_rl (n := 3) (rest := []) (tX10_partOfFraction K.2.1 G y4.toInt64 (1 : Int64) a1 m0) miX10_partOfFraction mlX10_295 (pc := 48) dX10_mean_48 rfl rfl (by decide) (Nat.le_of_ble_eq_true rfl) fun y6 =>
pw_lret hH rfl (pc := 51) dX10_mean_51)) (fun h10 => pw_ldc2 (v := 1000000001) (pc := 8) dX10_mean_8 klX10_285 <|
pw_lret hH rfl (pc := 11) dX10_mean_11))
set_option maxHeartbeats 4000000 in
theorem tX10_farthest (l : Launch) (G : pw_G) (a1 : Int32) (m0 : pw_Mem) : PMet l G yX10_farthest cX10_farthest 2 (some .int) 3 [.ref (pw_ad G 0), .int a1] m0 (pw_Ri m0) (fX10_farthest a1 m0) :=
  pw_met (own := RX10) (l0 := [(0, .ref (pw_ad G 0)), (1, .int a1)]) rfl (by decide) rfl (Nat.le_of_ble_eq_true rfl) fun K hK hH => by
  delta fX10_farthest
  exact (pw_iload_n (pc := 0) dX10_farthest_0 1 rfl <|
pw_iconst (v := 1) (pc := 1) dX10_farthest_1 (by decide) <|
pw_callS_rz (n := 2) (rest := []) (tX10_isUpTo K.2.1 G a1 (1 : Int32) m0) miX10_isUpTo mlX10_154 (pc := 2) dX10_farthest_2 rfl rfl (by decide) (Nat.le_of_ble_eq_true rfl) fun y1 =>
pw_ifz_eq (tgt := 27) (pc := 5) dX10_farthest_5 (by decide) (fun h6 => pw_aload_n (pc := 8) dX10_farthest_8 0 rfl <|
pw_getR (o := 0) (k := 3) (t := 37) (pw_sh_0) cfX10 rfl (by decide) flX10_27 (pc := 9) dX10_farthest_9 <|
pw_iload_n (pc := 12) dX10_farthest_12 1 rfl <|
pw_if_ne (a := a1) (b := 0) (tgt := 20) (pc := 13) dX10_farthest_13 (by decide) (fun h4 => pw_iconst (v := 0) (pc := 20) dX10_farthest_20 (by decide) <|
pw_callV_ri (n := 1) (rest := []) (tX4_farthestTwo K.2.1 G (0 : Int32) m0) (pw_sh_37) cfX4 rfl miX4_farthestTwo mlX10_302 (pc := 21) dX10_farthest_21 rfl rfl (by decide) (Nat.le_of_ble_eq_true rfl) fun y2 =>
pw_goto (tgt := 28) (pc := 24) dX10_farthest_24 (by decide) <|
pw_iret (a := y2) (v := y2) hH rfl (pc := 28) dX10_farthest_28) (fun h5 => pw_iconst (v := 1) (pc := 16) dX10_farthest_16 (by decide) <|
pw_goto (tgt := 21) (pc := 17) dX10_farthest_17 (by decide) <|
pw_callV_ri (n := 1) (rest := []) (tX4_farthestTwo K.2.1 G (1 : Int32) m0) (pw_sh_37) cfX4 rfl miX4_farthestTwo mlX10_302 (pc := 21) dX10_farthest_21 rfl rfl (by decide) (Nat.le_of_ble_eq_true rfl) fun y3 =>
pw_goto (tgt := 28) (pc := 24) dX10_farthest_24 (by decide) <|
pw_iret (a := y3) (v := y3) hH rfl (pc := 28) dX10_farthest_28)) (fun h7 => pw_iconst (v := -1) (pc := 27) dX10_farthest_27 (by decide) <|
pw_iret (a := (-1 : Int32)) (v := (-1 : Int32)) hH rfl (pc := 28) dX10_farthest_28))
set_option maxHeartbeats 4000000 in
theorem tX10_forged (l : Launch) (G : pw_G) (a1 : Int32) (m0 : pw_Mem) : PMet l G yX10_forged cX10_forged 3 (some .int) 5 [.ref (pw_ad G 0), .int a1] m0 pw_Wi (fX10_forged a1 m0) :=
  pw_met (own := RX10) (l0 := [(0, .ref (pw_ad G 0)), (1, .int a1)]) rfl (by decide) rfl (Nat.le_of_ble_eq_true rfl) fun K hK hH => by
  delta fX10_forged
  exact (pw_aload_n (pc := 0) dX10_forged_0 0 rfl <|
pw_iload_n (pc := 1) dX10_forged_1 1 rfl <|
pw_callV_ri (n := 1) (rest := []) (tX10_rowRefusal K.2.1 G a1 m0) (pw_sh_0) cfX10 rfl miX10_rowRefusal mlX10_75 (pc := 2) dX10_forged_2 rfl rfl (by decide) (Nat.le_of_ble_eq_true rfl) fun y1 =>
pw_istore_n [(2, .int y1), (0, .ref (pw_ad G 0)), (1, .int a1)] (pc := 5) dX10_forged_5 (by decide) rfl <|
pw_iload_n (pc := 6) dX10_forged_6 0 rfl <|
pw_if_eq (a := y1) (b := 0) (tgt := 12) (pc := 7) dX10_forged_7 (by decide) (fun h9 => pw_aload_n (pc := 12) dX10_forged_12 1 rfl <|
pw_getR (o := 0) (k := 8) (t := 53) (pw_sh_0) cfX10 rfl (by decide) flX10_64 (pc := 13) dX10_forged_13 <|
pw_aload_n (pc := 16) dX10_forged_16 1 rfl <|
pw_getR (o := 0) (k := 9) (t := 54) (pw_sh_0) cfX10 rfl (by decide) flX10_70 (pc := 17) dX10_forged_17 <|
pw_iload_n (pc := 20) dX10_forged_20 2 rfl <|
pw_aaldS (pc := 21) dX10_forged_21 fun hs2 =>
pw_callV_rz (n := 1) (rest := []) (tX1_areGoings K.2.1 G hs2 m0) (pw_sh_53) cfX1 rfl miX1_areGoings mlX10_305 (pc := 22) dX10_forged_22 rfl rfl (by decide) (Nat.le_of_ble_eq_true rfl) fun y3 =>
pw_ifz_eq (tgt := 44) (pc := 25) dX10_forged_25 (by decide) (fun h7 => pw_aload_n (pc := 28) dX10_forged_28 1 rfl <|
pw_getR (o := 0) (k := 8) (t := 53) (pw_sh_0) cfX10 rfl (by decide) flX10_64 (pc := 29) dX10_forged_29 <|
pw_aload_n (pc := 32) dX10_forged_32 1 rfl <|
pw_getR (o := 0) (k := 9) (t := 54) (pw_sh_0) cfX10 rfl (by decide) flX10_70 (pc := 33) dX10_forged_33 <|
pw_iload_n (pc := 36) dX10_forged_36 2 rfl <|
pw_aaldS (pc := 37) dX10_forged_37 fun hs4 =>
pw_callV_wi (n := 1) (rest := []) (tX1_firstSnapping K.2.1 G hs4 m0) (pw_sh_53) cfX1 rfl miX1_firstSnapping mlX10_309 (pc := 38) dX10_forged_38 rfl rfl (by decide) (Nat.le_of_ble_eq_true rfl) fun y5 m6 =>
pw_goto (tgt := 46) (pc := 41) dX10_forged_41 (by decide) <|
pw_iret (a := y5) (v := (y5, m6)) hH rfl (pc := 46) dX10_forged_46) (fun h8 => pw_bipush (v := -13) (pc := 44) dX10_forged_44 (by decide) <|
pw_iret (a := (-13 : Int32)) (v := ((-13 : Int32), m0)) hH rfl (pc := 46) dX10_forged_46)) (fun h10 => pw_iload_n (pc := 10) dX10_forged_10 0 rfl <|
pw_iret (a := y1) (v := (y1, m0)) hH rfl (pc := 11) dX10_forged_11))
set_option maxHeartbeats 4000000 in
theorem tX10_judge (l : Launch) (G : pw_G) (a1 : Int32) (m0 : pw_Mem) : PMet l G yX10_judge cX10_judge 3 (some .int) 5 [.ref (pw_ad G 0), .int a1] m0 pw_Wi (fX10_judge a1 m0) :=
  pw_met (own := RX10) (l0 := [(0, .ref (pw_ad G 0)), (1, .int a1)]) rfl (by decide) rfl (Nat.le_of_ble_eq_true rfl) fun K hK hH => by
  delta fX10_judge
  exact (pw_aload_n (pc := 0) dX10_judge_0 0 rfl <|
pw_iload_n (pc := 1) dX10_judge_1 1 rfl <|
pw_callV_ri (n := 1) (rest := []) (tX10_rowRefusal K.2.1 G a1 m0) (pw_sh_0) cfX10 rfl miX10_rowRefusal mlX10_75 (pc := 2) dX10_judge_2 rfl rfl (by decide) (Nat.le_of_ble_eq_true rfl) fun y1 =>
pw_istore_n [(2, .int y1), (0, .ref (pw_ad G 0)), (1, .int a1)] (pc := 5) dX10_judge_5 (by decide) rfl <|
pw_iload_n (pc := 6) dX10_judge_6 0 rfl <|
pw_if_eq (a := y1) (b := 0) (tgt := 14) (pc := 7) dX10_judge_7 (by decide) (fun h5 => pw_aload_n (pc := 14) dX10_judge_14 1 rfl <|
pw_getR (o := 0) (k := 4) (t := 47) (pw_sh_0) cfX10 rfl (by decide) flX10_34 (pc := 15) dX10_judge_15 <|
pw_aload_n (pc := 18) dX10_judge_18 1 rfl <|
pw_getR (o := 0) (k := 9) (t := 54) (pw_sh_0) cfX10 rfl (by decide) flX10_70 (pc := 19) dX10_judge_19 <|
pw_iload_n (pc := 22) dX10_judge_22 2 rfl <|
pw_aaldS (pc := 23) dX10_judge_23 fun hs2 =>
pw_callV_wi (n := 1) (rest := []) (tX9_firstUntrue K.2.1 G hs2 m0) (pw_sh_47) cfX9 rfl miX9_firstUntrue mlX10_312 (pc := 24) dX10_judge_24 rfl rfl (by decide) (Nat.le_of_ble_eq_true rfl) fun y3 m4 =>
pw_iret (a := y3) (v := (y3, m4)) hH rfl (pc := 27) dX10_judge_27) (fun h6 => pw_iload_n (pc := 10) dX10_judge_10 0 rfl <|
pw_goto (tgt := 27) (pc := 11) dX10_judge_11 (by decide) <|
pw_iret (a := y1) (v := (y1, m0)) hH rfl (pc := 27) dX10_judge_27))
set_option maxHeartbeats 4000000 in
theorem tX10_generations (l : Launch) (G : pw_G) (a1 : Int32) (a2 : Int32) (a3 : Int32) (m0 : pw_Mem) : PMet l G yX10_generations cX10_generations 4 (some .int) 6 [.ref (pw_ad G 0), .int a1, .int a2, .int a3] m0 pw_Wi (fX10_generations a1 a2 a3 m0) :=
  pw_met (own := RX10) (l0 := [(0, .ref (pw_ad G 0)), (1, .int a1), (2, .int a2), (3, .int a3)]) rfl (by decide) rfl (Nat.le_of_ble_eq_true rfl) fun K hK hH => by
  delta fX10_generations
  exact (pw_iload_n (pc := 0) dX10_generations_0 1 rfl <|
pw_iconst (v := 1) (pc := 1) dX10_generations_1 (by decide) <|
pw_icmp_lt  (tgt := 19) (pc := 2) dX10_generations_2 (by decide) (fun h14 => pw_iconst (v := -1) (pc := 19) dX10_generations_19 (by decide) <|
pw_iret (a := (-1 : Int32)) (v := ((-1 : Int32), m0)) hH rfl (pc := 20) dX10_generations_20) (fun h15 => pw_iload_n (pc := 5) dX10_generations_5 1 rfl <|
pw_bipush (v := 20) (pc := 6) dX10_generations_6 (by decide) <|
pw_icmp_gt  (tgt := 19) (pc := 8) dX10_generations_8 (by decide) (fun h12 => pw_iconst (v := -1) (pc := 19) dX10_generations_19 (by decide) <|
pw_iret (a := (-1 : Int32)) (v := ((-1 : Int32), m0)) hH rfl (pc := 20) dX10_generations_20) (fun h13 => pw_iload_n (pc := 11) dX10_generations_11 3 rfl <|
pw_iconst (v := 1) (pc := 12) dX10_generations_12 (by decide) <|
pw_callS_rz (n := 2) (rest := []) (tX10_isUpTo K.2.1 G a3 (1 : Int32) m0) miX10_isUpTo mlX10_154 (pc := 13) dX10_generations_13 rfl rfl (by decide) (Nat.le_of_ble_eq_true rfl) fun y1 =>
pw_ifz_ne (tgt := 21) (pc := 16) dX10_generations_16 (by decide) (fun h10 => pw_aload_n (pc := 21) dX10_generations_21 0 rfl <|
pw_getR (o := 0) (k := 0) (t := 1) (pw_sh_0) cfX10 rfl (by decide) flX10_10 (pc := 22) dX10_generations_22 <|
pw_getI (o := 1) (k := 11) (pw_shTown pw_t1) cfX7 rfl (by decide) flX10_158 (pc := 25) dX10_generations_25 <|
pw_iconst (v := 1) (pc := 28) dX10_generations_28 (by decide) <|
pw_icmp_ge  (tgt := 35) (pc := 29) dX10_generations_29 (by decide) (fun h8 => pw_aload_n (pc := 35) dX10_generations_35 0 rfl <|
pw_getR (o := 0) (k := 8) (t := 53) (pw_sh_0) cfX10 rfl (by decide) flX10_64 (pc := 36) dX10_generations_36 <|
pw_iload_n (pc := 39) dX10_generations_39 1 rfl <|
pw_iload_n (pc := 40) dX10_generations_40 2 rfl <|
pw_iload_n (pc := 41) dX10_generations_41 3 rfl <|
pw_if_ne (a := a3) (b := 0) (tgt := 49) (pc := 42) dX10_generations_42 (by decide) (fun h6 => pw_iconst (v := 0) (pc := 49) dX10_generations_49 (by decide) <|
pw_callV_wi (n := 3) (rest := []) (tX1_harmOf K.2.1 G a1 a2 (0 : Int32) m0) (pw_sh_53) cfX1 rfl miX1_harmOf mlX10_315 (pc := 50) dX10_generations_50 rfl rfl (by decide) (Nat.le_of_ble_eq_true rfl) fun y2 m3 =>
pw_iret (a := y2) (v := (y2, m3)) hH rfl (pc := 53) dX10_generations_53) (fun h7 => pw_iconst (v := 1) (pc := 45) dX10_generations_45 (by decide) <|
pw_goto (tgt := 50) (pc := 46) dX10_generations_46 (by decide) <|
pw_callV_wi (n := 3) (rest := []) (tX1_harmOf K.2.1 G a1 a2 (1 : Int32) m0) (pw_sh_53) cfX1 rfl miX1_harmOf mlX10_315 (pc := 50) dX10_generations_50 rfl rfl (by decide) (Nat.le_of_ble_eq_true rfl) fun y4 m5 =>
pw_iret (a := y4) (v := (y4, m5)) hH rfl (pc := 53) dX10_generations_53)) (fun h9 => pw_bipush (v := -3) (pc := 32) dX10_generations_32 (by decide) <|
pw_iret (a := (-3 : Int32)) (v := ((-3 : Int32), m0)) hH rfl (pc := 34) dX10_generations_34)) (fun h11 => pw_iconst (v := -1) (pc := 19) dX10_generations_19 (by decide) <|
pw_iret (a := (-1 : Int32)) (v := ((-1 : Int32), m0)) hH rfl (pc := 20) dX10_generations_20))))
set_option maxHeartbeats 4000000 in
theorem tX10_image (l : Launch) (G : pw_G)  (m0 : pw_Mem) : PMet l G yX10_image cX10_image 1 (some .int) 1 [.ref (pw_ad G 0)] m0 pw_Wi (fX10_image m0) :=
  pw_met (own := RX10) (l0 := [(0, .ref (pw_ad G 0))]) rfl (by decide) rfl (Nat.le_of_ble_eq_true rfl) fun K hK hH => by
  delta fX10_image
  exact (pw_aload_n (pc := 0) dX10_image_0 0 rfl <|
pw_getR (o := 0) (k := 2) (t := 25) (pw_sh_0) cfX10 rfl (by decide) flX10_19 (pc := 1) dX10_image_1 <|
pw_aload_n (pc := 4) dX10_image_4 0 rfl <|
pw_getR (o := 0) (k := 0) (t := 1) (pw_sh_0) cfX10 rfl (by decide) flX10_10 (pc := 5) dX10_image_5 <|
pw_callV_wv (n := 1) (rest := []) (tX7_becomes K.2.1 G pw_t25 pw_t1 m0) (pw_shTown pw_t25) cfX7 rfl miX7_becomes mlX10_89 (pc := 8) dX10_image_8 rfl rfl (by decide) (Nat.le_of_ble_eq_true rfl) fun m1 =>
pw_aload_n (pc := 11) dX10_image_11 0 rfl <|
pw_iconst (v := 1) (pc := 12) dX10_image_12 (by decide) <|
pw_putI (o := 0) (k := 10) (pw_sh_0) cfX10 rfl (by decide) flX10_319 rfl (ft := .boolean) rfl rfl rfl (pc := 13) dX10_image_13 <|
pw_ltM fun m2 => pw_aload_n (pc := 16) dX10_image_16 0 rfl <|
pw_getR (o := 0) (k := 0) (t := 1) (pw_sh_0) cfX10 rfl (by decide) flX10_10 (pc := 17) dX10_image_17 <|
pw_getI (o := 1) (k := 15) (pw_shTown pw_t1) cfX7 rfl (by decide) flX10_190 (pc := 20) dX10_image_20 <|
pw_iret (a := (m2 1 15)) (v := (m2 1 15, m2)) hH rfl (pc := 23) dX10_image_23)
set_option maxHeartbeats 4000000 in
theorem tX10_restore (l : Launch) (G : pw_G)  (m0 : pw_Mem) : PMet l G yX10_restore cX10_restore 1 (some .int) 1 [.ref (pw_ad G 0)] m0 pw_Wi (fX10_restore m0) :=
  pw_met (own := RX10) (l0 := [(0, .ref (pw_ad G 0))]) rfl (by decide) rfl (Nat.le_of_ble_eq_true rfl) fun K hK hH => by
  delta fX10_restore
  exact (pw_aload_n (pc := 0) dX10_restore_0 0 rfl <|
pw_getI (o := 0) (k := 10) (pw_sh_0) cfX10 rfl (by decide) flX10_319 (pc := 1) dX10_restore_1 <|
pw_if_ne (a := (m0 0 10)) (b := 0) (tgt := 10) (pc := 4) dX10_restore_4 (by decide) (fun h2 => pw_aload_n (pc := 10) dX10_restore_10 0 rfl <|
pw_getR (o := 0) (k := 0) (t := 1) (pw_sh_0) cfX10 rfl (by decide) flX10_10 (pc := 11) dX10_restore_11 <|
pw_aload_n (pc := 14) dX10_restore_14 0 rfl <|
pw_getR (o := 0) (k := 2) (t := 25) (pw_sh_0) cfX10 rfl (by decide) flX10_19 (pc := 15) dX10_restore_15 <|
pw_callV_wv (n := 1) (rest := []) (tX7_becomes K.2.1 G pw_t1 pw_t25 m0) (pw_shTown pw_t1) cfX7 rfl miX7_becomes mlX10_89 (pc := 18) dX10_restore_18 rfl rfl (by decide) (Nat.le_of_ble_eq_true rfl) fun m1 =>
pw_aload_n (pc := 21) dX10_restore_21 0 rfl <|
pw_getR (o := 0) (k := 0) (t := 1) (pw_sh_0) cfX10 rfl (by decide) flX10_10 (pc := 22) dX10_restore_22 <|
pw_getI (o := 1) (k := 15) (pw_shTown pw_t1) cfX7 rfl (by decide) flX10_190 (pc := 25) dX10_restore_25 <|
pw_iret (a := (m1 1 15)) (v := (m1 1 15, m1)) hH rfl (pc := 28) dX10_restore_28) (fun h3 => pw_bipush (v := -3) (pc := 7) dX10_restore_7 (by decide) <|
pw_iret (a := (-3 : Int32)) (v := ((-3 : Int32), m0)) hH rfl (pc := 9) dX10_restore_9))
set_option maxHeartbeats 4000000 in
theorem tX10_count (l : Launch) (G : pw_G) (a1 : Int32) (m0 : pw_Mem) : PMet l G yX10_count cX10_count 2 (some .int) 3 [.ref (pw_ad G 0), .int a1] m0 (pw_Ri m0) (fX10_count a1 m0) :=
  pw_met (own := RX10) (l0 := [(0, .ref (pw_ad G 0)), (1, .int a1)]) rfl (by decide) rfl (Nat.le_of_ble_eq_true rfl) fun K hK hH => by
  delta fX10_count
  exact (pw_iload_n (pc := 0) dX10_count_0 1 rfl <|
pw_if (fun h1 => pw_tIn (tgt := 44) (pc := 1) dX10_count_1 h1 (by decide) (by decide) rfl (by decide) <|
pw_aload_n (pc := 44) dX10_count_44 0 rfl <|
pw_getR (o := 0) (k := 0) (t := 1) (pw_sh_0) cfX10 rfl (by decide) flX10_10 (pc := 45) dX10_count_45 <|
pw_getI (o := 1) (k := 11) (pw_shTown pw_t1) cfX7 rfl (by decide) flX10_158 (pc := 48) dX10_count_48 <|
pw_iret (a := (m0 1 11)) (v := (m0 1 11)) hH rfl (pc := 51) dX10_count_51) (fun h1 => pw_if (fun h2 => pw_tIn (tgt := 52) (pc := 1) dX10_count_1 h2 (by decide) (by decide) rfl (by decide) <|
pw_aload_n (pc := 52) dX10_count_52 0 rfl <|
pw_getR (o := 0) (k := 0) (t := 1) (pw_sh_0) cfX10 rfl (by decide) flX10_10 (pc := 53) dX10_count_53 <|
pw_getI (o := 1) (k := 12) (pw_shTown pw_t1) cfX7 rfl (by decide) flX10_173 (pc := 56) dX10_count_56 <|
pw_iret (a := (m0 1 12)) (v := (m0 1 12)) hH rfl (pc := 59) dX10_count_59) (fun h2 => pw_if (fun h3 => pw_tIn (tgt := 60) (pc := 1) dX10_count_1 h3 (by decide) (by decide) rfl (by decide) <|
pw_aload_n (pc := 60) dX10_count_60 0 rfl <|
pw_getR (o := 0) (k := 0) (t := 1) (pw_sh_0) cfX10 rfl (by decide) flX10_10 (pc := 61) dX10_count_61 <|
pw_getI (o := 1) (k := 15) (pw_shTown pw_t1) cfX7 rfl (by decide) flX10_190 (pc := 64) dX10_count_64 <|
pw_iret (a := (m0 1 15)) (v := (m0 1 15)) hH rfl (pc := 67) dX10_count_67) (fun h3 => pw_if (fun h4 => pw_tIn (tgt := 68) (pc := 1) dX10_count_1 h4 (by decide) (by decide) rfl (by decide) <|
pw_aload_n (pc := 68) dX10_count_68 0 rfl <|
pw_getR (o := 0) (k := 0) (t := 1) (pw_sh_0) cfX10 rfl (by decide) flX10_10 (pc := 69) dX10_count_69 <|
pw_getI (o := 1) (k := 14) (pw_shTown pw_t1) cfX7 rfl (by decide) flX10_147 (pc := 72) dX10_count_72 <|
pw_iret (a := (m0 1 14)) (v := (m0 1 14)) hH rfl (pc := 75) dX10_count_75) (fun h4 => pw_if (fun h5 => pw_tIn (tgt := 76) (pc := 1) dX10_count_1 h5 (by decide) (by decide) rfl (by decide) <|
pw_aload_n (pc := 76) dX10_count_76 0 rfl <|
pw_getR (o := 0) (k := 0) (t := 1) (pw_sh_0) cfX10 rfl (by decide) flX10_10 (pc := 77) dX10_count_77 <|
pw_getI (o := 1) (k := 13) (pw_shTown pw_t1) cfX7 rfl (by decide) flX10_201 (pc := 80) dX10_count_80 <|
pw_iret (a := (m0 1 13)) (v := (m0 1 13)) hH rfl (pc := 83) dX10_count_83) (fun h5 => pw_if (fun h7 => pw_tIn (tgt := 84) (pc := 1) dX10_count_1 h7 (by decide) (by decide) rfl (by decide) <|
pw_aload_n (pc := 84) dX10_count_84 0 rfl <|
pw_getR (o := 0) (k := 0) (t := 1) (pw_sh_0) cfX10 rfl (by decide) flX10_10 (pc := 85) dX10_count_85 <|
pw_callV_ri (n := 0) (rest := []) (tX7_allStung K.2.1 G pw_t1 m0) (pw_shTown pw_t1) cfX7 rfl miX7_allStung mlX10_323 (pc := 88) dX10_count_88 rfl rfl (by decide) (Nat.le_of_ble_eq_true rfl) fun y6 =>
pw_iret (a := y6) (v := y6) hH rfl (pc := 91) dX10_count_91) (fun h7 => pw_if (fun h9 => pw_tIn (tgt := 92) (pc := 1) dX10_count_1 h9 (by decide) (by decide) rfl (by decide) <|
pw_aload_n (pc := 92) dX10_count_92 0 rfl <|
pw_getR (o := 0) (k := 0) (t := 1) (pw_sh_0) cfX10 rfl (by decide) flX10_10 (pc := 93) dX10_count_93 <|
pw_callV_ri (n := 0) (rest := []) (tX7_allPull K.2.1 G pw_t1 m0) (pw_shTown pw_t1) cfX7 rfl miX7_allPull mlX10_326 (pc := 96) dX10_count_96 rfl rfl (by decide) (Nat.le_of_ble_eq_true rfl) fun y8 =>
pw_iret (a := y8) (v := y8) hH rfl (pc := 99) dX10_count_99) (fun h9 => pw_tOut (tgt := 100) (pc := 1) dX10_count_1 (by have q0 := lv_neT h1 (a := 0) rfl; have q1 := lv_neT h2 (a := 1) rfl; have q2 := lv_neT h3 (a := 2) rfl; have q3 := lv_neT h4 (a := 3) rfl; have q4 := lv_neT h5 (a := 4) rfl; have q5 := lv_neT h7 (a := 5) rfl; have q6 := lv_neT h9 (a := 6) rfl; omega) (by decide) <|
pw_iconst (v := -1) (pc := 100) dX10_count_100 (by decide) <|
pw_iret (a := (-1 : Int32)) (v := (-1 : Int32)) hH rfl (pc := 101) dX10_count_101))))))))
set_option maxHeartbeats 4000000 in
theorem tX10_keep (l : Launch) (G : pw_G) (a1 : Int32) (a2 : Int32) (a3 : Int32) (a4 : Int32) (m0 : pw_Mem) : PMet l G yX10_keep cX10_keep 5 (some .int) 1 [.ref (pw_ad G 0), .int a1, .int a2, .int a3, .int a4] m0 pw_Wi (fX10_keep a1 a2 a3 a4 m0) :=
  pw_met (own := RX10) (l0 := [(0, .ref (pw_ad G 0)), (1, .int a1), (2, .int a2), (3, .int a3), (4, .int a4)]) rfl (by decide) rfl (Nat.le_of_ble_eq_true rfl) fun K hK hH => by
  delta fX10_keep
  exact (pw_iload_n (pc := 0) dX10_keep_0 1 rfl <|
pw_callS_rz (n := 1) (rest := []) (tX10_isShelf K.2.1 G a1 m0) miX10_isShelf mlX10_164 (pc := 1) dX10_keep_1 rfl rfl (by decide) (Nat.le_of_ble_eq_true rfl) fun y1 =>
pw_ifz_eq (tgt := 15) (pc := 4) dX10_keep_4 (by decide) (fun h17 => pw_iload_n (pc := 7) dX10_keep_7 2 rfl <|
pw_iconst (v := 1) (pc := 8) dX10_keep_8 (by decide) <|
pw_callS_rz (n := 2) (rest := []) (tX10_isUpTo K.2.1 G a2 (1 : Int32) m0) miX10_isUpTo mlX10_154 (pc := 9) dX10_keep_9 rfl rfl (by decide) (Nat.le_of_ble_eq_true rfl) fun y2 =>
pw_ifz_ne (tgt := 17) (pc := 12) dX10_keep_12 (by decide) (fun h15 => pw_iload_n (pc := 17) dX10_keep_17 2 rfl <|
pw_if_ne (a := a2) (b := 0) (tgt := 33) (pc := 18) dX10_keep_18 (by decide) (fun h13 => pw_iload_n (pc := 33) dX10_keep_33 3 rfl <|
pw_bipush (v := 7) (pc := 34) dX10_keep_34 (by decide) <|
pw_callS_rz (n := 2) (rest := []) (tX10_isUpTo K.2.1 G a3 (7 : Int32) m0) miX10_isUpTo mlX10_154 (pc := 36) dX10_keep_36 rfl rfl (by decide) (Nat.le_of_ble_eq_true rfl) fun y3 =>
pw_ifz_eq (tgt := 52) (pc := 39) dX10_keep_39 (by decide) (fun h9 => pw_iload (pc := 42) dX10_keep_42 4 rfl <|
pw_bipush (v := 9) (pc := 44) dX10_keep_44 (by decide) <|
pw_callS_rz (n := 2) (rest := []) (tX10_isUpTo K.2.1 G a4 (9 : Int32) m0) miX10_isUpTo mlX10_154 (pc := 46) dX10_keep_46 rfl rfl (by decide) (Nat.le_of_ble_eq_true rfl) fun y4 =>
pw_ifz_ne (tgt := 54) (pc := 49) dX10_keep_49 (by decide) (fun h7 => pw_aload_n (pc := 54) dX10_keep_54 0 rfl <|
pw_getR (o := 0) (k := 9) (t := 54) (pw_sh_0) cfX10 rfl (by decide) flX10_70 (pc := 55) dX10_keep_55 <|
pw_iload_n (pc := 58) dX10_keep_58 1 rfl <|
pw_aaldS (pc := 59) dX10_keep_59 fun hs5 =>
pw_iload_n (pc := 60) dX10_keep_60 3 rfl <|
pw_iload (pc := 61) dX10_keep_61 4 rfl <|
pw_callV_wv (n := 2) (rest := []) (tX5_keepKind K.2.1 G hs5 a3 a4 m0) (pw_shShelf hs5) cfX5 rfl miX5_keepKind mlX10_334 (pc := 63) dX10_keep_63 rfl rfl (by decide) (Nat.le_of_ble_eq_true rfl) fun m6 =>
pw_iconst (v := 0) (pc := 66) dX10_keep_66 (by decide) <|
pw_iret (a := (0 : Int32)) (v := ((0 : Int32), m6)) hH rfl (pc := 67) dX10_keep_67) (fun h8 => pw_iconst (v := -1) (pc := 52) dX10_keep_52 (by decide) <|
pw_iret (a := (-1 : Int32)) (v := ((-1 : Int32), m0)) hH rfl (pc := 53) dX10_keep_53)) (fun h10 => pw_iconst (v := -1) (pc := 52) dX10_keep_52 (by decide) <|
pw_iret (a := (-1 : Int32)) (v := ((-1 : Int32), m0)) hH rfl (pc := 53) dX10_keep_53)) (fun h14 => pw_aload_n (pc := 21) dX10_keep_21 0 rfl <|
pw_getR (o := 0) (k := 9) (t := 54) (pw_sh_0) cfX10 rfl (by decide) flX10_70 (pc := 22) dX10_keep_22 <|
pw_iload_n (pc := 25) dX10_keep_25 1 rfl <|
pw_aaldS (pc := 26) dX10_keep_26 fun hs11 =>
pw_iconst (v := 0) (pc := 27) dX10_keep_27 (by decide) <|
pw_putI (o := (55 + 2 * (a1).toNatClampNeg)) (k := 1) (pw_shShelf hs11) cfX5 rfl (by decide) flX10_329 rfl (ft := .int) rfl rfl rfl (pc := 28) dX10_keep_28 <|
pw_ltM fun m12 => pw_iconst (v := 0) (pc := 31) dX10_keep_31 (by decide) <|
pw_iret (a := (0 : Int32)) (v := ((0 : Int32), m12)) hH rfl (pc := 32) dX10_keep_32)) (fun h16 => pw_iconst (v := -1) (pc := 15) dX10_keep_15 (by decide) <|
pw_iret (a := (-1 : Int32)) (v := ((-1 : Int32), m0)) hH rfl (pc := 16) dX10_keep_16)) (fun h18 => pw_iconst (v := -1) (pc := 15) dX10_keep_15 (by decide) <|
pw_iret (a := (-1 : Int32)) (v := ((-1 : Int32), m0)) hH rfl (pc := 16) dX10_keep_16))
set_option maxHeartbeats 4000000 in
theorem tX10_row (l : Launch) (G : pw_G) (a1 : Int32) (a2 : Int32) (a3 : Int32) (m0 : pw_Mem) : PMet l G yX10_row cX10_row 4 (some .int) 1 [.ref (pw_ad G 0), .int a1, .int a2, .int a3] m0 pw_Wi (fX10_row a1 a2 a3 m0) :=
  pw_met (own := RX10) (l0 := [(0, .ref (pw_ad G 0)), (1, .int a1), (2, .int a2), (3, .int a3)]) rfl (by decide) rfl (Nat.le_of_ble_eq_true rfl) fun K hK hH => by
  delta fX10_row
  exact (pw_iload_n (pc := 0) dX10_row_0 1 rfl <|
pw_callS_rz (n := 1) (rest := []) (tX10_isShelf K.2.1 G a1 m0) miX10_isShelf mlX10_164 (pc := 1) dX10_row_1 rfl rfl (by decide) (Nat.le_of_ble_eq_true rfl) fun y1 =>
pw_ifz_eq (tgt := 21) (pc := 4) dX10_row_4 (by decide) (fun h11 => pw_iload_n (pc := 7) dX10_row_7 2 rfl <|
pw_iconst (v := 2) (pc := 8) dX10_row_8 (by decide) <|
pw_callS_rz (n := 2) (rest := []) (tX10_isUpTo K.2.1 G a2 (2 : Int32) m0) miX10_isUpTo mlX10_154 (pc := 9) dX10_row_9 rfl rfl (by decide) (Nat.le_of_ble_eq_true rfl) fun y2 =>
pw_ifz_eq (tgt := 21) (pc := 12) dX10_row_12 (by decide) (fun h9 => pw_iload_n (pc := 15) dX10_row_15 3 rfl <|
pw_bipush (v := 100) (pc := 16) dX10_row_16 (by decide) <|
pw_icmp_le  (tgt := 23) (pc := 18) dX10_row_18 (by decide) (fun h7 => pw_iload_n (pc := 23) dX10_row_23 3 rfl <|
pw_if_ge (a := a3) (b := 0) (tgt := 30) (pc := 24) dX10_row_24 (by decide) (fun h5 => pw_aload_n (pc := 30) dX10_row_30 0 rfl <|
pw_getR (o := 0) (k := 9) (t := 54) (pw_sh_0) cfX10 rfl (by decide) flX10_70 (pc := 31) dX10_row_31 <|
pw_iload_n (pc := 34) dX10_row_34 1 rfl <|
pw_aaldS (pc := 35) dX10_row_35 fun hs3 =>
pw_iload_n (pc := 36) dX10_row_36 2 rfl <|
pw_iload_n (pc := 37) dX10_row_37 3 rfl <|
pw_callV_wv (n := 2) (rest := []) (tX5_keepRow K.2.1 G hs3 a2 a3 m0) (pw_shShelf hs3) cfX5 rfl miX5_keepRow mlX10_338 (pc := 38) dX10_row_38 rfl rfl (by decide) (Nat.le_of_ble_eq_true rfl) fun m4 =>
pw_iconst (v := 0) (pc := 41) dX10_row_41 (by decide) <|
pw_iret (a := (0 : Int32)) (v := ((0 : Int32), m4)) hH rfl (pc := 42) dX10_row_42) (fun h6 => pw_bipush (v := -14) (pc := 27) dX10_row_27 (by decide) <|
pw_iret (a := (-14 : Int32)) (v := ((-14 : Int32), m0)) hH rfl (pc := 29) dX10_row_29)) (fun h8 => pw_iconst (v := -1) (pc := 21) dX10_row_21 (by decide) <|
pw_iret (a := (-1 : Int32)) (v := ((-1 : Int32), m0)) hH rfl (pc := 22) dX10_row_22)) (fun h10 => pw_iconst (v := -1) (pc := 21) dX10_row_21 (by decide) <|
pw_iret (a := (-1 : Int32)) (v := ((-1 : Int32), m0)) hH rfl (pc := 22) dX10_row_22)) (fun h12 => pw_iconst (v := -1) (pc := 21) dX10_row_21 (by decide) <|
pw_iret (a := (-1 : Int32)) (v := ((-1 : Int32), m0)) hH rfl (pc := 22) dX10_row_22))
set_option maxHeartbeats 4000000 in
theorem tX10_put (l : Launch) (G : pw_G) (a1 : Int32) (a2 : Int32) (a3 : Int32) (m0 : pw_Mem) : PMet l G yX10_put cX10_put 5 (some .int) 3 [.ref (pw_ad G 0), .int a1, .int a2, .int a3] m0 pw_Wi (fX10_put a1 a2 a3 m0) :=
  pw_met (own := RX10) (l0 := [(0, .ref (pw_ad G 0)), (1, .int a1), (2, .int a2), (3, .int a3)]) rfl (by decide) rfl (Nat.le_of_ble_eq_true rfl) fun K hK hH => by
  delta fX10_put
  exact (pw_aload_n (pc := 0) dX10_put_0 0 rfl <|
pw_iload_n (pc := 1) dX10_put_1 1 rfl <|
pw_callV_ri (n := 1) (rest := []) (tX10_rowRefusal K.2.1 G a1 m0) (pw_sh_0) cfX10 rfl miX10_rowRefusal mlX10_75 (pc := 2) dX10_put_2 rfl rfl (by decide) (Nat.le_of_ble_eq_true rfl) fun y1 =>
pw_istore [(4, .int y1), (0, .ref (pw_ad G 0)), (1, .int a1), (2, .int a2), (3, .int a3)] (pc := 5) dX10_put_5 (by decide) rfl <|
pw_iload (pc := 7) dX10_put_7 0 rfl <|
pw_if_eq (a := y1) (b := 0) (tgt := 15) (pc := 9) dX10_put_9 (by decide) (fun h8 => pw_aload_n (pc := 15) dX10_put_15 1 rfl <|
pw_getR (o := 0) (k := 9) (t := 54) (pw_sh_0) cfX10 rfl (by decide) flX10_70 (pc := 16) dX10_put_16 <|
pw_iload_n (pc := 19) dX10_put_19 2 rfl <|
pw_aaldS (pc := 20) dX10_put_20 fun hs2 =>
pw_iload_n (pc := 21) dX10_put_21 3 rfl <|
pw_callV_rz (n := 1) (rest := []) (tX5_hasPlace K.2.1 G hs2 a2 m0) (pw_shShelf hs2) cfX5 rfl miX5_hasPlace mlX10_341 (pc := 22) dX10_put_22 rfl rfl (by decide) (Nat.le_of_ble_eq_true rfl) fun y3 =>
pw_ifz_ne (tgt := 31) (pc := 25) dX10_put_25 (by decide) (fun h6 => pw_aload_n (pc := 31) dX10_put_31 1 rfl <|
pw_getR (o := 0) (k := 9) (t := 54) (pw_sh_0) cfX10 rfl (by decide) flX10_70 (pc := 32) dX10_put_32 <|
pw_iload_n (pc := 35) dX10_put_35 2 rfl <|
pw_aaldS (pc := 36) dX10_put_36 fun hs4 =>
pw_iload_n (pc := 37) dX10_put_37 3 rfl <|
pw_iload_n (pc := 38) dX10_put_38 4 rfl <|
pw_callV_wv (n := 2) (rest := []) (tX5_take K.2.1 G hs4 a2 a3 m0) (pw_shShelf hs4) cfX5 rfl miX5_take mlX10_344 (pc := 39) dX10_put_39 rfl rfl (by decide) (Nat.le_of_ble_eq_true rfl) fun m5 =>
pw_iconst (v := 0) (pc := 42) dX10_put_42 (by decide) <|
pw_iret (a := (0 : Int32)) (v := ((0 : Int32), m5)) hH rfl (pc := 43) dX10_put_43) (fun h7 => pw_bipush (v := -13) (pc := 28) dX10_put_28 (by decide) <|
pw_iret (a := (-13 : Int32)) (v := ((-13 : Int32), m0)) hH rfl (pc := 30) dX10_put_30)) (fun h9 => pw_iload (pc := 12) dX10_put_12 0 rfl <|
pw_iret (a := y1) (v := (y1, m0)) hH rfl (pc := 14) dX10_put_14))
set_option maxHeartbeats 4000000 in
theorem tX10_copy (l : Launch) (G : pw_G) (a1 : Int32) (a2 : Int32) (a3 : Int32) (a4 : Int32) (a5 : Int32) (m0 : pw_Mem) : PMet l G yX10_copy cX10_copy 8 (some .int) 1 [.ref (pw_ad G 0), .int a1, .int a2, .int a3, .int a4, .int a5] m0 pw_Wi (fX10_copy a1 a2 a3 a4 a5 m0) :=
  pw_met (own := RX10) (l0 := [(0, .ref (pw_ad G 0)), (1, .int a1), (2, .int a2), (3, .int a3), (4, .int a4), (5, .int a5)]) rfl (by decide) rfl (Nat.le_of_ble_eq_true rfl) fun K hK hH => by
  delta fX10_copy
  exact (pw_iload_n (pc := 0) dX10_copy_0 1 rfl <|
pw_callS_rz (n := 1) (rest := []) (tX10_isShelf K.2.1 G a1 m0) miX10_isShelf mlX10_164 (pc := 1) dX10_copy_1 rfl rfl (by decide) (Nat.le_of_ble_eq_true rfl) fun y1 =>
pw_ifz_eq (tgt := 14) (pc := 4) dX10_copy_4 (by decide) (fun h27 => pw_iload_n (pc := 7) dX10_copy_7 3 rfl <|
pw_callS_rz (n := 1) (rest := []) (tX10_isShelf K.2.1 G a3 m0) miX10_isShelf mlX10_164 (pc := 8) dX10_copy_8 rfl rfl (by decide) (Nat.le_of_ble_eq_true rfl) fun y2 =>
pw_ifz_ne (tgt := 16) (pc := 11) dX10_copy_11 (by decide) (fun h25 => pw_aload_n (pc := 16) dX10_copy_16 0 rfl <|
pw_getR (o := 0) (k := 9) (t := 54) (pw_sh_0) cfX10 rfl (by decide) flX10_70 (pc := 17) dX10_copy_17 <|
pw_iload_n (pc := 20) dX10_copy_20 1 rfl <|
pw_aaldS (pc := 21) dX10_copy_21 fun hs3 =>
pw_astore [(6, .ref (pw_ad G (55 + 2 * (a1).toNatClampNeg))), (0, .ref (pw_ad G 0)), (1, .int a1), (2, .int a2), (3, .int a3), (4, .int a4), (5, .int a5)] (pc := 22) dX10_copy_22 (by decide) rfl <|
pw_aload_n (pc := 24) dX10_copy_24 1 rfl <|
pw_getR (o := 0) (k := 9) (t := 54) (pw_sh_0) cfX10 rfl (by decide) flX10_70 (pc := 25) dX10_copy_25 <|
pw_iload_n (pc := 28) dX10_copy_28 4 rfl <|
pw_aaldS (pc := 29) dX10_copy_29 fun hs4 =>
pw_astore [(7, .ref (pw_ad G (55 + 2 * (a3).toNatClampNeg))), (6, .ref (pw_ad G (55 + 2 * (a1).toNatClampNeg))), (0, .ref (pw_ad G 0)), (1, .int a1), (2, .int a2), (3, .int a3), (4, .int a4), (5, .int a5)] (pc := 30) dX10_copy_30 (by decide) rfl <|
pw_aload (pc := 32) dX10_copy_32 1 rfl <|
pw_getI (o := (55 + 2 * (a1).toNatClampNeg)) (k := 1) (pw_shShelf hs3) cfX5 rfl (by decide) flX10_329 (pc := 34) dX10_copy_34 <|
pw_if_eq (a := (m0 (55 + 2 * (a1).toNatClampNeg) 1)) (b := 0) (tgt := 48) (pc := 37) dX10_copy_37 (by decide) (fun h23 => pw_bipush (v := -11) (pc := 48) dX10_copy_48 (by decide) <|
pw_iret (a := (-11 : Int32)) (v := ((-11 : Int32), m0)) hH rfl (pc := 50) dX10_copy_50) (fun h24 => pw_aload (pc := 40) dX10_copy_40 0 rfl <|
pw_getI (o := (55 + 2 * (a3).toNatClampNeg)) (k := 1) (pw_shShelf hs4) cfX5 rfl (by decide) flX10_329 (pc := 42) dX10_copy_42 <|
pw_if_ne (a := (m0 (55 + 2 * (a3).toNatClampNeg) 1)) (b := 0) (tgt := 51) (pc := 45) dX10_copy_45 (by decide) (fun h21 => pw_aload (pc := 51) dX10_copy_51 1 rfl <|
pw_getI (o := (55 + 2 * (a1).toNatClampNeg)) (k := 1) (pw_shShelf hs3) cfX5 rfl (by decide) flX10_329 (pc := 53) dX10_copy_53 <|
pw_iconst (v := 2) (pc := 56) dX10_copy_56 (by decide) <|
pw_icmp_ne  (tgt := 82) (pc := 57) dX10_copy_57 (by decide) (fun h19 => pw_bipush (v := -12) (pc := 82) dX10_copy_82 (by decide) <|
pw_iret (a := (-12 : Int32)) (v := ((-12 : Int32), m0)) hH rfl (pc := 84) dX10_copy_84) (fun h20 => pw_aload (pc := 60) dX10_copy_60 0 rfl <|
pw_getI (o := (55 + 2 * (a3).toNatClampNeg)) (k := 1) (pw_shShelf hs4) cfX5 rfl (by decide) flX10_329 (pc := 62) dX10_copy_62 <|
pw_iconst (v := 2) (pc := 65) dX10_copy_65 (by decide) <|
pw_icmp_ne  (tgt := 82) (pc := 66) dX10_copy_66 (by decide) (fun h17 => pw_bipush (v := -12) (pc := 82) dX10_copy_82 (by decide) <|
pw_iret (a := (-12 : Int32)) (v := ((-12 : Int32), m0)) hH rfl (pc := 84) dX10_copy_84) (fun h18 => pw_aload (pc := 69) dX10_copy_69 1 rfl <|
pw_getI (o := (55 + 2 * (a1).toNatClampNeg)) (k := 4) (pw_shShelf hs3) cfX5 rfl (by decide) flX10_79 (pc := 71) dX10_copy_71 <|
pw_aload (pc := 74) dX10_copy_74 0 rfl <|
pw_getI (o := (55 + 2 * (a3).toNatClampNeg)) (k := 4) (pw_shShelf hs4) cfX5 rfl (by decide) flX10_79 (pc := 76) dX10_copy_76 <|
pw_icmp_eq  (tgt := 85) (pc := 79) dX10_copy_79 (by decide) (fun h15 => pw_iload (pc := 85) dX10_copy_85 7 rfl <|
pw_if_lt (a := a5) (b := 0) (tgt := 113) (pc := 87) dX10_copy_87 (by decide) (fun h13 => pw_bipush (v := -13) (pc := 113) dX10_copy_113 (by decide) <|
pw_iret (a := (-13 : Int32)) (v := ((-13 : Int32), m0)) hH rfl (pc := 115) dX10_copy_115) (fun h14 => pw_aload (pc := 90) dX10_copy_90 1 rfl <|
pw_iload_n (pc := 92) dX10_copy_92 4 rfl <|
pw_iload (pc := 93) dX10_copy_93 7 rfl <|
pw_callV_rz (n := 2) (rest := []) (tX5_hasPart K.2.1 G hs3 a2 a5 m0) (pw_shShelf hs3) cfX5 rfl miX5_hasPart mlX10_359 (pc := 95) dX10_copy_95 rfl rfl (by decide) (Nat.le_of_ble_eq_true rfl) fun y5 =>
pw_ifz_eq (tgt := 113) (pc := 98) dX10_copy_98 (by decide) (fun h11 => pw_aload (pc := 101) dX10_copy_101 0 rfl <|
pw_iload (pc := 103) dX10_copy_103 6 rfl <|
pw_iload (pc := 105) dX10_copy_105 7 rfl <|
pw_callV_rz (n := 2) (rest := []) (tX5_hasPart K.2.1 G hs4 a4 a5 m0) (pw_shShelf hs4) cfX5 rfl miX5_hasPart mlX10_359 (pc := 107) dX10_copy_107 rfl rfl (by decide) (Nat.le_of_ble_eq_true rfl) fun y6 =>
pw_ifz_ne (tgt := 116) (pc := 110) dX10_copy_110 (by decide) (fun h9 => pw_aload (pc := 116) dX10_copy_116 1 rfl <|
pw_getR (o := (55 + 2 * (a1).toNatClampNeg)) (k := 0) (t := ((55 + 2 * (a1).toNatClampNeg) + 1)) (pw_shShelf hs3) cfX5 rfl (by decide) flX10_362 (pc := 118) dX10_copy_118 <|
pw_iload_n (pc := 121) dX10_copy_121 4 rfl <|
pw_aload (pc := 122) dX10_copy_122 0 rfl <|
pw_getR (o := (55 + 2 * (a3).toNatClampNeg)) (k := 0) (t := ((55 + 2 * (a3).toNatClampNeg) + 1)) (pw_shShelf hs4) cfX5 rfl (by decide) flX10_362 (pc := 124) dX10_copy_124 <|
pw_iload (pc := 127) dX10_copy_127 6 rfl <|
pw_iload (pc := 129) dX10_copy_129 7 rfl <|
pw_acopy (pw_shShelfE hs3) (pw_shShelfE hs4) mlX10_365 ms_acopy mn_acopy ms_system (pc := 131) dX10_copy_131 (by decide) (Nat.le_of_ble_eq_true rfl) <| pw_ltM fun m7 =>
pw_iload (pc := 134) dX10_copy_134 7 rfl <|
pw_iret (a := a5) (v := (a5, m7)) hH rfl (pc := 136) dX10_copy_136) (fun h10 => pw_bipush (v := -13) (pc := 113) dX10_copy_113 (by decide) <|
pw_iret (a := (-13 : Int32)) (v := ((-13 : Int32), m0)) hH rfl (pc := 115) dX10_copy_115)) (fun h12 => pw_bipush (v := -13) (pc := 113) dX10_copy_113 (by decide) <|
pw_iret (a := (-13 : Int32)) (v := ((-13 : Int32), m0)) hH rfl (pc := 115) dX10_copy_115))) (fun h16 => pw_bipush (v := -12) (pc := 82) dX10_copy_82 (by decide) <|
pw_iret (a := (-12 : Int32)) (v := ((-12 : Int32), m0)) hH rfl (pc := 84) dX10_copy_84)))) (fun h22 => pw_bipush (v := -11) (pc := 48) dX10_copy_48 (by decide) <|
pw_iret (a := (-11 : Int32)) (v := ((-11 : Int32), m0)) hH rfl (pc := 50) dX10_copy_50))) (fun h26 => pw_iconst (v := -1) (pc := 14) dX10_copy_14 (by decide) <|
pw_iret (a := (-1 : Int32)) (v := ((-1 : Int32), m0)) hH rfl (pc := 15) dX10_copy_15)) (fun h28 => pw_iconst (v := -1) (pc := 14) dX10_copy_14 (by decide) <|
pw_iret (a := (-1 : Int32)) (v := ((-1 : Int32), m0)) hH rfl (pc := 15) dX10_copy_15))
set_option maxHeartbeats 4000000 in
theorem tX10_cost (l : Launch) (G : pw_G) (a1 : Int32) (m0 : pw_Mem) : PMet l G yX10_cost cX10_cost 3 (some .int) 3 [.ref (pw_ad G 0), .int a1] m0 (pw_Ri m0) (fX10_cost a1 m0) :=
  pw_met (own := RX10) (l0 := [(0, .ref (pw_ad G 0)), (1, .int a1)]) rfl (by decide) rfl (Nat.le_of_ble_eq_true rfl) fun K hK hH => by
  delta fX10_cost
  exact (pw_aload_n (pc := 0) dX10_cost_0 0 rfl <|
pw_iload_n (pc := 1) dX10_cost_1 1 rfl <|
pw_callV_ri (n := 1) (rest := []) (tX10_kindRefusal K.2.1 G a1 m0) (pw_sh_0) cfX10 rfl miX10_kindRefusal mlX10_170 (pc := 2) dX10_cost_2 rfl rfl (by decide) (Nat.le_of_ble_eq_true rfl) fun y1 =>
pw_istore_n [(2, .int y1), (0, .ref (pw_ad G 0)), (1, .int a1)] (pc := 5) dX10_cost_5 (by decide) rfl <|
pw_iload_n (pc := 6) dX10_cost_6 0 rfl <|
pw_if_eq (a := y1) (b := 0) (tgt := 14) (pc := 7) dX10_cost_7 (by decide) (fun h5 => pw_aload_n (pc := 14) dX10_cost_14 1 rfl <|
pw_getR (o := 0) (k := 9) (t := 54) (pw_sh_0) cfX10 rfl (by decide) flX10_70 (pc := 15) dX10_cost_15 <|
pw_iload_n (pc := 18) dX10_cost_18 2 rfl <|
pw_aaldS (pc := 19) dX10_cost_19 fun hs2 =>
pw_getI (o := (55 + 2 * (a1).toNatClampNeg)) (k := 2) (pw_shShelf hs2) cfX5 rfl (by decide) flX10_176 (pc := 20) dX10_cost_20 <|
pw_aload_n (pc := 23) dX10_cost_23 1 rfl <|
pw_getR (o := 0) (k := 9) (t := 54) (pw_sh_0) cfX10 rfl (by decide) flX10_70 (pc := 24) dX10_cost_24 <|
pw_iload_n (pc := 27) dX10_cost_27 2 rfl <|
pw_aaldS (pc := 28) dX10_cost_28 fun hs3 =>
pw_getI (o := (55 + 2 * (a1).toNatClampNeg)) (k := 3) (pw_shShelf hs3) cfX5 rfl (by decide) flX10_178 (pc := 29) dX10_cost_29 <|
pw_callS_ri (n := 2) (rest := []) (tX3_costs K.2.1 G (m0 (55 + 2 * (a1).toNatClampNeg) 2) (m0 (55 + 2 * (a1).toNatClampNeg) 3) m0) miX3_costs mlX10_371 (pc := 32) dX10_cost_32 rfl rfl (by decide) (Nat.le_of_ble_eq_true rfl) fun y4 =>
pw_iret (a := y4) (v := y4) hH rfl (pc := 35) dX10_cost_35) (fun h6 => pw_iload_n (pc := 10) dX10_cost_10 0 rfl <|
pw_goto (tgt := 35) (pc := 11) dX10_cost_11 (by decide) <|
pw_iret (a := y1) (v := y1) hH rfl (pc := 35) dX10_cost_35))
