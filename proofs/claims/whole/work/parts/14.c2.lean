set_option maxRecDepth 100000
set_option maxHeartbeats 4000000 in
theorem tX0_tiedTo (l : Launch) (G : pw_G) (a1 : Int32) (a2 : Int32) (m0 : pw_Mem) : PMet l G yX0_tiedTo cX0_tiedTo 6 (some .int) 0 [.ref (pw_ad G 50), .int a1, .int a2] m0 (pw_Ri m0) (fX0_tiedTo a1 a2 m0) :=
  pw_met (own := RX0) (l0 := [(0, .ref (pw_ad G 50)), (1, .int a1), (2, .int a2)]) rfl (by decide) rfl (Nat.le_of_ble_eq_true rfl) fun K hK hH => by
  delta fX0_tiedTo
  exact (pw_iload_n (pc := 0) dX0_tiedTo_0 1 rfl <|
pw_istore_n [(3, .int a1), (0, .ref (pw_ad G 50)), (1, .int a1), (2, .int a2)] (pc := 1) dX0_tiedTo_1 (by decide) rfl <|
pw_iconst (v := 0) (pc := 2) dX0_tiedTo_2 (by decide) <|
pw_istore [(4, .int (0 : Int32)), (3, .int a1), (0, .ref (pw_ad G 50)), (1, .int a1), (2, .int a2)] (pc := 3) dX0_tiedTo_3 (by decide) rfl <|
pw_lp (fun (kk20 : Int32 → Int32 → Option Int32) => ∀ (v1 : Int32) (v2 : Int32), PW K G RX0 cX0_tiedTo 6 (some .int) 0 (pw_MQ K G (pw_Ri m0)) (kk20 v1 v2) 5 [(4, .int v2), (3, .int v1), (0, .ref (pw_ad G 50)), (1, .int a1), (2, .int a2)] [] m0) (fun _ _ => pw_none) (fun nx3 hn4 v1 v2 => pw_iload (pc := 5) dX0_tiedTo_5 0 rfl <|
pw_aload_n (pc := 7) dX0_tiedTo_7 2 rfl <|
pw_getR (o := 50) (k := 0) (t := 1) (pw_sh_50) cfX0 rfl (by decide) flX0_9 (pc := 8) dX0_tiedTo_8 <|
pw_getI (o := 1) (k := 12) (pw_shTown pw_t1) cfX7 rfl (by decide) flX0_39 (pc := 11) dX0_tiedTo_11 <|
pw_icmp_ge  (tgt := 83) (pc := 14) dX0_tiedTo_14 (by decide) (fun h18 => pw_iload_n (pc := 83) dX0_tiedTo_83 1 rfl <|
pw_iret (a := v1) (v := v1) hH rfl (pc := 84) dX0_tiedTo_84) (fun h19 => pw_aload_n (pc := 17) dX0_tiedTo_17 2 rfl <|
pw_getR (o := 50) (k := 0) (t := 1) (pw_sh_50) cfX0 rfl (by decide) flX0_9 (pc := 18) dX0_tiedTo_18 <|
pw_getI (o := 1) (k := 13) (pw_shTown pw_t1) cfX7 rfl (by decide) flX0_53 (pc := 21) dX0_tiedTo_21 <|
pw_iload_n (pc := 24) dX0_tiedTo_24 4 rfl <|
pw_ior (pc := 25) dX0_tiedTo_25 <|
pw_iload (pc := 26) dX0_tiedTo_26 0 rfl <|
pw_ishr (pc := 28) dX0_tiedTo_28 <|
pw_iconst (v := 1) (pc := 29) dX0_tiedTo_29 (by decide) <|
pw_iand (pc := 30) dX0_tiedTo_30 <|
pw_jn (fun (k7 : Int32 → Option Int32) => ∀ (v5 : Int32), PW K G RX0 cX0_tiedTo 6 (some .int) 0 (pw_MQ K G (pw_Ri m0)) (k7 v5) 77 [(4, .int v2), (3, .int v5), (0, .ref (pw_ad G 50)), (1, .int a1), (2, .int a2)] [] m0) (fun v5 => pw_ltA fun x6 hxx6 => pw_iinc (v := x6) [(4, .int x6), (3, .int v5), (0, .ref (pw_ad G 50)), (1, .int a1), (2, .int a2)] (pc := 77) dX0_tiedTo_77 0 rfl (by rw [hxx6]; rfl) (by decide) rfl <|
pw_goto (tgt := 5) (pc := 80) dX0_tiedTo_80 (by decide) <|
hn4 v5 x6) (fun k7 hk8 => pw_if_ne (a := ((((m0 1 13) ||| a2) >>> (v2 &&& 31)) &&& (1 : Int32))) (b := 0) (tgt := 77) (pc := 31) dX0_tiedTo_31 (by decide) (fun h16 => hk8 v1) (fun h17 => pw_iconst (v := 1) (pc := 34) dX0_tiedTo_34 (by decide) <|
pw_aload_n (pc := 35) dX0_tiedTo_35 2 rfl <|
pw_getR (o := 50) (k := 0) (t := 1) (pw_sh_50) cfX0 rfl (by decide) flX0_9 (pc := 36) dX0_tiedTo_36 <|
pw_getR (o := 1) (k := 5) (t := (1 + 6)) (pw_shTown pw_t1) cfX7 rfl (by decide) flX0_42 (pc := 39) dX0_tiedTo_39 <|
pw_iload (pc := 42) dX0_tiedTo_42 0 rfl <|
pw_iald (pw_shTown5 pw_t1) (pc := 44) dX0_tiedTo_44 <|
pw_ishl (pc := 45) dX0_tiedTo_45 <|
pw_iconst (v := 1) (pc := 46) dX0_tiedTo_46 (by decide) <|
pw_aload_n (pc := 47) dX0_tiedTo_47 2 rfl <|
pw_getR (o := 50) (k := 0) (t := 1) (pw_sh_50) cfX0 rfl (by decide) flX0_9 (pc := 48) dX0_tiedTo_48 <|
pw_getR (o := 1) (k := 6) (t := (1 + 7)) (pw_shTown pw_t1) cfX7 rfl (by decide) flX0_50 (pc := 51) dX0_tiedTo_51 <|
pw_iload (pc := 54) dX0_tiedTo_54 0 rfl <|
pw_iald (pw_shTown6 pw_t1) (pc := 56) dX0_tiedTo_56 <|
pw_ishl (pc := 57) dX0_tiedTo_57 <|
pw_ior (pc := 58) dX0_tiedTo_58 <|
pw_ltI fun x9 => pw_istore [(5, .int x9), (4, .int v2), (3, .int v1), (0, .ref (pw_ad G 50)), (1, .int a1), (2, .int a2)] (pc := 59) dX0_tiedTo_59 (by decide) rfl <|
pw_iload_n (pc := 61) dX0_tiedTo_61 2 rfl <|
pw_iload_n (pc := 62) dX0_tiedTo_62 4 rfl <|
pw_iload (pc := 63) dX0_tiedTo_63 0 rfl <|
pw_iand (pc := 65) dX0_tiedTo_65 <|
pw_jn (fun (k12 : Int32 → Option Int32) => ∀ (w10 : Int32), PW K G RX0 cX0_tiedTo 6 (some .int) 0 (pw_MQ K G (pw_Ri m0)) (k12 w10) 75 [(4, .int v2), (0, .ref (pw_ad G 50)), (1, .int a1), (2, .int a2)] [.int w10, .int v1] m0) (fun w10 => pw_ior (pc := 75) dX0_tiedTo_75 <|
pw_ltI fun x11 => pw_istore_n [(3, .int x11), (4, .int v2), (0, .ref (pw_ad G 50)), (1, .int a1), (2, .int a2)] (pc := 76) dX0_tiedTo_76 (by decide) rfl <|
pw_sub [1, 0, 2, 3, 4] rfl <| hk8 x11) (fun k12 hk13 => pw_if_eq (a := (a1 &&& x9)) (b := 0) (tgt := 74) (pc := 66) dX0_tiedTo_66 (by decide) (fun h14 => pw_iconst (v := 0) (pc := 74) dX0_tiedTo_74 (by decide) <|
pw_sub [1, 3, 4, 5] rfl <| hk13 (0 : Int32)) (fun h15 => pw_iload (pc := 69) dX0_tiedTo_69 0 rfl <|
pw_goto (tgt := 75) (pc := 71) dX0_tiedTo_71 (by decide) <|
pw_sub [1, 3, 4, 5] rfl <| hk13 x9)))))) FU a1 (0 : Int32))
set_option maxHeartbeats 4000000 in
theorem tX0_clanOf (l : Launch) (G : pw_G) (a1 : Int32) (a2 : Int32) (m0 : pw_Mem) : PMet l G yX0_clanOf cX0_clanOf 5 (some .int) 1 [.ref (pw_ad G 50), .int a1, .int a2] m0 (pw_Ri m0) (fX0_clanOf a1 a2 m0) :=
  pw_met (own := RX0) (l0 := [(0, .ref (pw_ad G 50)), (1, .int a1), (2, .int a2)]) rfl (by decide) rfl (Nat.le_of_ble_eq_true rfl) fun K hK hH => by
  delta fX0_clanOf
  exact (pw_iconst (v := 1) (pc := 0) dX0_clanOf_0 (by decide) <|
pw_iload_n (pc := 1) dX0_clanOf_1 1 rfl <|
pw_ishl (pc := 2) dX0_clanOf_2 <|
pw_ltI fun x1 => pw_istore_n [(3, .int x1), (0, .ref (pw_ad G 50)), (1, .int a1), (2, .int a2)] (pc := 3) dX0_clanOf_3 (by decide) rfl <|
pw_iconst (v := 1) (pc := 4) dX0_clanOf_4 (by decide) <|
pw_istore [(4, .int (1 : Int32)), (3, .int x1), (0, .ref (pw_ad G 50)), (1, .int a1), (2, .int a2)] (pc := 5) dX0_clanOf_5 (by decide) rfl <|
pw_sub [0, 1, 2, 4] rfl <| pw_lp (fun (kk10 : Int32 → Int32 → Option Int32) => ∀ (v2 : Int32) (v3 : Int32), PW K G RX0 cX0_clanOf 5 (some .int) 1 (pw_MQ K G (pw_Ri m0)) (kk10 v2 v3) 7 [(4, .int v3), (3, .int v2), (0, .ref (pw_ad G 50)), (2, .int a2)] [] m0) (fun _ _ => pw_none) (fun nx4 hn5 v2 v3 => pw_iload (pc := 7) dX0_clanOf_7 0 rfl <|
pw_aload_n (pc := 9) dX0_clanOf_9 2 rfl <|
pw_getR (o := 50) (k := 0) (t := 1) (pw_sh_50) cfX0 rfl (by decide) flX0_9 (pc := 10) dX0_clanOf_10 <|
pw_getI (o := 1) (k := 11) (pw_shTown pw_t1) cfX7 rfl (by decide) flX0_15 (pc := 13) dX0_clanOf_13 <|
pw_icmp_ge  (tgt := 32) (pc := 16) dX0_clanOf_16 (by decide) (fun h8 => pw_iload_n (pc := 32) dX0_clanOf_32 1 rfl <|
pw_iret (a := v2) (v := v2) hH rfl (pc := 33) dX0_clanOf_33) (fun h9 => pw_aload_n (pc := 19) dX0_clanOf_19 2 rfl <|
pw_iload_n (pc := 20) dX0_clanOf_20 1 rfl <|
pw_iload_n (pc := 21) dX0_clanOf_21 3 rfl <|
pw_callV_ri (n := 2) (rest := []) (tX0_tiedTo K.2.1 G v2 a2 m0) (pw_sh_50) cfX0 rfl miX0_tiedTo mlX0_36 (pc := 22) dX0_clanOf_22 rfl rfl (by decide) (Nat.le_of_ble_eq_true rfl) fun y6 =>
pw_istore_n [(3, .int y6), (4, .int v3), (0, .ref (pw_ad G 50)), (2, .int a2)] (pc := 25) dX0_clanOf_25 (by decide) rfl <|
pw_ltA fun x7 hxx7 => pw_iinc (v := x7) [(4, .int x7), (3, .int y6), (0, .ref (pw_ad G 50)), (2, .int a2)] (pc := 26) dX0_clanOf_26 1 rfl (by rw [hxx7]; rfl) (by decide) rfl <|
pw_goto (tgt := 7) (pc := 29) dX0_clanOf_29 (by decide) <|
hn5 y6 x7)) FU x1 (1 : Int32))
set_option maxHeartbeats 4000000 in
theorem tX0_howMany (l : Launch) (G : pw_G)  (m0 : pw_Mem) : PMet l G yX0_howMany cX0_howMany 4 (some .int) 2 [.ref (pw_ad G 50)] m0 (pw_Ri m0) (fX0_howMany m0) :=
  pw_met (own := RX0) (l0 := [(0, .ref (pw_ad G 50))]) rfl (by decide) rfl (Nat.le_of_ble_eq_true rfl) fun K hK hH => by
  delta fX0_howMany
  exact (pw_iconst (v := 0) (pc := 0) dX0_howMany_0 (by decide) <|
pw_istore_n [(1, .int (0 : Int32)), (0, .ref (pw_ad G 50))] (pc := 1) dX0_howMany_1 (by decide) rfl <|
pw_iconst (v := 0) (pc := 2) dX0_howMany_2 (by decide) <|
pw_istore_n [(2, .int (0 : Int32)), (1, .int (0 : Int32)), (0, .ref (pw_ad G 50))] (pc := 3) dX0_howMany_3 (by decide) rfl <|
pw_iconst (v := 0) (pc := 4) dX0_howMany_4 (by decide) <|
pw_istore_n [(3, .int (0 : Int32)), (2, .int (0 : Int32)), (1, .int (0 : Int32)), (0, .ref (pw_ad G 50))] (pc := 5) dX0_howMany_5 (by decide) rfl <|
pw_lp (fun (kk18 : Int32 → Int32 → Int32 → Option Int32) => ∀ (v1 : Int32) (v2 : Int32) (v3 : Int32), PW K G RX0 cX0_howMany 4 (some .int) 2 (pw_MQ K G (pw_Ri m0)) (kk18 v1 v2 v3) 6 [(3, .int v3), (2, .int v2), (1, .int v1), (0, .ref (pw_ad G 50))] [] m0) (fun _ _ _ => pw_none) (fun nx4 hn5 v1 v2 v3 => pw_iload_n (pc := 6) dX0_howMany_6 0 rfl <|
pw_aload_n (pc := 7) dX0_howMany_7 3 rfl <|
pw_getR (o := 50) (k := 0) (t := 1) (pw_sh_50) cfX0 rfl (by decide) flX0_9 (pc := 8) dX0_howMany_8 <|
pw_getI (o := 1) (k := 11) (pw_shTown pw_t1) cfX7 rfl (by decide) flX0_15 (pc := 11) dX0_howMany_11 <|
pw_icmp_ge  (tgt := 43) (pc := 14) dX0_howMany_14 (by decide) (fun h16 => pw_iload_n (pc := 43) dX0_howMany_43 1 rfl <|
pw_iret (a := v2) (v := v2) hH rfl (pc := 44) dX0_howMany_44) (fun h17 => pw_iload_n (pc := 17) dX0_howMany_17 2 rfl <|
pw_iload_n (pc := 18) dX0_howMany_18 0 rfl <|
pw_ishr (pc := 19) dX0_howMany_19 <|
pw_iconst (v := 1) (pc := 20) dX0_howMany_20 (by decide) <|
pw_iand (pc := 21) dX0_howMany_21 <|
pw_jn (fun (k9 : Int32 → Int32 → Option Int32) => ∀ (v6 : Int32) (v7 : Int32), PW K G RX0 cX0_howMany 4 (some .int) 2 (pw_MQ K G (pw_Ri m0)) (k9 v6 v7) 37 [(3, .int v3), (2, .int v7), (1, .int v6), (0, .ref (pw_ad G 50))] [] m0) (fun v6 v7 => pw_ltA fun x8 hxx8 => pw_iinc (v := x8) [(3, .int x8), (2, .int v7), (1, .int v6), (0, .ref (pw_ad G 50))] (pc := 37) dX0_howMany_37 0 rfl (by rw [hxx8]; rfl) (by decide) rfl <|
pw_goto (tgt := 6) (pc := 40) dX0_howMany_40 (by decide) <|
hn5 v6 v7 x8) (fun k9 hk10 => pw_if_ne (a := ((v1 >>> (v3 &&& 31)) &&& (1 : Int32))) (b := 0) (tgt := 37) (pc := 22) dX0_howMany_22 (by decide) (fun h14 => hk10 v1 v2) (fun h15 => pw_ltA fun x11 hxx11 => pw_iinc (v := x11) [(2, .int x11), (3, .int v3), (1, .int v1), (0, .ref (pw_ad G 50))] (pc := 25) dX0_howMany_25 1 rfl (by rw [hxx11]; rfl) (by decide) rfl <|
pw_iload_n (pc := 28) dX0_howMany_28 2 rfl <|
pw_aload_n (pc := 29) dX0_howMany_29 3 rfl <|
pw_iload_n (pc := 30) dX0_howMany_30 1 rfl <|
pw_iconst (v := 0) (pc := 31) dX0_howMany_31 (by decide) <|
pw_callV_ri (n := 2) (rest := [.int v1]) (tX0_clanOf K.2.1 G v3 (0 : Int32) m0) (pw_sh_50) cfX0 rfl miX0_clanOf mlX0_21 (pc := 32) dX0_howMany_32 rfl rfl (by decide) (Nat.le_of_ble_eq_true rfl) fun y12 =>
pw_ior (pc := 35) dX0_howMany_35 <|
pw_ltI fun x13 => pw_istore_n [(1, .int x13), (2, .int x11), (3, .int v3), (0, .ref (pw_ad G 50))] (pc := 36) dX0_howMany_36 (by decide) rfl <|
pw_sub [2, 1, 0, 3] rfl <| hk10 x13 x11)))) FU (0 : Int32) (0 : Int32) (0 : Int32))
set_option maxHeartbeats 4000000 in
theorem tX0_greatest (l : Launch) (G : pw_G)  (m0 : pw_Mem) : PMet l G yX0_greatest cX0_greatest 3 (some .int) 2 [.ref (pw_ad G 50)] m0 (pw_Ri m0) (fX0_greatest m0) :=
  pw_met (own := RX0) (l0 := [(0, .ref (pw_ad G 50))]) rfl (by decide) rfl (Nat.le_of_ble_eq_true rfl) fun K hK hH => by
  delta fX0_greatest
  exact (pw_iconst (v := 0) (pc := 0) dX0_greatest_0 (by decide) <|
pw_istore_n [(1, .int (0 : Int32)), (0, .ref (pw_ad G 50))] (pc := 1) dX0_greatest_1 (by decide) rfl <|
pw_iconst (v := 0) (pc := 2) dX0_greatest_2 (by decide) <|
pw_istore_n [(2, .int (0 : Int32)), (1, .int (0 : Int32)), (0, .ref (pw_ad G 50))] (pc := 3) dX0_greatest_3 (by decide) rfl <|
pw_lp (fun (kk11 : Int32 → Int32 → Option Int32) => ∀ (v1 : Int32) (v2 : Int32), PW K G RX0 cX0_greatest 3 (some .int) 2 (pw_MQ K G (pw_Ri m0)) (kk11 v1 v2) 4 [(2, .int v2), (1, .int v1), (0, .ref (pw_ad G 50))] [] m0) (fun _ _ => pw_none) (fun nx3 hn4 v1 v2 => pw_iload_n (pc := 4) dX0_greatest_4 0 rfl <|
pw_aload_n (pc := 5) dX0_greatest_5 2 rfl <|
pw_getR (o := 50) (k := 0) (t := 1) (pw_sh_50) cfX0 rfl (by decide) flX0_9 (pc := 6) dX0_greatest_6 <|
pw_getI (o := 1) (k := 11) (pw_shTown pw_t1) cfX7 rfl (by decide) flX0_15 (pc := 9) dX0_greatest_9 <|
pw_icmp_ge  (tgt := 35) (pc := 12) dX0_greatest_12 (by decide) (fun h9 => pw_iload_n (pc := 35) dX0_greatest_35 1 rfl <|
pw_iret (a := v1) (v := v1) hH rfl (pc := 36) dX0_greatest_36) (fun h10 => pw_iload_n (pc := 15) dX0_greatest_15 1 rfl <|
pw_aload_n (pc := 16) dX0_greatest_16 2 rfl <|
pw_iload_n (pc := 17) dX0_greatest_17 0 rfl <|
pw_iconst (v := 0) (pc := 18) dX0_greatest_18 (by decide) <|
pw_callV_ri (n := 2) (rest := [.int v1]) (tX0_clanOf K.2.1 G v2 (0 : Int32) m0) (pw_sh_50) cfX0 rfl miX0_clanOf mlX0_21 (pc := 19) dX0_greatest_19 rfl rfl (by decide) (Nat.le_of_ble_eq_true rfl) fun y5 =>
pw_callS_ri (n := 1) (rest := [.int v1]) (tJ6_bitCount_0f7a4 K.2.1 G y5 m0) miJ6_bitCount_0f7a4 mlX0_25 (pc := 22) dX0_greatest_22 rfl rfl (by decide) (Nat.le_of_ble_eq_true rfl) fun y6 =>
pw_mmax mlX0_31 ms_max ms_math mc_max (pc := 25) dX0_greatest_25 (by decide) (Nat.le_of_ble_eq_true rfl) <|
pw_ltI fun x7 => pw_istore_n [(1, .int x7), (2, .int v2), (0, .ref (pw_ad G 50))] (pc := 28) dX0_greatest_28 (by decide) rfl <|
pw_ltA fun x8 hxx8 => pw_iinc (v := x8) [(2, .int x8), (1, .int x7), (0, .ref (pw_ad G 50))] (pc := 29) dX0_greatest_29 1 rfl (by rw [hxx8]; rfl) (by decide) rfl <|
pw_goto (tgt := 4) (pc := 32) dX0_greatest_32 (by decide) <|
hn4 x7 x8)) FU (0 : Int32) (0 : Int32))
set_option maxHeartbeats 4000000 in
theorem tX0_bandsBetween (l : Launch) (G : pw_G) (a1 : Int32) (a2 : Int32) (m0 : pw_Mem) : PMet l G yX0_bandsBetween cX0_bandsBetween 5 (some .int) 1 [.ref (pw_ad G 50), .int a1, .int a2] m0 (pw_Ri m0) (fX0_bandsBetween a1 a2 m0) :=
  pw_met (own := RX0) (l0 := [(0, .ref (pw_ad G 50)), (1, .int a1), (2, .int a2)]) rfl (by decide) rfl (Nat.le_of_ble_eq_true rfl) fun K hK hH => by
  delta fX0_bandsBetween
  exact (pw_iconst (v := 1) (pc := 0) dX0_bandsBetween_0 (by decide) <|
pw_iload_n (pc := 1) dX0_bandsBetween_1 1 rfl <|
pw_ishl (pc := 2) dX0_bandsBetween_2 <|
pw_ltI fun x1 => pw_istore_n [(3, .int x1), (0, .ref (pw_ad G 50)), (1, .int a1), (2, .int a2)] (pc := 3) dX0_bandsBetween_3 (by decide) rfl <|
pw_iconst (v := 1) (pc := 4) dX0_bandsBetween_4 (by decide) <|
pw_istore [(4, .int (1 : Int32)), (3, .int x1), (0, .ref (pw_ad G 50)), (1, .int a1), (2, .int a2)] (pc := 5) dX0_bandsBetween_5 (by decide) rfl <|
pw_sub [0, 1, 2, 4] rfl <| pw_lp (fun (kk12 : Int32 → Int32 → Option Int32) => ∀ (v2 : Int32) (v3 : Int32), PW K G RX0 cX0_bandsBetween 5 (some .int) 1 (pw_MQ K G (pw_Ri m0)) (kk12 v2 v3) 7 [(4, .int v3), (3, .int v2), (0, .ref (pw_ad G 50)), (2, .int a2)] [] m0) (fun _ _ => pw_none) (fun nx4 hn5 v2 v3 => pw_iload (pc := 7) dX0_bandsBetween_7 0 rfl <|
pw_aload_n (pc := 9) dX0_bandsBetween_9 2 rfl <|
pw_getR (o := 50) (k := 0) (t := 1) (pw_sh_50) cfX0 rfl (by decide) flX0_9 (pc := 10) dX0_bandsBetween_10 <|
pw_getI (o := 1) (k := 11) (pw_shTown pw_t1) cfX7 rfl (by decide) flX0_15 (pc := 13) dX0_bandsBetween_13 <|
pw_icmp_ge  (tgt := 44) (pc := 16) dX0_bandsBetween_16 (by decide) (fun h10 => pw_bipush (v := -4) (pc := 44) dX0_bandsBetween_44 (by decide) <|
pw_iret (a := (-4 : Int32)) (v := (-4 : Int32)) hH rfl (pc := 46) dX0_bandsBetween_46) (fun h11 => pw_aload_n (pc := 19) dX0_bandsBetween_19 2 rfl <|
pw_iload_n (pc := 20) dX0_bandsBetween_20 1 rfl <|
pw_iconst (v := 0) (pc := 21) dX0_bandsBetween_21 (by decide) <|
pw_callV_ri (n := 2) (rest := []) (tX0_tiedTo K.2.1 G v2 (0 : Int32) m0) (pw_sh_50) cfX0 rfl miX0_tiedTo mlX0_36 (pc := 22) dX0_bandsBetween_22 rfl rfl (by decide) (Nat.le_of_ble_eq_true rfl) fun y6 =>
pw_istore_n [(3, .int y6), (4, .int v3), (0, .ref (pw_ad G 50)), (2, .int a2)] (pc := 25) dX0_bandsBetween_25 (by decide) rfl <|
pw_iload_n (pc := 26) dX0_bandsBetween_26 0 rfl <|
pw_iload_n (pc := 27) dX0_bandsBetween_27 3 rfl <|
pw_ishr (pc := 28) dX0_bandsBetween_28 <|
pw_iconst (v := 1) (pc := 29) dX0_bandsBetween_29 (by decide) <|
pw_iand (pc := 30) dX0_bandsBetween_30 <|
pw_iconst (v := 1) (pc := 31) dX0_bandsBetween_31 (by decide) <|
pw_icmp_ne  (tgt := 38) (pc := 32) dX0_bandsBetween_32 (by decide) (fun h8 => pw_ltA fun x7 hxx7 => pw_iinc (v := x7) [(4, .int x7), (3, .int y6), (0, .ref (pw_ad G 50)), (2, .int a2)] (pc := 38) dX0_bandsBetween_38 1 rfl (by rw [hxx7]; rfl) (by decide) rfl <|
pw_goto (tgt := 7) (pc := 41) dX0_bandsBetween_41 (by decide) <|
hn5 y6 x7) (fun h9 => pw_iload (pc := 35) dX0_bandsBetween_35 1 rfl <|
pw_iret (a := v3) (v := v3) hH rfl (pc := 37) dX0_bandsBetween_37))) FU x1 (1 : Int32))
set_option maxHeartbeats 4000000 in
theorem tX0_dividing (l : Launch) (G : pw_G)  (m0 : pw_Mem) : PMet l G yX0_dividing cX0_dividing 4 (some .int) 2 [.ref (pw_ad G 50)] m0 (pw_Ri m0) (fX0_dividing m0) :=
  pw_met (own := RX0) (l0 := [(0, .ref (pw_ad G 50))]) rfl (by decide) rfl (Nat.le_of_ble_eq_true rfl) fun K hK hH => by
  delta fX0_dividing
  exact (pw_iconst (v := 0) (pc := 0) dX0_dividing_0 (by decide) <|
pw_istore_n [(1, .int (0 : Int32)), (0, .ref (pw_ad G 50))] (pc := 1) dX0_dividing_1 (by decide) rfl <|
pw_iconst (v := 0) (pc := 2) dX0_dividing_2 (by decide) <|
pw_istore_n [(2, .int (0 : Int32)), (1, .int (0 : Int32)), (0, .ref (pw_ad G 50))] (pc := 3) dX0_dividing_3 (by decide) rfl <|
pw_lp (fun (kk18 : Int32 → Int32 → Option Int32) => ∀ (v1 : Int32) (v2 : Int32), PW K G RX0 cX0_dividing 4 (some .int) 2 (pw_MQ K G (pw_Ri m0)) (kk18 v1 v2) 4 [(2, .int v2), (1, .int v1), (0, .ref (pw_ad G 50))] [] m0) (fun _ _ => pw_none) (fun nx3 hn4 v1 v2 => pw_iload_n (pc := 4) dX0_dividing_4 0 rfl <|
pw_aload_n (pc := 5) dX0_dividing_5 2 rfl <|
pw_getR (o := 50) (k := 0) (t := 1) (pw_sh_50) cfX0 rfl (by decide) flX0_9 (pc := 6) dX0_dividing_6 <|
pw_getI (o := 1) (k := 12) (pw_shTown pw_t1) cfX7 rfl (by decide) flX0_39 (pc := 9) dX0_dividing_9 <|
pw_icmp_ge  (tgt := 71) (pc := 12) dX0_dividing_12 (by decide) (fun h16 => pw_iload_n (pc := 71) dX0_dividing_71 1 rfl <|
pw_iret (a := v1) (v := v1) hH rfl (pc := 72) dX0_dividing_72) (fun h17 => pw_aload_n (pc := 15) dX0_dividing_15 2 rfl <|
pw_aload_n (pc := 16) dX0_dividing_16 2 rfl <|
pw_getR (o := 50) (k := 0) (t := 1) (pw_sh_50) cfX0 rfl (by decide) flX0_9 (pc := 17) dX0_dividing_17 <|
pw_getR (o := 1) (k := 5) (t := (1 + 6)) (pw_shTown pw_t1) cfX7 rfl (by decide) flX0_42 (pc := 20) dX0_dividing_20 <|
pw_iload_n (pc := 23) dX0_dividing_23 0 rfl <|
pw_iald (pw_shTown5 pw_t1) (pc := 24) dX0_dividing_24 <|
pw_iconst (v := 1) (pc := 25) dX0_dividing_25 (by decide) <|
pw_iload_n (pc := 26) dX0_dividing_26 0 rfl <|
pw_ishl (pc := 27) dX0_dividing_27 <|
pw_callV_ri (n := 2) (rest := []) (tX0_clanOf K.2.1 G (m0 (1 + 6) (v2).toNatClampNeg) ((1 : Int32) <<< (v2 &&& 31)) m0) (pw_sh_50) cfX0 rfl miX0_clanOf mlX0_21 (pc := 28) dX0_dividing_28 rfl rfl (by decide) (Nat.le_of_ble_eq_true rfl) fun y5 =>
pw_istore_n [(3, .int y5), (2, .int v2), (1, .int v1), (0, .ref (pw_ad G 50))] (pc := 31) dX0_dividing_31 (by decide) rfl <|
pw_aload_n (pc := 32) dX0_dividing_32 3 rfl <|
pw_getR (o := 50) (k := 0) (t := 1) (pw_sh_50) cfX0 rfl (by decide) flX0_9 (pc := 33) dX0_dividing_33 <|
pw_iload_n (pc := 36) dX0_dividing_36 1 rfl <|
pw_callV_rz (n := 1) (rest := []) (tX7_isSnapped K.2.1 G pw_t1 v2 m0) (pw_shTown pw_t1) cfX7 rfl miX7_isSnapped mlX0_46 (pc := 37) dX0_dividing_37 rfl rfl (by decide) (Nat.le_of_ble_eq_true rfl) fun y6 =>
pw_jn (fun (k9 : Int32 → Option Int32) => ∀ (v7 : Int32), PW K G RX0 cX0_dividing 4 (some .int) 2 (pw_MQ K G (pw_Ri m0)) (k9 v7) 65 [(2, .int v2), (1, .int v7), (0, .ref (pw_ad G 50))] [] m0) (fun v7 => pw_ltA fun x8 hxx8 => pw_iinc (v := x8) [(2, .int x8), (1, .int v7), (0, .ref (pw_ad G 50))] (pc := 65) dX0_dividing_65 0 rfl (by rw [hxx8]; rfl) (by decide) rfl <|
pw_goto (tgt := 4) (pc := 68) dX0_dividing_68 (by decide) <|
hn4 v7 x8) (fun k9 hk10 => pw_ifz_ne (tgt := 65) (pc := 40) dX0_dividing_40 (by decide) (fun h14 => pw_sub [1, 2, 3] rfl <| hk10 v1) (fun h15 => pw_iload_n (pc := 43) dX0_dividing_43 0 rfl <|
pw_aload_n (pc := 44) dX0_dividing_44 3 rfl <|
pw_getR (o := 50) (k := 0) (t := 1) (pw_sh_50) cfX0 rfl (by decide) flX0_9 (pc := 45) dX0_dividing_45 <|
pw_getR (o := 1) (k := 6) (t := (1 + 7)) (pw_shTown pw_t1) cfX7 rfl (by decide) flX0_50 (pc := 48) dX0_dividing_48 <|
pw_iload_n (pc := 51) dX0_dividing_51 1 rfl <|
pw_iald (pw_shTown6 pw_t1) (pc := 52) dX0_dividing_52 <|
pw_ishr (pc := 53) dX0_dividing_53 <|
pw_iconst (v := 1) (pc := 54) dX0_dividing_54 (by decide) <|
pw_iand (pc := 55) dX0_dividing_55 <|
pw_if_ne (a := ((y5 >>> ((m0 (1 + 7) (v2).toNatClampNeg) &&& 31)) &&& (1 : Int32))) (b := 0) (tgt := 65) (pc := 56) dX0_dividing_56 (by decide) (fun h12 => pw_sub [1, 2, 3] rfl <| hk10 v1) (fun h13 => pw_iload_n (pc := 59) dX0_dividing_59 2 rfl <|
pw_iconst (v := 1) (pc := 60) dX0_dividing_60 (by decide) <|
pw_iload_n (pc := 61) dX0_dividing_61 1 rfl <|
pw_ishl (pc := 62) dX0_dividing_62 <|
pw_ior (pc := 63) dX0_dividing_63 <|
pw_ltI fun x11 => pw_istore_n [(1, .int x11), (3, .int y5), (2, .int v2), (0, .ref (pw_ad G 50))] (pc := 64) dX0_dividing_64 (by decide) rfl <|
pw_sub [2, 0, 3] rfl <| hk10 x11))))) FU (0 : Int32) (0 : Int32))
set_option maxHeartbeats 4000000 in
theorem tX0_power (l : Launch) (G : pw_G) (a1 : Int32) (a2 : Int32) (m0 : pw_Mem) : PMet l G yX0_power cX0_power 5 (some .long) 0 [.int a1, .int a2] m0 (pw_Rl m0) (fX0_power a1 a2 m0) :=
  pw_met (own := RX0) (l0 := [(0, .int a1), (1, .int a2)]) rfl (by decide) rfl (Nat.le_of_ble_eq_true rfl) fun K hK hH => by
  delta fX0_power
  exact (pw_lconst (v := 1) (pc := 0) dX0_power_0 rfl <|
pw_lstore_n [(2, .long (1 : Int64)), (0, .int a1), (1, .int a2)] (pc := 1) dX0_power_1 (by decide) rfl <|
pw_iconst (v := 0) (pc := 2) dX0_power_2 (by decide) <|
pw_istore [(4, .int (0 : Int32)), (2, .long (1 : Int64)), (0, .int a1), (1, .int a2)] (pc := 3) dX0_power_3 (by decide) rfl <|
pw_lp (fun (kk9 : Int64 → Int32 → Option Int64) => ∀ (v1 : Int64) (v2 : Int32), PW K G RX0 cX0_power 5 (some .long) 0 (pw_MQ K G (pw_Rl m0)) (kk9 v1 v2) 5 [(4, .int v2), (2, .long v1), (0, .int a1), (1, .int a2)] [] m0) (fun _ _ => pw_none) (fun nx3 hn4 v1 v2 => pw_iload (pc := 5) dX0_power_5 0 rfl <|
pw_iload_n (pc := 7) dX0_power_7 3 rfl <|
pw_icmp_ge  (tgt := 22) (pc := 8) dX0_power_8 (by decide) (fun h7 => pw_lload_n (pc := 22) dX0_power_22 1 rfl <|
pw_lret hH rfl (pc := 23) dX0_power_23) (fun h8 => pw_lload_n (pc := 11) dX0_power_11 1 rfl <|
pw_iload_n (pc := 12) dX0_power_12 2 rfl <|
pw_i2l (pc := 13) dX0_power_13 <|
pw_lmul (pc := 14) dX0_power_14 <|
pw_ltL fun x5 => pw_lstore_n [(2, .long x5), (4, .int v2), (0, .int a1), (1, .int a2)] (pc := 15) dX0_power_15 (by decide) rfl <|
pw_ltA fun x6 hxx6 => pw_iinc (v := x6) [(4, .int x6), (2, .long x5), (0, .int a1), (1, .int a2)] (pc := 16) dX0_power_16 1 rfl (by rw [hxx6]; rfl) (by decide) rfl <|
pw_goto (tgt := 5) (pc := 19) dX0_power_19 (by decide) <|
hn4 x5 x6)) FU (1 : Int64) (0 : Int32))
set_option maxHeartbeats 4000000 in
theorem tX0_allWays (l : Launch) (G : pw_G) (a1 : Int32) (m0 : pw_Mem) : PMet l G yX0_allWays cX0_allWays 2 (some .long) 2 [.ref (pw_ad G 50), .int a1] m0 (pw_Rl m0) (fX0_allWays a1 m0) :=
  pw_met (own := RX0) (l0 := [(0, .ref (pw_ad G 50)), (1, .int a1)]) rfl (by decide) rfl (Nat.le_of_ble_eq_true rfl) fun K hK hH => by
  delta fX0_allWays
  exact (pw_iload_n (pc := 0) dX0_allWays_0 1 rfl <|
pw_aload_n (pc := 1) dX0_allWays_1 0 rfl <|
pw_getR (o := 50) (k := 0) (t := 1) (pw_sh_50) cfX0 rfl (by decide) flX0_9 (pc := 2) dX0_allWays_2 <|
pw_getI (o := 1) (k := 12) (pw_shTown pw_t1) cfX7 rfl (by decide) flX0_39 (pc := 5) dX0_allWays_5 <|
pw_aload_n (pc := 8) dX0_allWays_8 0 rfl <|
pw_getR (o := 50) (k := 0) (t := 1) (pw_sh_50) cfX0 rfl (by decide) flX0_9 (pc := 9) dX0_allWays_9 <|
pw_callV_ri (n := 0) (rest := [.int (m0 1 12), .int a1]) (tX7_snappedCount K.2.1 G pw_t1 m0) (pw_shTown pw_t1) cfX7 rfl miX7_snappedCount mlX0_56 (pc := 12) dX0_allWays_12 rfl rfl (by decide) (Nat.le_of_ble_eq_true rfl) fun y1 =>
pw_isub (pc := 15) dX0_allWays_15 <|
pw_callS_rl (n := 2) (rest := []) (tX0_power K.2.1 G a1 ((m0 1 12) - y1) m0) miX0_power mlX0_60 (pc := 16) dX0_allWays_16 rfl rfl (by decide) (Nat.le_of_ble_eq_true rfl) fun y2 =>
pw_lret hH rfl (pc := 19) dX0_allWays_19)
set_option maxHeartbeats 4000000 in
theorem tX0_labelOf (l : Launch) (G : pw_G) (a1 : Int32) (a2 : Int32) (m0 : pw_Mem) : PMet l G yX0_labelOf cX0_labelOf 2 (some .int) 0 [.int a1, .int a2] m0 (pw_Ri m0) (fX0_labelOf a1 a2 m0) :=
  pw_met (own := RX0) (l0 := [(0, .int a1), (1, .int a2)]) rfl (by decide) rfl (Nat.le_of_ble_eq_true rfl) fun K hK hH => by
  delta fX0_labelOf
  exact (pw_iload_n (pc := 0) dX0_labelOf_0 0 rfl <|
pw_iconst (v := 3) (pc := 1) dX0_labelOf_1 (by decide) <|
pw_iload_n (pc := 2) dX0_labelOf_2 1 rfl <|
pw_imul (pc := 3) dX0_labelOf_3 <|
pw_ishr (pc := 4) dX0_labelOf_4 <|
pw_bipush (v := 7) (pc := 5) dX0_labelOf_5 (by decide) <|
pw_iand (pc := 7) dX0_labelOf_7 <|
pw_iret (a := ((a1 >>> (((3 : Int32) * a2) &&& 31)) &&& (7 : Int32))) (v := ((a1 >>> (((3 : Int32) * a2) &&& 31)) &&& (7 : Int32))) hH rfl (pc := 8) dX0_labelOf_8)
set_option maxHeartbeats 4000000 in
theorem tX10_lowestOf (l : Launch) (G : pw_G) (a1 : Int32) (m0 : pw_Mem) : PMet l G yX10_lowestOf cX10_lowestOf 2 (some .int) 0 [.int a1] m0 (pw_Ri m0) (fX10_lowestOf a1 m0) :=
  pw_met (own := RX10) (l0 := [(0, .int a1)]) rfl (by decide) rfl (Nat.le_of_ble_eq_true rfl) fun K hK hH => by
  delta fX10_lowestOf
  exact (pw_iconst (v := 0) (pc := 0) dX10_lowestOf_0 (by decide) <|
pw_istore_n [(1, .int (0 : Int32)), (0, .int a1)] (pc := 1) dX10_lowestOf_1 (by decide) rfl <|
pw_lp (fun (kk9 : Int32 → Option Int32) => ∀ (v1 : Int32), PW K G RX10 cX10_lowestOf 2 (some .int) 0 (pw_MQ K G (pw_Ri m0)) (kk9 v1) 2 [(1, .int v1), (0, .int a1)] [] m0) (fun _ => pw_none) (fun nx2 hn3 v1 => pw_iload_n (pc := 2) dX10_lowestOf_2 0 rfl <|
pw_bipush (v := 32) (pc := 3) dX10_lowestOf_3 (by decide) <|
pw_icmp_ge  (tgt := 25) (pc := 5) dX10_lowestOf_5 (by decide) (fun h7 => pw_bipush (v := -4) (pc := 25) dX10_lowestOf_25 (by decide) <|
pw_iret (a := (-4 : Int32)) (v := (-4 : Int32)) hH rfl (pc := 27) dX10_lowestOf_27) (fun h8 => pw_iload_n (pc := 8) dX10_lowestOf_8 1 rfl <|
pw_iload_n (pc := 9) dX10_lowestOf_9 0 rfl <|
pw_ishr (pc := 10) dX10_lowestOf_10 <|
pw_iconst (v := 1) (pc := 11) dX10_lowestOf_11 (by decide) <|
pw_iand (pc := 12) dX10_lowestOf_12 <|
pw_iconst (v := 1) (pc := 13) dX10_lowestOf_13 (by decide) <|
pw_icmp_ne  (tgt := 19) (pc := 14) dX10_lowestOf_14 (by decide) (fun h5 => pw_ltA fun x4 hxx4 => pw_iinc (v := x4) [(1, .int x4), (0, .int a1)] (pc := 19) dX10_lowestOf_19 0 rfl (by rw [hxx4]; rfl) (by decide) rfl <|
pw_goto (tgt := 2) (pc := 22) dX10_lowestOf_22 (by decide) <|
hn3 x4) (fun h6 => pw_iload_n (pc := 17) dX10_lowestOf_17 0 rfl <|
pw_iret (a := v1) (v := v1) hH rfl (pc := 18) dX10_lowestOf_18))) FU (0 : Int32))
set_option maxHeartbeats 4000000 in
theorem tX0_isOneClan (l : Launch) (G : pw_G) (a1 : Int32) (a2 : Int32) (m0 : pw_Mem) : PMet l G yX0_isOneClan cX0_isOneClan 4 (some .boolean) 1 [.int a1, .int a2] m0 (pw_Rz m0) (fX0_isOneClan a1 a2 m0) :=
  pw_met (own := RX0) (l0 := [(0, .int a1), (1, .int a2)]) rfl (by decide) rfl (Nat.le_of_ble_eq_true rfl) fun K hK hH => by
  delta fX0_isOneClan
  exact (pw_iload_n (pc := 0) dX0_isOneClan_0 1 rfl <|
pw_callN_ri (n := 1) (rest := []) (tX10_lowestOf K.2.1 G a2 m0) miX10_lowestOf mlX0_79 (pc := 1) dX0_isOneClan_1 rfl rfl (by decide) (Nat.le_of_ble_eq_true rfl) fun y1 =>
pw_istore_n [(2, .int y1), (0, .int a1), (1, .int a2)] (pc := 4) dX0_isOneClan_4 (by decide) rfl <|
pw_iload_n (pc := 5) dX0_isOneClan_5 2 rfl <|
pw_iload_n (pc := 6) dX0_isOneClan_6 2 rfl <|
pw_iconst (v := 1) (pc := 7) dX0_isOneClan_7 (by decide) <|
pw_isub (pc := 8) dX0_isOneClan_8 <|
pw_iand (pc := 9) dX0_isOneClan_9 <|
pw_callN_ri (n := 1) (rest := []) (tX10_lowestOf K.2.1 G (a2 &&& (a2 - (1 : Int32))) m0) miX10_lowestOf mlX0_79 (pc := 10) dX0_isOneClan_10 rfl rfl (by decide) (Nat.le_of_ble_eq_true rfl) fun y2 =>
pw_istore_n [(3, .int y2), (2, .int y1), (0, .int a1), (1, .int a2)] (pc := 13) dX0_isOneClan_13 (by decide) rfl <|
pw_iload_n (pc := 14) dX0_isOneClan_14 2 rfl <|
pw_iload_n (pc := 15) dX0_isOneClan_15 1 rfl <|
pw_callS_ri (n := 2) (rest := []) (tX0_labelOf K.2.1 G a1 y1 m0) miX0_labelOf mlX0_72 (pc := 16) dX0_isOneClan_16 rfl rfl (by decide) (Nat.le_of_ble_eq_true rfl) fun y3 =>
pw_iload_n (pc := 19) dX0_isOneClan_19 2 rfl <|
pw_iload_n (pc := 20) dX0_isOneClan_20 0 rfl <|
pw_callS_ri (n := 2) (rest := [.int y3]) (tX0_labelOf K.2.1 G a1 y2 m0) miX0_labelOf mlX0_72 (pc := 21) dX0_isOneClan_21 rfl rfl (by decide) (Nat.le_of_ble_eq_true rfl) fun y4 =>
pw_icmp_ne  (tgt := 31) (pc := 24) dX0_isOneClan_24 (by decide) (fun h5 => pw_iconst (v := 0) (pc := 31) dX0_isOneClan_31 (by decide) <|
pw_zret (b := false) hH rfl (pc := 32) dX0_isOneClan_32) (fun h6 => pw_iconst (v := 1) (pc := 27) dX0_isOneClan_27 (by decide) <|
pw_goto (tgt := 32) (pc := 28) dX0_isOneClan_28 (by decide) <|
pw_zret (b := true) hH rfl (pc := 32) dX0_isOneClan_32))
set_option maxHeartbeats 4000000 in
theorem tX0_merged (l : Launch) (G : pw_G) (a1 : Int32) (a2 : Int32) (a3 : Int32) (m0 : pw_Mem) : PMet l G yX0_merged cX0_merged 5 (some .int) 1 [.int a1, .int a2, .int a3] m0 (pw_Ri m0) (fX0_merged a1 a2 a3 m0) :=
  pw_met (own := RX0) (l0 := [(0, .int a1), (1, .int a2), (2, .int a3)]) rfl (by decide) rfl (Nat.le_of_ble_eq_true rfl) fun K hK hH => by
  delta fX0_merged
  exact (pw_iload_n (pc := 0) dX0_merged_0 0 rfl <|
pw_istore_n [(3, .int a1), (0, .int a1), (1, .int a2), (2, .int a3)] (pc := 1) dX0_merged_1 (by decide) rfl <|
pw_iconst (v := 0) (pc := 2) dX0_merged_2 (by decide) <|
pw_istore [(4, .int (0 : Int32)), (3, .int a1), (0, .int a1), (1, .int a2), (2, .int a3)] (pc := 3) dX0_merged_3 (by decide) rfl <|
pw_lp (fun (kk15 : Int32 → Int32 → Option Int32) => ∀ (v1 : Int32) (v2 : Int32), PW K G RX0 cX0_merged 5 (some .int) 1 (pw_MQ K G (pw_Ri m0)) (kk15 v1 v2) 5 [(4, .int v2), (3, .int v1), (0, .int a1), (1, .int a2), (2, .int a3)] [] m0) (fun _ _ => pw_none) (fun nx3 hn4 v1 v2 => pw_iload (pc := 5) dX0_merged_5 0 rfl <|
pw_bipush (v := 7) (pc := 7) dX0_merged_7 (by decide) <|
pw_icmp_ge  (tgt := 47) (pc := 9) dX0_merged_9 (by decide) (fun h13 => pw_iload_n (pc := 47) dX0_merged_47 1 rfl <|
pw_iret (a := v1) (v := v1) hH rfl (pc := 48) dX0_merged_48) (fun h14 => pw_iload_n (pc := 12) dX0_merged_12 2 rfl <|
pw_iload (pc := 13) dX0_merged_13 0 rfl <|
pw_callS_ri (n := 2) (rest := []) (tX0_labelOf K.2.1 G a1 v2 m0) miX0_labelOf mlX0_72 (pc := 15) dX0_merged_15 rfl rfl (by decide) (Nat.le_of_ble_eq_true rfl) fun y5 =>
pw_iload_n (pc := 18) dX0_merged_18 4 rfl <|
pw_jn (fun (k8 : Int32 → Option Int32) => ∀ (v6 : Int32), PW K G RX0 cX0_merged 5 (some .int) 1 (pw_MQ K G (pw_Ri m0)) (k8 v6) 41 [(4, .int v2), (3, .int v6), (0, .int a1), (1, .int a2), (2, .int a3)] [] m0) (fun v6 => pw_ltA fun x7 hxx7 => pw_iinc (v := x7) [(4, .int x7), (3, .int v6), (0, .int a1), (1, .int a2), (2, .int a3)] (pc := 41) dX0_merged_41 0 rfl (by rw [hxx7]; rfl) (by decide) rfl <|
pw_goto (tgt := 5) (pc := 44) dX0_merged_44 (by decide) <|
hn4 v6 x7) (fun k8 hk9 => pw_icmp_ne  (tgt := 41) (pc := 19) dX0_merged_19 (by decide) (fun h11 => hk9 v1) (fun h12 => pw_iload_n (pc := 22) dX0_merged_22 1 rfl <|
pw_bipush (v := 7) (pc := 23) dX0_merged_23 (by decide) <|
pw_iconst (v := 3) (pc := 25) dX0_merged_25 (by decide) <|
pw_iload (pc := 26) dX0_merged_26 0 rfl <|
pw_imul (pc := 28) dX0_merged_28 <|
pw_ishl (pc := 29) dX0_merged_29 <|
pw_iconst (v := -1) (pc := 30) dX0_merged_30 (by decide) <|
pw_ixor (pc := 31) dX0_merged_31 <|
pw_iand (pc := 32) dX0_merged_32 <|
pw_iload_n (pc := 33) dX0_merged_33 3 rfl <|
pw_iconst (v := 3) (pc := 34) dX0_merged_34 (by decide) <|
pw_iload (pc := 35) dX0_merged_35 0 rfl <|
pw_imul (pc := 37) dX0_merged_37 <|
pw_ishl (pc := 38) dX0_merged_38 <|
pw_ior (pc := 39) dX0_merged_39 <|
pw_ltI fun x10 => pw_istore_n [(3, .int x10), (4, .int v2), (0, .int a1), (1, .int a2), (2, .int a3)] (pc := 40) dX0_merged_40 (by decide) rfl <|
pw_sub [1, 0, 2, 3, 4] rfl <| hk9 x10)))) FU a1 (0 : Int32))
set_option maxHeartbeats 4000000 in
theorem tX0_waysTiedR : ∀ (n : Nat) (l : Launch) (G : pw_G) (o1 : Nat) (ho1 : pw_isTown o1) (a2 : Int32) (a3 : Int32) (a4 : Int32) (a5 : Int32) (m0 : pw_Mem), PMet l G yX0_waysTied cX0_waysTied 9 (some .long) (2 + n) [.ref (pw_ad G o1), .int a2, .int a3, .int a4, .int a5] m0 (pw_Rl m0) (fX0_waysTiedR n o1 a2 a3 a4 a5 m0)
  | 0, _, _, _, _, _, _, _, _, _ => fun _ h => nomatch h
  | n + 1, l, G, o1, ho1, a2, a3, a4, a5, m0 =>
  pw_met (own := RX0) (l0 := [(0, .ref (pw_ad G o1)), (1, .int a2), (2, .int a3), (3, .int a4), (4, .int a5)]) rfl (by decide) rfl (Nat.le_of_ble_eq_true rfl) fun K hK hH => by
      unfold fX0_waysTiedR
      exact (pw_iload_n (pc := 0) dX0_waysTied_0 2 rfl <|
pw_iload_n (pc := 1) dX0_waysTied_1 3 rfl <|
pw_callS_rz (n := 2) (rest := []) (tX0_isOneClan K.2.1 G a3 a4 m0) miX0_isOneClan mlX0_68 (pc := 2) dX0_waysTied_2 rfl rfl ⟨by omega, by decide⟩ (Nat.le_of_ble_eq_true rfl) fun y1 =>
pw_ifz_eq (tgt := 30) (pc := 5) dX0_waysTied_5 (by decide) (fun h16 => pw_iload (pc := 8) dX0_waysTied_8 4 rfl <|
pw_aload_n (pc := 10) dX0_waysTied_10 0 rfl <|
pw_getI (o := o1) (k := 12) (pw_shTown ho1) cfX7 rfl (by decide) flX0_39 (pc := 11) dX0_waysTied_11 <|
pw_iload_n (pc := 14) dX0_waysTied_14 1 rfl <|
pw_isub (pc := 15) dX0_waysTied_15 <|
pw_aload_n (pc := 16) dX0_waysTied_16 0 rfl <|
pw_getI (o := o1) (k := 13) (pw_shTown ho1) cfX7 rfl (by decide) flX0_53 (pc := 17) dX0_waysTied_17 <|
pw_iload_n (pc := 20) dX0_waysTied_20 1 rfl <|
pw_ishr (pc := 21) dX0_waysTied_21 <|
pw_callS_ri (n := 1) (rest := [.int ((m0 o1 12) - a2), .int a5]) (tJ6_bitCount_0f7a4 K.2.1 G ((m0 o1 13) >>> (a2 &&& 31)) m0) miJ6_bitCount_0f7a4 mlX0_25 (pc := 22) dX0_waysTied_22 rfl rfl ⟨by omega, by decide⟩ (Nat.le_of_ble_eq_true rfl) fun y14 =>
pw_isub (pc := 25) dX0_waysTied_25 <|
pw_callS_rl (n := 2) (rest := []) (tX0_power K.2.1 G a5 (((m0 o1 12) - a2) - y14) m0) miX0_power mlX0_60 (pc := 26) dX0_waysTied_26 rfl rfl ⟨by omega, by decide⟩ (Nat.le_of_ble_eq_true rfl) fun y15 =>
pw_lret hH rfl (pc := 29) dX0_waysTied_29) (fun h17 => pw_iload_n (pc := 30) dX0_waysTied_30 1 rfl <|
pw_aload_n (pc := 31) dX0_waysTied_31 0 rfl <|
pw_getI (o := o1) (k := 12) (pw_shTown ho1) cfX7 rfl (by decide) flX0_39 (pc := 32) dX0_waysTied_32 <|
pw_icmp_lt  (tgt := 40) (pc := 35) dX0_waysTied_35 (by decide) (fun h12 => pw_aload_n (pc := 40) dX0_waysTied_40 0 rfl <|
pw_iload_n (pc := 41) dX0_waysTied_41 1 rfl <|
pw_iconst (v := 1) (pc := 42) dX0_waysTied_42 (by decide) <|
pw_iadd (pc := 43) dX0_waysTied_43 <|
pw_iload_n (pc := 44) dX0_waysTied_44 2 rfl <|
pw_iload_n (pc := 45) dX0_waysTied_45 3 rfl <|
pw_iload (pc := 46) dX0_waysTied_46 4 rfl <|
pw_callS_rl (n := 5) (rest := []) (tX0_waysTiedR n K.2.1 G o1 ho1 (a2 + (1 : Int32)) a3 a4 a5 m0) miX0_waysTied mlX0_64 (pc := 48) dX0_waysTied_48 rfl rfl ⟨by omega, by decide⟩ (Nat.le_of_ble_eq_true rfl) fun y2 =>
pw_lstore [(5, .long y2), (0, .ref (pw_ad G o1)), (1, .int a2), (2, .int a3), (3, .int a4), (4, .int a5)] (pc := 51) dX0_waysTied_51 (by decide) rfl <|
pw_aload_n (pc := 53) dX0_waysTied_53 1 rfl <|
pw_iload_n (pc := 54) dX0_waysTied_54 2 rfl <|
pw_callV_rz (n := 1) (rest := []) (tX7_isSnapped K.2.1 G ho1 a2 m0) (pw_shTown ho1) cfX7 rfl miX7_isSnapped mlX0_46 (pc := 55) dX0_waysTied_55 rfl rfl ⟨by omega, by decide⟩ (Nat.le_of_ble_eq_true rfl) fun y3 =>
pw_ifz_eq (tgt := 64) (pc := 58) dX0_waysTied_58 (by decide) (fun h10 => pw_lload (pc := 61) dX0_waysTied_61 0 rfl <|
pw_lret hH rfl (pc := 63) dX0_waysTied_63) (fun h11 => pw_iload_n (pc := 64) dX0_waysTied_64 3 rfl <|
pw_aload_n (pc := 65) dX0_waysTied_65 1 rfl <|
pw_getR (o := o1) (k := 5) (t := (o1 + 6)) (pw_shTown ho1) cfX7 rfl (by decide) flX0_42 (pc := 66) dX0_waysTied_66 <|
pw_iload_n (pc := 69) dX0_waysTied_69 2 rfl <|
pw_iald (pw_shTown5 ho1) (pc := 70) dX0_waysTied_70 <|
pw_callS_ri (n := 2) (rest := []) (tX0_labelOf K.2.1 G a3 (m0 (o1 + 6) (a2).toNatClampNeg) m0) miX0_labelOf mlX0_72 (pc := 71) dX0_waysTied_71 rfl rfl ⟨by omega, by decide⟩ (Nat.le_of_ble_eq_true rfl) fun y4 =>
pw_istore [(7, .int y4), (5, .long y2), (0, .ref (pw_ad G o1)), (1, .int a2), (2, .int a3), (3, .int a4), (4, .int a5)] (pc := 74) dX0_waysTied_74 (by decide) rfl <|
pw_iload_n (pc := 76) dX0_waysTied_76 4 rfl <|
pw_aload_n (pc := 77) dX0_waysTied_77 2 rfl <|
pw_getR (o := o1) (k := 6) (t := (o1 + 7)) (pw_shTown ho1) cfX7 rfl (by decide) flX0_50 (pc := 78) dX0_waysTied_78 <|
pw_iload_n (pc := 81) dX0_waysTied_81 3 rfl <|
pw_iald (pw_shTown6 ho1) (pc := 82) dX0_waysTied_82 <|
pw_callS_ri (n := 2) (rest := []) (tX0_labelOf K.2.1 G a3 (m0 (o1 + 7) (a2).toNatClampNeg) m0) miX0_labelOf mlX0_72 (pc := 83) dX0_waysTied_83 rfl rfl ⟨by omega, by decide⟩ (Nat.le_of_ble_eq_true rfl) fun y5 =>
pw_istore [(8, .int y5), (7, .int y4), (5, .long y2), (0, .ref (pw_ad G o1)), (1, .int a2), (2, .int a3), (3, .int a4), (4, .int a5)] (pc := 86) dX0_waysTied_86 (by decide) rfl <|
pw_iload (pc := 88) dX0_waysTied_88 1 rfl <|
pw_iload (pc := 90) dX0_waysTied_90 0 rfl <|
pw_icmp_ne  (tgt := 102) (pc := 92) dX0_waysTied_92 (by decide) (fun h8 => pw_lload (pc := 102) dX0_waysTied_102 2 rfl <|
pw_iload (pc := 104) dX0_waysTied_104 7 rfl <|
pw_iconst (v := 1) (pc := 106) dX0_waysTied_106 (by decide) <|
pw_isub (pc := 107) dX0_waysTied_107 <|
pw_i2l (pc := 108) dX0_waysTied_108 <|
pw_aload_n (pc := 109) dX0_waysTied_109 3 rfl <|
pw_iload_n (pc := 110) dX0_waysTied_110 4 rfl <|
pw_iconst (v := 1) (pc := 111) dX0_waysTied_111 (by decide) <|
pw_iadd (pc := 112) dX0_waysTied_112 <|
pw_iload_n (pc := 113) dX0_waysTied_113 5 rfl <|
pw_iload (pc := 114) dX0_waysTied_114 1 rfl <|
pw_iload (pc := 116) dX0_waysTied_116 0 rfl <|
pw_callS_ri (n := 3) (rest := [.int (a2 + (1 : Int32)), .ref (pw_ad G o1), .long ((a5 - (1 : Int32)).toInt64), .long y2]) (tX0_merged K.2.1 G a3 y4 y5 m0) miX0_merged mlX0_75 (pc := 118) dX0_waysTied_118 rfl rfl ⟨by omega, by decide⟩ (Nat.le_of_ble_eq_true rfl) fun y6 =>
pw_iload_n (pc := 121) dX0_waysTied_121 6 rfl <|
pw_iload (pc := 122) dX0_waysTied_122 7 rfl <|
pw_callS_rl (n := 5) (rest := [.long ((a5 - (1 : Int32)).toInt64), .long y2]) (tX0_waysTiedR n K.2.1 G o1 ho1 (a2 + (1 : Int32)) y6 a4 a5 m0) miX0_waysTied mlX0_64 (pc := 124) dX0_waysTied_124 rfl rfl ⟨by omega, by decide⟩ (Nat.le_of_ble_eq_true rfl) fun y7 =>
pw_lmul (pc := 127) dX0_waysTied_127 <|
pw_ladd (pc := 128) dX0_waysTied_128 <|
pw_lret hH rfl (pc := 129) dX0_waysTied_129) (fun h9 => pw_iload (pc := 95) dX0_waysTied_95 7 rfl <|
pw_i2l (pc := 97) dX0_waysTied_97 <|
pw_lload (pc := 98) dX0_waysTied_98 2 rfl <|
pw_lmul (pc := 100) dX0_waysTied_100 <|
pw_lret hH rfl (pc := 101) dX0_waysTied_101))) (fun h13 => pw_lconst (v := 0) (pc := 38) dX0_waysTied_38 rfl <|
pw_lret hH rfl (pc := 39) dX0_waysTied_39)))
theorem tX0_waysTied (l : Launch) (G : pw_G) {o1 : Nat} (ho1 : pw_isTown o1) (a2 : Int32) (a3 : Int32) (a4 : Int32) (a5 : Int32) (m0 : pw_Mem) : PMet l G yX0_waysTied cX0_waysTied 9 (some .long) 14 [.ref (pw_ad G o1), .int a2, .int a3, .int a4, .int a5] m0 (pw_Rl m0) (fX0_waysTied o1 a2 a3 a4 a5 m0) :=
  tX0_waysTiedR 12 l G o1 ho1 a2 a3 a4 a5 m0
set_option maxHeartbeats 4000000 in
theorem tX0_waysStillTied (l : Launch) (G : pw_G) (a1 : Int32) (a2 : Int32) (a3 : Int32) (m0 : pw_Mem) : PMet l G yX0_waysStillTied cX0_waysStillTied 6 (some .long) 15 [.ref (pw_ad G 50), .int a1, .int a2, .int a3] m0 (pw_Rl m0) (fX0_waysStillTied a1 a2 a3 m0) :=
  pw_met (own := RX0) (l0 := [(0, .ref (pw_ad G 50)), (1, .int a1), (2, .int a2), (3, .int a3)]) rfl (by decide) rfl (Nat.le_of_ble_eq_true rfl) fun K hK hH => by
  delta fX0_waysStillTied
  exact (pw_iconst (v := 0) (pc := 0) dX0_waysStillTied_0 (by decide) <|
pw_istore [(4, .int (0 : Int32)), (0, .ref (pw_ad G 50)), (1, .int a1), (2, .int a2), (3, .int a3)] (pc := 1) dX0_waysStillTied_1 (by decide) rfl <|
pw_iconst (v := 0) (pc := 3) dX0_waysStillTied_3 (by decide) <|
pw_istore [(5, .int (0 : Int32)), (4, .int (0 : Int32)), (0, .ref (pw_ad G 50)), (1, .int a1), (2, .int a2), (3, .int a3)] (pc := 4) dX0_waysStillTied_4 (by decide) rfl <|
pw_lp (fun (kk10 : Int32 → Int32 → Option Int64) => ∀ (v1 : Int32) (v2 : Int32), PW K G RX0 cX0_waysStillTied 6 (some .long) 15 (pw_MQ K G (pw_Rl m0)) (kk10 v1 v2) 6 [(5, .int v2), (4, .int v1), (0, .ref (pw_ad G 50)), (1, .int a1), (2, .int a2), (3, .int a3)] [] m0) (fun _ _ => pw_none) (fun nx3 hn4 v1 v2 => pw_iload (pc := 6) dX0_waysStillTied_6 0 rfl <|
pw_aload_n (pc := 8) dX0_waysStillTied_8 2 rfl <|
pw_getR (o := 50) (k := 0) (t := 1) (pw_sh_50) cfX0 rfl (by decide) flX0_9 (pc := 9) dX0_waysStillTied_9 <|
pw_getI (o := 1) (k := 11) (pw_shTown pw_t1) cfX7 rfl (by decide) flX0_15 (pc := 12) dX0_waysStillTied_12 <|
pw_icmp_ge  (tgt := 36) (pc := 15) dX0_waysStillTied_15 (by decide) (fun h8 => pw_aload_n (pc := 36) dX0_waysStillTied_36 2 rfl <|
pw_getR (o := 50) (k := 0) (t := 1) (pw_sh_50) cfX0 rfl (by decide) flX0_9 (pc := 37) dX0_waysStillTied_37 <|
pw_iconst (v := 0) (pc := 40) dX0_waysStillTied_40 (by decide) <|
pw_iload (pc := 41) dX0_waysStillTied_41 1 rfl <|
pw_iconst (v := 1) (pc := 43) dX0_waysStillTied_43 (by decide) <|
pw_iload_n (pc := 44) dX0_waysStillTied_44 3 rfl <|
pw_ishl (pc := 45) dX0_waysStillTied_45 <|
pw_iconst (v := 1) (pc := 46) dX0_waysStillTied_46 (by decide) <|
pw_iload_n (pc := 47) dX0_waysStillTied_47 4 rfl <|
pw_ishl (pc := 48) dX0_waysStillTied_48 <|
pw_ior (pc := 49) dX0_waysStillTied_49 <|
pw_iload_n (pc := 50) dX0_waysStillTied_50 5 rfl <|
pw_callS_rl (n := 5) (rest := []) (tX0_waysTied K.2.1 G pw_t1 (0 : Int32) v1 (((1 : Int32) <<< (a1 &&& 31)) ||| ((1 : Int32) <<< (a2 &&& 31))) a3 m0) miX0_waysTied mlX0_64 (pc := 51) dX0_waysStillTied_51 rfl rfl (by decide) (Nat.le_of_ble_eq_true rfl) fun y5 =>
pw_lret hH rfl (pc := 54) dX0_waysStillTied_54) (fun h9 => pw_iload (pc := 18) dX0_waysStillTied_18 1 rfl <|
pw_iload (pc := 20) dX0_waysStillTied_20 0 rfl <|
pw_iconst (v := 3) (pc := 22) dX0_waysStillTied_22 (by decide) <|
pw_iload (pc := 23) dX0_waysStillTied_23 0 rfl <|
pw_imul (pc := 25) dX0_waysStillTied_25 <|
pw_ishl (pc := 26) dX0_waysStillTied_26 <|
pw_ior (pc := 27) dX0_waysStillTied_27 <|
pw_ltI fun x6 => pw_istore [(4, .int x6), (5, .int v2), (0, .ref (pw_ad G 50)), (1, .int a1), (2, .int a2), (3, .int a3)] (pc := 28) dX0_waysStillTied_28 (by decide) rfl <|
pw_ltA fun x7 hxx7 => pw_iinc (v := x7) [(5, .int x7), (4, .int x6), (0, .ref (pw_ad G 50)), (1, .int a1), (2, .int a2), (3, .int a3)] (pc := 30) dX0_waysStillTied_30 1 rfl (by rw [hxx7]; rfl) (by decide) rfl <|
pw_goto (tgt := 6) (pc := 33) dX0_waysStillTied_33 (by decide) <|
hn4 x6 x7)) FU (0 : Int32) (0 : Int32))
set_option maxHeartbeats 4000000 in
theorem tX10_isUpTo (l : Launch) (G : pw_G) (a1 : Int32) (a2 : Int32) (m0 : pw_Mem) : PMet l G yX10_isUpTo cX10_isUpTo 2 (some .boolean) 0 [.int a1, .int a2] m0 (pw_Rz m0) (fX10_isUpTo a1 a2 m0) :=
  pw_met (own := RX10) (l0 := [(0, .int a1), (1, .int a2)]) rfl (by decide) rfl (Nat.le_of_ble_eq_true rfl) fun K hK hH => by
  delta fX10_isUpTo
  exact (pw_iload_n (pc := 0) dX10_isUpTo_0 0 rfl <|
pw_if_lt (a := a1) (b := 0) (tgt := 13) (pc := 1) dX10_isUpTo_1 (by decide) (fun h3 => pw_iconst (v := 0) (pc := 13) dX10_isUpTo_13 (by decide) <|
pw_zret (b := false) hH rfl (pc := 14) dX10_isUpTo_14) (fun h4 => pw_iload_n (pc := 4) dX10_isUpTo_4 0 rfl <|
pw_iload_n (pc := 5) dX10_isUpTo_5 1 rfl <|
pw_icmp_gt  (tgt := 13) (pc := 6) dX10_isUpTo_6 (by decide) (fun h1 => pw_iconst (v := 0) (pc := 13) dX10_isUpTo_13 (by decide) <|
pw_zret (b := false) hH rfl (pc := 14) dX10_isUpTo_14) (fun h2 => pw_iconst (v := 1) (pc := 9) dX10_isUpTo_9 (by decide) <|
pw_goto (tgt := 14) (pc := 10) dX10_isUpTo_10 (by decide) <|
pw_zret (b := true) hH rfl (pc := 14) dX10_isUpTo_14)))
set_option maxHeartbeats 4000000 in
theorem tX1_areGoings (l : Launch) (G : pw_G) {o1 : Nat} (ho1 : pw_isShelf o1) (m0 : pw_Mem) : PMet l G yX1_areGoings cX1_areGoings 3 (some .boolean) 2 [.ref (pw_ad G 53), .ref (pw_ad G o1)] m0 (pw_Rz m0) (fX1_areGoings o1 m0) :=
  pw_met (own := RX1) (l0 := [(0, .ref (pw_ad G 53)), (1, .ref (pw_ad G o1))]) rfl (by decide) rfl (Nat.le_of_ble_eq_true rfl) fun K hK hH => by
  delta fX1_areGoings
  exact (pw_iconst (v := 0) (pc := 0) dX1_areGoings_0 (by decide) <|
pw_istore_n [(2, .int (0 : Int32)), (0, .ref (pw_ad G 53)), (1, .ref (pw_ad G o1))] (pc := 1) dX1_areGoings_1 (by decide) rfl <|
pw_lp (fun (kk17 : Int32 → Option Bool) => ∀ (v1 : Int32), PW K G RX1 cX1_areGoings 3 (some .boolean) 2 (pw_MQ K G (pw_Rz m0)) (kk17 v1) 2 [(2, .int v1), (0, .ref (pw_ad G 53)), (1, .ref (pw_ad G o1))] [] m0) (fun _ => pw_none) (fun nx2 hn3 v1 => pw_iload_n (pc := 2) dX1_areGoings_2 0 rfl <|
pw_aload_n (pc := 3) dX1_areGoings_3 2 rfl <|
pw_getI (o := o1) (k := 5) (pw_shShelf ho1) cfX5 rfl (by decide) flX1_18 (pc := 4) dX1_areGoings_4 <|
pw_icmp_ge  (tgt := 48) (pc := 7) dX1_areGoings_7 (by decide) (fun h15 => pw_aload_n (pc := 48) dX1_areGoings_48 2 rfl <|
pw_getI (o := o1) (k := 5) (pw_shShelf ho1) cfX5 rfl (by decide) flX1_18 (pc := 49) dX1_areGoings_49 <|
pw_iconst (v := 2) (pc := 52) dX1_areGoings_52 (by decide) <|
pw_irem (pc := 53) dX1_areGoings_53 (by decide) <|
pw_if_ne (a := ((m0 o1 5) - (m0 o1 5) / (2 : Int32) * (2 : Int32))) (b := 0) (tgt := 61) (pc := 54) dX1_areGoings_54 (by decide) (fun h4 => pw_iconst (v := 0) (pc := 61) dX1_areGoings_61 (by decide) <|
pw_zret (b := false) hH rfl (pc := 62) dX1_areGoings_62) (fun h5 => pw_iconst (v := 1) (pc := 57) dX1_areGoings_57 (by decide) <|
pw_goto (tgt := 62) (pc := 58) dX1_areGoings_58 (by decide) <|
pw_zret (b := true) hH rfl (pc := 62) dX1_areGoings_62)) (fun h16 => pw_aload_n (pc := 10) dX1_areGoings_10 1 rfl <|
pw_getR (o := 53) (k := 0) (t := 1) (pw_sh_53) cfX1 rfl (by decide) flX1_9 (pc := 11) dX1_areGoings_11 <|
pw_aload_n (pc := 14) dX1_areGoings_14 2 rfl <|
pw_iload_n (pc := 15) dX1_areGoings_15 0 rfl <|
pw_callV_ri (n := 1) (rest := [.ref (pw_ad G 1)]) (tX5_at K.2.1 G ho1 v1 m0) (pw_shShelf ho1) cfX5 rfl miX5_at mlX1_24 (pc := 16) dX1_areGoings_16 rfl rfl (by decide) (Nat.le_of_ble_eq_true rfl) fun y6 =>
pw_callV_rz (n := 1) (rest := []) (tX7_isPerson K.2.1 G pw_t1 y6 m0) (pw_shTown pw_t1) cfX7 rfl miX7_isPerson mlX1_28 (pc := 19) dX1_areGoings_19 rfl rfl (by decide) (Nat.le_of_ble_eq_true rfl) fun y7 =>
pw_ifz_eq (tgt := 40) (pc := 22) dX1_areGoings_22 (by decide) (fun h13 => pw_aload_n (pc := 25) dX1_areGoings_25 2 rfl <|
pw_iload_n (pc := 26) dX1_areGoings_26 0 rfl <|
pw_iconst (v := 1) (pc := 27) dX1_areGoings_27 (by decide) <|
pw_iadd (pc := 28) dX1_areGoings_28 <|
pw_callV_ri (n := 1) (rest := []) (tX5_at K.2.1 G ho1 (v1 + (1 : Int32)) m0) (pw_shShelf ho1) cfX5 rfl miX5_at mlX1_24 (pc := 29) dX1_areGoings_29 rfl rfl (by decide) (Nat.le_of_ble_eq_true rfl) fun y8 =>
pw_bipush (v := 30) (pc := 32) dX1_areGoings_32 (by decide) <|
pw_callN_rz (n := 2) (rest := []) (tX10_isUpTo K.2.1 G y8 (30 : Int32) m0) miX10_isUpTo mlX1_34 (pc := 34) dX1_areGoings_34 rfl rfl (by decide) (Nat.le_of_ble_eq_true rfl) fun y9 =>
pw_ifz_ne (tgt := 42) (pc := 37) dX1_areGoings_37 (by decide) (fun h11 => pw_ltA fun x10 hxx10 => pw_iinc (v := x10) [(2, .int x10), (0, .ref (pw_ad G 53)), (1, .ref (pw_ad G o1))] (pc := 42) dX1_areGoings_42 0 rfl (by rw [hxx10]; rfl) (by decide) rfl <|
pw_goto (tgt := 2) (pc := 45) dX1_areGoings_45 (by decide) <|
hn3 x10) (fun h12 => pw_iconst (v := 0) (pc := 40) dX1_areGoings_40 (by decide) <|
pw_zret (b := false) hH rfl (pc := 41) dX1_areGoings_41)) (fun h14 => pw_iconst (v := 0) (pc := 40) dX1_areGoings_40 (by decide) <|
pw_zret (b := false) hH rfl (pc := 41) dX1_areGoings_41))) FU (0 : Int32))
set_option maxHeartbeats 4000000 in
theorem tX1_firstSnapping (l : Launch) (G : pw_G) {o1 : Nat} (ho1 : pw_isShelf o1) (m0 : pw_Mem) : PMet l G yX1_firstSnapping cX1_firstSnapping 3 (some .int) 4 [.ref (pw_ad G 53), .ref (pw_ad G o1)] m0 pw_Wi (fX1_firstSnapping o1 m0) :=
  pw_met (own := RX1) (l0 := [(0, .ref (pw_ad G 53)), (1, .ref (pw_ad G o1))]) rfl (by decide) rfl (Nat.le_of_ble_eq_true rfl) fun K hK hH => by
  delta fX1_firstSnapping
  exact (pw_aload_n (pc := 0) dX1_firstSnapping_0 0 rfl <|
pw_getR (o := 53) (k := 1) (t := 13) (pw_sh_53) cfX1 rfl (by decide) flX1_15 (pc := 1) dX1_firstSnapping_1 <|
pw_aload_n (pc := 4) dX1_firstSnapping_4 0 rfl <|
pw_getR (o := 53) (k := 0) (t := 1) (pw_sh_53) cfX1 rfl (by decide) flX1_9 (pc := 5) dX1_firstSnapping_5 <|
pw_callV_wv (n := 1) (rest := []) (tX7_becomes K.2.1 G pw_t13 pw_t1 m0) (pw_shTown pw_t13) cfX7 rfl miX7_becomes mlX1_38 (pc := 8) dX1_firstSnapping_8 rfl rfl (by decide) (Nat.le_of_ble_eq_true rfl) fun m1 =>
pw_iconst (v := 0) (pc := 11) dX1_firstSnapping_11 (by decide) <|
pw_istore_n [(2, .int (0 : Int32)), (0, .ref (pw_ad G 53)), (1, .ref (pw_ad G o1))] (pc := 12) dX1_firstSnapping_12 (by decide) rfl <|
pw_lp (fun (kk15 : Int32 → pw_Mem → Option (Int32 × pw_Mem)) => ∀ (v2 : Int32) (m3 : pw_Mem), PW K G RX1 cX1_firstSnapping 3 (some .int) 4 (pw_MQ K G pw_Wi) (kk15 v2 m3) 13 [(2, .int v2), (0, .ref (pw_ad G 53)), (1, .ref (pw_ad G o1))] [] m3) (fun _ _ => pw_none) (fun nx4 hn5 v2 m3 => pw_iload_n (pc := 13) dX1_firstSnapping_13 0 rfl <|
pw_aload_n (pc := 14) dX1_firstSnapping_14 2 rfl <|
pw_getI (o := o1) (k := 5) (pw_shShelf ho1) cfX5 rfl (by decide) flX1_18 (pc := 15) dX1_firstSnapping_15 <|
pw_iconst (v := 2) (pc := 18) dX1_firstSnapping_18 (by decide) <|
pw_idiv (pc := 19) dX1_firstSnapping_19 (by decide) <|
pw_icmp_ge  (tgt := 57) (pc := 20) dX1_firstSnapping_20 (by decide) (fun h13 => pw_bipush (v := -4) (pc := 57) dX1_firstSnapping_57 (by decide) <|
pw_iret (a := (-4 : Int32)) (v := ((-4 : Int32), m3)) hH rfl (pc := 59) dX1_firstSnapping_59) (fun h14 => pw_aload_n (pc := 23) dX1_firstSnapping_23 1 rfl <|
pw_getR (o := 53) (k := 1) (t := 13) (pw_sh_53) cfX1 rfl (by decide) flX1_15 (pc := 24) dX1_firstSnapping_24 <|
pw_aload_n (pc := 27) dX1_firstSnapping_27 2 rfl <|
pw_iconst (v := 2) (pc := 28) dX1_firstSnapping_28 (by decide) <|
pw_iload_n (pc := 29) dX1_firstSnapping_29 0 rfl <|
pw_imul (pc := 30) dX1_firstSnapping_30 <|
pw_callV_ri (n := 1) (rest := [.ref (pw_ad G 13)]) (tX5_at K.2.1 G ho1 ((2 : Int32) * v2) m3) (pw_shShelf ho1) cfX5 rfl miX5_at mlX1_24 (pc := 31) dX1_firstSnapping_31 rfl rfl (by decide) (Nat.le_of_ble_eq_true rfl) fun y6 =>
pw_aload_n (pc := 34) dX1_firstSnapping_34 2 rfl <|
pw_iconst (v := 2) (pc := 35) dX1_firstSnapping_35 (by decide) <|
pw_iload_n (pc := 36) dX1_firstSnapping_36 0 rfl <|
pw_imul (pc := 37) dX1_firstSnapping_37 <|
pw_iconst (v := 1) (pc := 38) dX1_firstSnapping_38 (by decide) <|
pw_iadd (pc := 39) dX1_firstSnapping_39 <|
pw_callV_ri (n := 1) (rest := [.int y6, .ref (pw_ad G 13)]) (tX5_at K.2.1 G ho1 (((2 : Int32) * v2) + (1 : Int32)) m3) (pw_shShelf ho1) cfX5 rfl miX5_at mlX1_24 (pc := 40) dX1_firstSnapping_40 rfl rfl (by decide) (Nat.le_of_ble_eq_true rfl) fun y7 =>
pw_callV_wi (n := 2) (rest := []) (tX7_moves K.2.1 G pw_t13 y6 y7 m3) (pw_shTown pw_t13) cfX7 rfl miX7_moves mlX1_42 (pc := 43) dX1_firstSnapping_43 rfl rfl (by decide) (Nat.le_of_ble_eq_true rfl) fun y8 m9 =>
pw_if_le (a := y8) (b := 0) (tgt := 51) (pc := 46) dX1_firstSnapping_46 (by decide) (fun h11 => pw_ltA fun x10 hxx10 => pw_iinc (v := x10) [(2, .int x10), (0, .ref (pw_ad G 53)), (1, .ref (pw_ad G o1))] (pc := 51) dX1_firstSnapping_51 0 rfl (by rw [hxx10]; rfl) (by decide) rfl <|
pw_goto (tgt := 13) (pc := 54) dX1_firstSnapping_54 (by decide) <|
hn5 x10 m9) (fun h12 => pw_iload_n (pc := 49) dX1_firstSnapping_49 0 rfl <|
pw_iret (a := v2) (v := (v2, m9)) hH rfl (pc := 50) dX1_firstSnapping_50))) FU (0 : Int32) m1)
set_option maxHeartbeats 4000000 in
theorem tX1_drawBelow (l : Launch) (G : pw_G) (a1 : Int32) (m0 : pw_Mem) : PMet l G yX1_drawBelow cX1_drawBelow 2 (some .int) 0 [.ref (pw_ad G 53), .int a1] m0 pw_Wi (fX1_drawBelow a1 m0) :=
  pw_met (own := RX1) (l0 := [(0, .ref (pw_ad G 53)), (1, .int a1)]) rfl (by decide) rfl (Nat.le_of_ble_eq_true rfl) fun K hK hH => by
  delta fX1_drawBelow
  exact (pw_aload_n (pc := 0) dX1_drawBelow_0 0 rfl <|
pw_aload_n (pc := 1) dX1_drawBelow_1 0 rfl <|
pw_getI (o := 53) (k := 2) (pw_sh_53) cfX1 rfl (by decide) flX1_46 (pc := 2) dX1_drawBelow_2 <|
pw_ldc (v := 1103515245) (pc := 5) dX1_drawBelow_5 klX1_65 <|
pw_imul (pc := 7) dX1_drawBelow_7 <|
pw_sipush (v := 12345) (pc := 8) dX1_drawBelow_8 (by decide) <|
pw_iadd (pc := 11) dX1_drawBelow_11 <|
pw_putI (o := 53) (k := 2) (pw_sh_53) cfX1 rfl (by decide) flX1_46 rfl (ft := .int) rfl rfl rfl (pc := 12) dX1_drawBelow_12 <|
pw_ltM fun m1 => pw_iload_n (pc := 15) dX1_drawBelow_15 1 rfl <|
pw_if_le (a := a1) (b := 0) (tgt := 34) (pc := 16) dX1_drawBelow_16 (by decide) (fun h3 => pw_iconst (v := 0) (pc := 34) dX1_drawBelow_34 (by decide) <|
pw_iret (a := (0 : Int32)) (v := ((0 : Int32), m1)) hH rfl (pc := 35) dX1_drawBelow_35) (fun h4 => pw_aload_n (pc := 19) dX1_drawBelow_19 0 rfl <|
pw_getI (o := 53) (k := 2) (pw_sh_53) cfX1 rfl (by decide) flX1_46 (pc := 20) dX1_drawBelow_20 <|
pw_ldc (v := 2147483647) (pc := 23) dX1_drawBelow_23 klX1_66 <|
pw_iand (pc := 25) dX1_drawBelow_25 <|
pw_ldc (v := 65536) (pc := 26) dX1_drawBelow_26 klX1_67 <|
pw_idiv (pc := 28) dX1_drawBelow_28 (by decide) <|
pw_iload_n (pc := 29) dX1_drawBelow_29 1 rfl <|
pw_gd fun h2 => pw_irem (pc := 30) dX1_drawBelow_30 h2 <|
pw_goto (tgt := 35) (pc := 31) dX1_drawBelow_31 (by decide) <|
pw_iret (a := ((((m1 53 2) &&& (2147483647 : Int32)) / (65536 : Int32)) - (((m1 53 2) &&& (2147483647 : Int32)) / (65536 : Int32)) / a1 * a1)) (v := ((((m1 53 2) &&& (2147483647 : Int32)) / (65536 : Int32)) - (((m1 53 2) &&& (2147483647 : Int32)) / (65536 : Int32)) / a1 * a1, m1)) hH rfl (pc := 35) dX1_drawBelow_35))
set_option maxHeartbeats 4000000 in
theorem tX1_liveOne (l : Launch) (G : pw_G)  (m0 : pw_Mem) : PMet l G yX1_liveOne cX1_liveOne 3 (none) 4 [.ref (pw_ad G 53)] m0 pw_Wv (fX1_liveOne m0) :=
  pw_met (own := RX1) (l0 := [(0, .ref (pw_ad G 53))]) rfl (by decide) rfl (Nat.le_of_ble_eq_true rfl) fun K hK hH => by
  delta fX1_liveOne
  exact (pw_aload_n (pc := 0) dX1_liveOne_0 0 rfl <|
pw_getR (o := 53) (k := 1) (t := 13) (pw_sh_53) cfX1 rfl (by decide) flX1_15 (pc := 1) dX1_liveOne_1 <|
pw_aload_n (pc := 4) dX1_liveOne_4 0 rfl <|
pw_getR (o := 53) (k := 0) (t := 1) (pw_sh_53) cfX1 rfl (by decide) flX1_9 (pc := 5) dX1_liveOne_5 <|
pw_callV_wv (n := 1) (rest := []) (tX7_becomes K.2.1 G pw_t13 pw_t1 m0) (pw_shTown pw_t13) cfX7 rfl miX7_becomes mlX1_38 (pc := 8) dX1_liveOne_8 rfl rfl (by decide) (Nat.le_of_ble_eq_true rfl) fun m1 =>
pw_iconst (v := 0) (pc := 11) dX1_liveOne_11 (by decide) <|
pw_istore_n [(1, .int (0 : Int32)), (0, .ref (pw_ad G 53))] (pc := 12) dX1_liveOne_12 (by decide) rfl <|
pw_lp (fun (kk15 : Int32 → pw_Mem → Option pw_Mem) => ∀ (v2 : Int32) (m3 : pw_Mem), PW K G RX1 cX1_liveOne 3 (none) 4 (pw_MQ K G pw_Wv) (kk15 v2 m3) 13 [(1, .int v2), (0, .ref (pw_ad G 53))] [] m3) (fun _ _ => pw_none) (fun nx4 hn5 v2 m3 => pw_iload_n (pc := 13) dX1_liveOne_13 0 rfl <|
pw_bipush (v := 10) (pc := 14) dX1_liveOne_14 (by decide) <|
pw_icmp_ge  (tgt := 52) (pc := 16) dX1_liveOne_16 (by decide) (fun h13 => pw_vret hH rfl (pc := 52) dX1_liveOne_52) (fun h14 => pw_aload_n (pc := 19) dX1_liveOne_19 1 rfl <|
pw_aload_n (pc := 20) dX1_liveOne_20 1 rfl <|
pw_getR (o := 53) (k := 1) (t := 13) (pw_sh_53) cfX1 rfl (by decide) flX1_15 (pc := 21) dX1_liveOne_21 <|
pw_getI (o := 13) (k := 11) (pw_shTown pw_t13) cfX7 rfl (by decide) flX1_59 (pc := 24) dX1_liveOne_24 <|
pw_callV_wi (n := 1) (rest := []) (tX1_drawBelow K.2.1 G (m3 13 11) m3) (pw_sh_53) cfX1 rfl miX1_drawBelow mlX1_62 (pc := 27) dX1_liveOne_27 rfl rfl (by decide) (Nat.le_of_ble_eq_true rfl) fun y6 m7 =>
pw_istore_n [(2, .int y6), (1, .int v2), (0, .ref (pw_ad G 53))] (pc := 30) dX1_liveOne_30 (by decide) rfl <|
pw_aload_n (pc := 31) dX1_liveOne_31 2 rfl <|
pw_getR (o := 53) (k := 1) (t := 13) (pw_sh_53) cfX1 rfl (by decide) flX1_15 (pc := 32) dX1_liveOne_32 <|
pw_iload_n (pc := 35) dX1_liveOne_35 0 rfl <|
pw_aload_n (pc := 36) dX1_liveOne_36 2 rfl <|
pw_bipush (v := 31) (pc := 37) dX1_liveOne_37 (by decide) <|
pw_callV_wi (n := 1) (rest := [.int y6, .ref (pw_ad G 13)]) (tX1_drawBelow K.2.1 G (31 : Int32) m7) (pw_sh_53) cfX1 rfl miX1_drawBelow mlX1_62 (pc := 39) dX1_liveOne_39 rfl rfl (by decide) (Nat.le_of_ble_eq_true rfl) fun y8 m9 =>
pw_callV_wi (n := 2) (rest := []) (tX7_moves K.2.1 G pw_t13 y6 y8 m9) (pw_shTown pw_t13) cfX7 rfl miX7_moves mlX1_42 (pc := 42) dX1_liveOne_42 rfl rfl (by decide) (Nat.le_of_ble_eq_true rfl) fun y10 m11 =>
pw_pop (pc := 45) dX1_liveOne_45 rfl <|
pw_ltA fun x12 hxx12 => pw_iinc (v := x12) [(1, .int x12), (2, .int y6), (0, .ref (pw_ad G 53))] (pc := 46) dX1_liveOne_46 1 rfl (by rw [hxx12]; rfl) (by decide) rfl <|
pw_goto (tgt := 13) (pc := 49) dX1_liveOne_49 (by decide) <|
pw_sub [0, 2] rfl <| hn5 x12 m11)) FU (0 : Int32) m1)
set_option maxHeartbeats 4000000 in
theorem tX1_harmOf (l : Launch) (G : pw_G) (a1 : Int32) (a2 : Int32) (a3 : Int32) (m0 : pw_Mem) : PMet l G yX1_harmOf cX1_harmOf 6 (some .int) 5 [.ref (pw_ad G 53), .int a1, .int a2, .int a3] m0 pw_Wi (fX1_harmOf a1 a2 a3 m0) :=
  pw_met (own := RX1) (l0 := [(0, .ref (pw_ad G 53)), (1, .int a1), (2, .int a2), (3, .int a3)]) rfl (by decide) rfl (Nat.le_of_ble_eq_true rfl) fun K hK hH => by
  delta fX1_harmOf
  exact (pw_aload_n (pc := 0) dX1_harmOf_0 0 rfl <|
pw_iload_n (pc := 1) dX1_harmOf_1 2 rfl <|
pw_putI (o := 53) (k := 2) (pw_sh_53) cfX1 rfl (by decide) flX1_46 rfl (ft := .int) rfl rfl rfl (pc := 2) dX1_harmOf_2 <|
pw_ltM fun m1 => pw_iconst (v := 0) (pc := 5) dX1_harmOf_5 (by decide) <|
pw_istore [(4, .int (0 : Int32)), (0, .ref (pw_ad G 53)), (1, .int a1), (2, .int a2), (3, .int a3)] (pc := 6) dX1_harmOf_6 (by decide) rfl <|
pw_iconst (v := 0) (pc := 8) dX1_harmOf_8 (by decide) <|
pw_istore [(5, .int (0 : Int32)), (4, .int (0 : Int32)), (0, .ref (pw_ad G 53)), (1, .int a1), (2, .int a2), (3, .int a3)] (pc := 9) dX1_harmOf_9 (by decide) rfl <|
pw_sub [0, 1, 2, 3, 5] rfl <| pw_lp (fun (kk21 : Int32 → Int32 → pw_Mem → Option (Int32 × pw_Mem)) => ∀ (v2 : Int32) (v3 : Int32) (m4 : pw_Mem), PW K G RX1 cX1_harmOf 6 (some .int) 5 (pw_MQ K G pw_Wi) (kk21 v2 v3 m4) 11 [(5, .int v3), (4, .int v2), (0, .ref (pw_ad G 53)), (1, .int a1), (3, .int a3)] [] m4) (fun _ _ _ => pw_none) (fun nx5 hn6 v2 v3 m4 => pw_iload (pc := 11) dX1_harmOf_11 0 rfl <|
pw_iload_n (pc := 13) dX1_harmOf_13 3 rfl <|
pw_icmp_ge  (tgt := 69) (pc := 14) dX1_harmOf_14 (by decide) (fun h19 => pw_iload (pc := 69) dX1_harmOf_69 1 rfl <|
pw_iret (a := v2) (v := (v2, m4)) hH rfl (pc := 71) dX1_harmOf_71) (fun h20 => pw_aload_n (pc := 17) dX1_harmOf_17 2 rfl <|
pw_callV_wv (n := 0) (rest := []) (tX1_liveOne K.2.1 G m4) (pw_sh_53) cfX1 rfl miX1_liveOne mlX1_49 (pc := 18) dX1_harmOf_18 rfl rfl (by decide) (Nat.le_of_ble_eq_true rfl) fun m7 =>
pw_iload (pc := 21) dX1_harmOf_21 1 rfl <|
pw_iload_n (pc := 23) dX1_harmOf_23 4 rfl <|
pw_jn (fun (k11 : Int32 → Option (Int32 × pw_Mem)) => ∀ (w8 : Int32), PW K G RX1 cX1_harmOf 6 (some .int) 5 (pw_MQ K G pw_Wi) (k11 w8) 60 [(5, .int v3), (0, .ref (pw_ad G 53)), (1, .int a1), (3, .int a3)] [.int w8, .int v2] m7) (fun w8 => pw_iadd (pc := 60) dX1_harmOf_60 <|
pw_ltI fun x9 => pw_istore [(4, .int x9), (5, .int v3), (0, .ref (pw_ad G 53)), (1, .int a1), (3, .int a3)] (pc := 61) dX1_harmOf_61 (by decide) rfl <|
pw_ltA fun x10 hxx10 => pw_iinc (v := x10) [(5, .int x10), (4, .int x9), (0, .ref (pw_ad G 53)), (1, .int a1), (3, .int a3)] (pc := 63) dX1_harmOf_63 1 rfl (by rw [hxx10]; rfl) (by decide) rfl <|
pw_goto (tgt := 11) (pc := 66) dX1_harmOf_66 (by decide) <|
hn6 x9 x10 m7) (fun k11 hk12 => pw_if_eq (a := a3) (b := 0) (tgt := 45) (pc := 24) dX1_harmOf_24 (by decide) (fun h17 => pw_aload_n (pc := 45) dX1_harmOf_45 2 rfl <|
pw_getR (o := 53) (k := 1) (t := 13) (pw_sh_53) cfX1 rfl (by decide) flX1_15 (pc := 46) dX1_harmOf_46 <|
pw_callV_ri (n := 0) (rest := [.int v2]) (tX7_allStung K.2.1 G pw_t13 m7) (pw_shTown pw_t13) cfX7 rfl miX7_allStung mlX1_56 (pc := 49) dX1_harmOf_49 rfl rfl (by decide) (Nat.le_of_ble_eq_true rfl) fun y13 =>
pw_aload_n (pc := 52) dX1_harmOf_52 2 rfl <|
pw_getR (o := 53) (k := 0) (t := 1) (pw_sh_53) cfX1 rfl (by decide) flX1_9 (pc := 53) dX1_harmOf_53 <|
pw_callV_ri (n := 0) (rest := [.int y13, .int v2]) (tX7_allStung K.2.1 G pw_t1 m7) (pw_shTown pw_t1) cfX7 rfl miX7_allStung mlX1_56 (pc := 56) dX1_harmOf_56 rfl rfl (by decide) (Nat.le_of_ble_eq_true rfl) fun y14 =>
pw_isub (pc := 59) dX1_harmOf_59 <|
pw_sub [0, 2, 3, 4] rfl <| hk12 (y13 - y14)) (fun h18 => pw_aload_n (pc := 27) dX1_harmOf_27 2 rfl <|
pw_getR (o := 53) (k := 1) (t := 13) (pw_sh_53) cfX1 rfl (by decide) flX1_15 (pc := 28) dX1_harmOf_28 <|
pw_callV_ri (n := 0) (rest := [.int v2]) (tX7_snappedCount K.2.1 G pw_t13 m7) (pw_shTown pw_t13) cfX7 rfl miX7_snappedCount mlX1_52 (pc := 31) dX1_harmOf_31 rfl rfl (by decide) (Nat.le_of_ble_eq_true rfl) fun y15 =>
pw_aload_n (pc := 34) dX1_harmOf_34 2 rfl <|
pw_getR (o := 53) (k := 0) (t := 1) (pw_sh_53) cfX1 rfl (by decide) flX1_9 (pc := 35) dX1_harmOf_35 <|
pw_callV_ri (n := 0) (rest := [.int y15, .int v2]) (tX7_snappedCount K.2.1 G pw_t1 m7) (pw_shTown pw_t1) cfX7 rfl miX7_snappedCount mlX1_52 (pc := 38) dX1_harmOf_38 rfl rfl (by decide) (Nat.le_of_ble_eq_true rfl) fun y16 =>
pw_isub (pc := 41) dX1_harmOf_41 <|
pw_goto (tgt := 60) (pc := 42) dX1_harmOf_42 (by decide) <|
pw_sub [0, 2, 3, 4] rfl <| hk12 (y15 - y16))))) FU (0 : Int32) (0 : Int32) m1)
set_option maxHeartbeats 4000000 in
theorem tX2_gainOf (l : Launch) (G : pw_G) (a1 : Int32) (m0 : pw_Mem) : PMet l G yX2_gainOf cX2_gainOf 4 (some .int) 0 [.ref (pw_ad G 51), .int a1] m0 (pw_Ri m0) (fX2_gainOf a1 m0) :=
  pw_met (own := RX2) (l0 := [(0, .ref (pw_ad G 51)), (1, .int a1)]) rfl (by decide) rfl (Nat.le_of_ble_eq_true rfl) fun K hK hH => by
  delta fX2_gainOf
  exact (pw_iconst (v := 0) (pc := 0) dX2_gainOf_0 (by decide) <|
pw_istore_n [(2, .int (0 : Int32)), (0, .ref (pw_ad G 51)), (1, .int a1)] (pc := 1) dX2_gainOf_1 (by decide) rfl <|
pw_iconst (v := 0) (pc := 2) dX2_gainOf_2 (by decide) <|
pw_istore_n [(3, .int (0 : Int32)), (2, .int (0 : Int32)), (0, .ref (pw_ad G 51)), (1, .int a1)] (pc := 3) dX2_gainOf_3 (by decide) rfl <|
pw_lp (fun (kk14 : Int32 → Int32 → Option Int32) => ∀ (v1 : Int32) (v2 : Int32), PW K G RX2 cX2_gainOf 4 (some .int) 0 (pw_MQ K G (pw_Ri m0)) (kk14 v1 v2) 4 [(3, .int v2), (2, .int v1), (0, .ref (pw_ad G 51)), (1, .int a1)] [] m0) (fun _ _ => pw_none) (fun nx3 hn4 v1 v2 => pw_iload_n (pc := 4) dX2_gainOf_4 0 rfl <|
pw_aload_n (pc := 5) dX2_gainOf_5 2 rfl <|
pw_getR (o := 51) (k := 0) (t := 1) (pw_sh_51) cfX2 rfl (by decide) flX2_15 (pc := 6) dX2_gainOf_6 <|
pw_getI (o := 1) (k := 12) (pw_shTown pw_t1) cfX7 rfl (by decide) flX2_22 (pc := 9) dX2_gainOf_9 <|
pw_icmp_ge  (tgt := 43) (pc := 12) dX2_gainOf_12 (by decide) (fun h12 => pw_iload_n (pc := 43) dX2_gainOf_43 1 rfl <|
pw_iret (a := v1) (v := v1) hH rfl (pc := 44) dX2_gainOf_44) (fun h13 => pw_iload_n (pc := 15) dX2_gainOf_15 1 rfl <|
pw_iload_n (pc := 16) dX2_gainOf_16 3 rfl <|
pw_iload_n (pc := 17) dX2_gainOf_17 0 rfl <|
pw_ishr (pc := 18) dX2_gainOf_18 <|
pw_iconst (v := 1) (pc := 19) dX2_gainOf_19 (by decide) <|
pw_iand (pc := 20) dX2_gainOf_20 <|
pw_iconst (v := 1) (pc := 21) dX2_gainOf_21 (by decide) <|
pw_jn (fun (k8 : Int32 → Option Int32) => ∀ (w5 : Int32), PW K G RX2 cX2_gainOf 4 (some .int) 0 (pw_MQ K G (pw_Ri m0)) (k8 w5) 35 [(3, .int v2), (0, .ref (pw_ad G 51)), (1, .int a1)] [.int w5, .int v1] m0) (fun w5 => pw_iadd (pc := 35) dX2_gainOf_35 <|
pw_ltI fun x6 => pw_istore_n [(2, .int x6), (3, .int v2), (0, .ref (pw_ad G 51)), (1, .int a1)] (pc := 36) dX2_gainOf_36 (by decide) rfl <|
pw_ltA fun x7 hxx7 => pw_iinc (v := x7) [(3, .int x7), (2, .int x6), (0, .ref (pw_ad G 51)), (1, .int a1)] (pc := 37) dX2_gainOf_37 1 rfl (by rw [hxx7]; rfl) (by decide) rfl <|
pw_goto (tgt := 4) (pc := 40) dX2_gainOf_40 (by decide) <|
hn4 x6 x7) (fun k8 hk9 => pw_icmp_ne  (tgt := 34) (pc := 22) dX2_gainOf_22 (by decide) (fun h10 => pw_iconst (v := 0) (pc := 34) dX2_gainOf_34 (by decide) <|
pw_sub [0, 2, 3] rfl <| hk9 (0 : Int32)) (fun h11 => pw_aload_n (pc := 25) dX2_gainOf_25 2 rfl <|
pw_getR (o := 51) (k := 2) (t := 52) (pw_sh_51) cfX2 rfl (by decide) flX2_9 (pc := 26) dX2_gainOf_26 <|
pw_iload_n (pc := 29) dX2_gainOf_29 0 rfl <|
pw_iald (pw_sh_52) (pc := 30) dX2_gainOf_30 <|
pw_goto (tgt := 35) (pc := 31) dX2_gainOf_31 (by decide) <|
pw_sub [0, 2, 3] rfl <| hk9 (m0 52 (v2).toNatClampNeg))))) FU (0 : Int32) (0 : Int32))
set_option maxHeartbeats 4000000 in
theorem tX2_bestRenewed (l : Launch) (G : pw_G) (a1 : Int32) (m0 : pw_Mem) : PMet l G yX2_bestRenewed cX2_bestRenewed 5 (some .int) 1 [.ref (pw_ad G 51), .int a1] m0 pw_Wi (fX2_bestRenewed a1 m0) :=
  pw_met (own := RX2) (l0 := [(0, .ref (pw_ad G 51)), (1, .int a1)]) rfl (by decide) rfl (Nat.le_of_ble_eq_true rfl) fun K hK hH => by
  delta fX2_bestRenewed
  exact (pw_iconst (v := 0) (pc := 0) dX2_bestRenewed_0 (by decide) <|
pw_istore_n [(2, .int (0 : Int32)), (0, .ref (pw_ad G 51)), (1, .int a1)] (pc := 1) dX2_bestRenewed_1 (by decide) rfl <|
pw_iconst (v := 0) (pc := 2) dX2_bestRenewed_2 (by decide) <|
pw_istore_n [(3, .int (0 : Int32)), (2, .int (0 : Int32)), (0, .ref (pw_ad G 51)), (1, .int a1)] (pc := 3) dX2_bestRenewed_3 (by decide) rfl <|
pw_iconst (v := 0) (pc := 4) dX2_bestRenewed_4 (by decide) <|
pw_istore [(4, .int (0 : Int32)), (3, .int (0 : Int32)), (2, .int (0 : Int32)), (0, .ref (pw_ad G 51)), (1, .int a1)] (pc := 5) dX2_bestRenewed_5 (by decide) rfl <|
pw_lp (fun (kk33 : Int32 → pw_Mem → Option (Int32 × pw_Mem)) => ∀ (v1 : Int32) (m2 : pw_Mem), PW K G RX2 cX2_bestRenewed 5 (some .int) 1 (pw_MQ K G pw_Wi) (kk33 v1 m2) 7 [(4, .int v1), (3, .int (0 : Int32)), (2, .int (0 : Int32)), (0, .ref (pw_ad G 51)), (1, .int a1)] [] m2) (fun _ _ => pw_none) (fun nx3 hn4 v1 m2 => pw_iload (pc := 7) dX2_bestRenewed_7 0 rfl <|
pw_aload_n (pc := 9) dX2_bestRenewed_9 3 rfl <|
pw_getR (o := 51) (k := 0) (t := 1) (pw_sh_51) cfX2 rfl (by decide) flX2_15 (pc := 10) dX2_bestRenewed_10 <|
pw_getI (o := 1) (k := 12) (pw_shTown pw_t1) cfX7 rfl (by decide) flX2_22 (pc := 13) dX2_bestRenewed_13 <|
pw_icmp_ge  (tgt := 76) (pc := 16) dX2_bestRenewed_16 (by decide) (fun h31 => pw_iconst (v := 0) (pc := 76) dX2_bestRenewed_76 (by decide) <|
pw_istore [(4, .int (0 : Int32)), (3, .int (0 : Int32)), (2, .int (0 : Int32)), (0, .ref (pw_ad G 51)), (1, .int a1)] (pc := 77) dX2_bestRenewed_77 (by decide) rfl <|
pw_lp (fun (kk26 : Int32 → Int32 → Int32 → Option (Int32 × pw_Mem)) => ∀ (v5 : Int32) (v6 : Int32) (v7 : Int32), PW K G RX2 cX2_bestRenewed 5 (some .int) 1 (pw_MQ K G pw_Wi) (kk26 v5 v6 v7) 79 [(4, .int v7), (3, .int v6), (2, .int v5), (0, .ref (pw_ad G 51)), (1, .int a1)] [] m2) (fun _ _ _ => pw_none) (fun nx8 hn9 v5 v6 v7 => pw_iload (pc := 79) dX2_bestRenewed_79 0 rfl <|
pw_iconst (v := 1) (pc := 81) dX2_bestRenewed_81 (by decide) <|
pw_aload_n (pc := 82) dX2_bestRenewed_82 3 rfl <|
pw_getR (o := 51) (k := 0) (t := 1) (pw_sh_51) cfX2 rfl (by decide) flX2_15 (pc := 83) dX2_bestRenewed_83 <|
pw_getI (o := 1) (k := 12) (pw_shTown pw_t1) cfX7 rfl (by decide) flX2_22 (pc := 86) dX2_bestRenewed_86 <|
pw_ishl (pc := 89) dX2_bestRenewed_89 <|
pw_icmp_ge  (tgt := 141) (pc := 90) dX2_bestRenewed_90 (by decide) (fun h24 => pw_iload_n (pc := 141) dX2_bestRenewed_141 2 rfl <|
pw_iret (a := v5) (v := (v5, m2)) hH rfl (pc := 142) dX2_bestRenewed_142) (fun h25 => pw_iload (pc := 93) dX2_bestRenewed_93 0 rfl <|
pw_callS_ri (n := 1) (rest := []) (tJ6_bitCount_0f7a4 K.2.1 G v7 m2) miJ6_bitCount_0f7a4 mlX2_38 (pc := 95) dX2_bestRenewed_95 rfl rfl (by decide) (Nat.le_of_ble_eq_true rfl) fun y10 =>
pw_iload_n (pc := 98) dX2_bestRenewed_98 4 rfl <|
pw_jn (fun (k14 : Int32 → Int32 → Option (Int32 × pw_Mem)) => ∀ (v11 : Int32) (v12 : Int32), PW K G RX2 cX2_bestRenewed 5 (some .int) 1 (pw_MQ K G pw_Wi) (k14 v11 v12) 135 [(4, .int v7), (3, .int v12), (2, .int v11), (0, .ref (pw_ad G 51)), (1, .int a1)] [] m2) (fun v11 v12 => pw_ltA fun x13 hxx13 => pw_iinc (v := x13) [(4, .int x13), (3, .int v12), (2, .int v11), (0, .ref (pw_ad G 51)), (1, .int a1)] (pc := 135) dX2_bestRenewed_135 0 rfl (by rw [hxx13]; rfl) (by decide) rfl <|
pw_goto (tgt := 79) (pc := 138) dX2_bestRenewed_138 (by decide) <|
hn9 v11 v12 x13) (fun k14 hk15 => pw_icmp_gt  (tgt := 135) (pc := 99) dX2_bestRenewed_99 (by decide) (fun h22 => hk15 v5 v6) (fun h23 => pw_iload (pc := 102) dX2_bestRenewed_102 0 rfl <|
pw_aload_n (pc := 104) dX2_bestRenewed_104 3 rfl <|
pw_getR (o := 51) (k := 0) (t := 1) (pw_sh_51) cfX2 rfl (by decide) flX2_15 (pc := 105) dX2_bestRenewed_105 <|
pw_getI (o := 1) (k := 13) (pw_shTown pw_t1) cfX7 rfl (by decide) flX2_44 (pc := 108) dX2_bestRenewed_108 <|
pw_iand (pc := 111) dX2_bestRenewed_111 <|
pw_if_ne (a := (v7 &&& (m2 1 13))) (b := 0) (tgt := 135) (pc := 112) dX2_bestRenewed_112 (by decide) (fun h20 => hk15 v5 v6) (fun h21 => pw_aload_n (pc := 115) dX2_bestRenewed_115 3 rfl <|
pw_iload (pc := 116) dX2_bestRenewed_116 0 rfl <|
pw_callV_ri (n := 1) (rest := []) (tX2_gainOf K.2.1 G v7 m2) (pw_sh_51) cfX2 rfl miX2_gainOf mlX2_47 (pc := 118) dX2_bestRenewed_118 rfl rfl (by decide) (Nat.le_of_ble_eq_true rfl) fun y16 =>
pw_iload_n (pc := 121) dX2_bestRenewed_121 1 rfl <|
pw_icmp_le  (tgt := 135) (pc := 122) dX2_bestRenewed_122 (by decide) (fun h18 => hk15 v5 v6) (fun h19 => pw_iload (pc := 125) dX2_bestRenewed_125 0 rfl <|
pw_istore_n [(2, .int v7), (4, .int v7), (3, .int v6), (0, .ref (pw_ad G 51)), (1, .int a1)] (pc := 127) dX2_bestRenewed_127 (by decide) rfl <|
pw_aload_n (pc := 128) dX2_bestRenewed_128 3 rfl <|
pw_iload (pc := 129) dX2_bestRenewed_129 1 rfl <|
pw_callV_ri (n := 1) (rest := []) (tX2_gainOf K.2.1 G v7 m2) (pw_sh_51) cfX2 rfl miX2_gainOf mlX2_47 (pc := 131) dX2_bestRenewed_131 rfl rfl (by decide) (Nat.le_of_ble_eq_true rfl) fun y17 =>
pw_istore_n [(3, .int y17), (2, .int v7), (4, .int v7), (0, .ref (pw_ad G 51)), (1, .int a1)] (pc := 134) dX2_bestRenewed_134 (by decide) rfl <|
pw_sub [2, 0, 1, 3, 4] rfl <| hk15 v7 y17)))))) FU (0 : Int32) (0 : Int32) (0 : Int32)) (fun h32 => pw_aload_n (pc := 19) dX2_bestRenewed_19 3 rfl <|
pw_getR (o := 51) (k := 2) (t := 52) (pw_sh_51) cfX2 rfl (by decide) flX2_9 (pc := 20) dX2_bestRenewed_20 <|
pw_iload (pc := 23) dX2_bestRenewed_23 0 rfl <|
pw_aload_n (pc := 25) dX2_bestRenewed_25 3 rfl <|
pw_getR (o := 51) (k := 0) (t := 1) (pw_sh_51) cfX2 rfl (by decide) flX2_15 (pc := 26) dX2_bestRenewed_26 <|
pw_iload (pc := 29) dX2_bestRenewed_29 0 rfl <|
pw_iconst (v := 0) (pc := 31) dX2_bestRenewed_31 (by decide) <|
pw_aload_n (pc := 32) dX2_bestRenewed_32 3 rfl <|
pw_getR (o := 51) (k := 0) (t := 1) (pw_sh_51) cfX2 rfl (by decide) flX2_15 (pc := 33) dX2_bestRenewed_33 <|
pw_getI (o := 1) (k := 14) (pw_shTown pw_t1) cfX7 rfl (by decide) flX2_28 (pc := 36) dX2_bestRenewed_36 <|
pw_callV_ri (n := 3) (rest := [.int v1, .ref (pw_ad G 52)]) (tX7_holdsAt K.2.1 G pw_t1 v1 (0 : Int32) (m2 1 14) m2) (pw_shTown pw_t1) cfX7 rfl miX7_holdsAt mlX2_31 (pc := 39) dX2_bestRenewed_39 rfl rfl (by decide) (Nat.le_of_ble_eq_true rfl) fun y27 =>
pw_aload_n (pc := 42) dX2_bestRenewed_42 3 rfl <|
pw_getR (o := 51) (k := 0) (t := 1) (pw_sh_51) cfX2 rfl (by decide) flX2_15 (pc := 43) dX2_bestRenewed_43 <|
pw_iload (pc := 46) dX2_bestRenewed_46 0 rfl <|
pw_aload_n (pc := 48) dX2_bestRenewed_48 3 rfl <|
pw_getR (o := 51) (k := 0) (t := 1) (pw_sh_51) cfX2 rfl (by decide) flX2_15 (pc := 49) dX2_bestRenewed_49 <|
pw_getR (o := 1) (k := 7) (t := (1 + 8)) (pw_shTown pw_t1) cfX7 rfl (by decide) flX2_35 (pc := 52) dX2_bestRenewed_52 <|
pw_iload (pc := 55) dX2_bestRenewed_55 0 rfl <|
pw_iald (pw_shTown7 pw_t1) (pc := 57) dX2_bestRenewed_57 <|
pw_aload_n (pc := 58) dX2_bestRenewed_58 3 rfl <|
pw_getR (o := 51) (k := 0) (t := 1) (pw_sh_51) cfX2 rfl (by decide) flX2_15 (pc := 59) dX2_bestRenewed_59 <|
pw_getI (o := 1) (k := 14) (pw_shTown pw_t1) cfX7 rfl (by decide) flX2_28 (pc := 62) dX2_bestRenewed_62 <|
pw_callV_ri (n := 3) (rest := [.int y27, .int v1, .ref (pw_ad G 52)]) (tX7_holdsAt K.2.1 G pw_t1 v1 (m2 (1 + 8) (v1).toNatClampNeg) (m2 1 14) m2) (pw_shTown pw_t1) cfX7 rfl miX7_holdsAt mlX2_31 (pc := 65) dX2_bestRenewed_65 rfl rfl (by decide) (Nat.le_of_ble_eq_true rfl) fun y28 =>
pw_isub (pc := 68) dX2_bestRenewed_68 <|
pw_iast (pw_sh_52) (pc := 69) dX2_bestRenewed_69 <| pw_ltM fun m29 =>
pw_ltA fun x30 hxx30 => pw_iinc (v := x30) [(4, .int x30), (3, .int (0 : Int32)), (2, .int (0 : Int32)), (0, .ref (pw_ad G 51)), (1, .int a1)] (pc := 70) dX2_bestRenewed_70 0 rfl (by rw [hxx30]; rfl) (by decide) rfl <|
pw_goto (tgt := 7) (pc := 73) dX2_bestRenewed_73 (by decide) <|
hn4 x30 m29)) FU (0 : Int32) m0)
set_option maxHeartbeats 4000000 in
theorem tX2_spareWith (l : Launch) (G : pw_G) (a1 : Int32) (m0 : pw_Mem) : PMet l G yX2_spareWith cX2_spareWith 5 (some .int) 1 [.ref (pw_ad G 51), .int a1] m0 (pw_Ri m0) (fX2_spareWith a1 m0) :=
  pw_met (own := RX2) (l0 := [(0, .ref (pw_ad G 51)), (1, .int a1)]) rfl (by decide) rfl (Nat.le_of_ble_eq_true rfl) fun K hK hH => by
  delta fX2_spareWith
  exact (pw_iconst (v := 0) (pc := 0) dX2_spareWith_0 (by decide) <|
pw_istore_n [(2, .int (0 : Int32)), (0, .ref (pw_ad G 51)), (1, .int a1)] (pc := 1) dX2_spareWith_1 (by decide) rfl <|
pw_iconst (v := 0) (pc := 2) dX2_spareWith_2 (by decide) <|
pw_istore_n [(3, .int (0 : Int32)), (2, .int (0 : Int32)), (0, .ref (pw_ad G 51)), (1, .int a1)] (pc := 3) dX2_spareWith_3 (by decide) rfl <|
pw_lp (fun (kk22 : Int32 → Int32 → Option Int32) => ∀ (v1 : Int32) (v2 : Int32), PW K G RX2 cX2_spareWith 5 (some .int) 1 (pw_MQ K G (pw_Ri m0)) (kk22 v1 v2) 4 [(3, .int v2), (2, .int v1), (0, .ref (pw_ad G 51)), (1, .int a1)] [] m0) (fun _ _ => pw_none) (fun nx3 hn4 v1 v2 => pw_iload_n (pc := 4) dX2_spareWith_4 0 rfl <|
pw_aload_n (pc := 5) dX2_spareWith_5 2 rfl <|
pw_getR (o := 51) (k := 0) (t := 1) (pw_sh_51) cfX2 rfl (by decide) flX2_15 (pc := 6) dX2_spareWith_6 <|
pw_getI (o := 1) (k := 12) (pw_shTown pw_t1) cfX7 rfl (by decide) flX2_22 (pc := 9) dX2_spareWith_9 <|
pw_icmp_ge  (tgt := 85) (pc := 12) dX2_spareWith_12 (by decide) (fun h20 => pw_iload_n (pc := 85) dX2_spareWith_85 1 rfl <|
pw_iret (a := v1) (v := v1) hH rfl (pc := 86) dX2_spareWith_86) (fun h21 => pw_aload_n (pc := 15) dX2_spareWith_15 2 rfl <|
pw_getR (o := 51) (k := 0) (t := 1) (pw_sh_51) cfX2 rfl (by decide) flX2_15 (pc := 16) dX2_spareWith_16 <|
pw_iload_n (pc := 19) dX2_spareWith_19 0 rfl <|
pw_callV_rz (n := 1) (rest := []) (tX7_isSnapped K.2.1 G pw_t1 v2 m0) (pw_shTown pw_t1) cfX7 rfl miX7_isSnapped mlX2_50 (pc := 20) dX2_spareWith_20 rfl rfl (by decide) (Nat.le_of_ble_eq_true rfl) fun y5 =>
pw_jn (fun (k8 : Int32 → Option Int32) => ∀ (v6 : Int32), PW K G RX2 cX2_spareWith 5 (some .int) 1 (pw_MQ K G (pw_Ri m0)) (k8 v6) 79 [(3, .int v2), (2, .int v6), (0, .ref (pw_ad G 51)), (1, .int a1)] [] m0) (fun v6 => pw_ltA fun x7 hxx7 => pw_iinc (v := x7) [(3, .int x7), (2, .int v6), (0, .ref (pw_ad G 51)), (1, .int a1)] (pc := 79) dX2_spareWith_79 0 rfl (by rw [hxx7]; rfl) (by decide) rfl <|
pw_goto (tgt := 4) (pc := 82) dX2_spareWith_82 (by decide) <|
hn4 v6 x7) (fun k8 hk9 => pw_ifz_ne (tgt := 79) (pc := 23) dX2_spareWith_23 (by decide) (fun h18 => hk9 v1) (fun h19 => pw_iload_n (pc := 26) dX2_spareWith_26 3 rfl <|
pw_iload_n (pc := 27) dX2_spareWith_27 0 rfl <|
pw_ishr (pc := 28) dX2_spareWith_28 <|
pw_iconst (v := 1) (pc := 29) dX2_spareWith_29 (by decide) <|
pw_iand (pc := 30) dX2_spareWith_30 <|
pw_iconst (v := 1) (pc := 31) dX2_spareWith_31 (by decide) <|
pw_jn (fun (k14 : Int32 → Option Int32) => ∀ (w10 : Int32), PW K G RX2 cX2_spareWith 5 (some .int) 1 (pw_MQ K G (pw_Ri m0)) (k14 w10) 48 [(3, .int v2), (2, .int v1), (0, .ref (pw_ad G 51)), (1, .int a1)] [.int w10] m0) (fun w10 => pw_istore [(4, .int w10), (3, .int v2), (2, .int v1), (0, .ref (pw_ad G 51)), (1, .int a1)] (pc := 48) dX2_spareWith_48 (by decide) rfl <|
pw_iload_n (pc := 50) dX2_spareWith_50 2 rfl <|
pw_aload_n (pc := 51) dX2_spareWith_51 3 rfl <|
pw_getR (o := 51) (k := 0) (t := 1) (pw_sh_51) cfX2 rfl (by decide) flX2_15 (pc := 52) dX2_spareWith_52 <|
pw_iload_n (pc := 55) dX2_spareWith_55 1 rfl <|
pw_iload (pc := 56) dX2_spareWith_56 0 rfl <|
pw_aload_n (pc := 58) dX2_spareWith_58 3 rfl <|
pw_getR (o := 51) (k := 0) (t := 1) (pw_sh_51) cfX2 rfl (by decide) flX2_15 (pc := 59) dX2_spareWith_59 <|
pw_getI (o := 1) (k := 14) (pw_shTown pw_t1) cfX7 rfl (by decide) flX2_28 (pc := 62) dX2_spareWith_62 <|
pw_callV_ri (n := 3) (rest := [.int v1]) (tX7_holdsAt K.2.1 G pw_t1 v2 w10 (m0 1 14) m0) (pw_shTown pw_t1) cfX7 rfl miX7_holdsAt mlX2_31 (pc := 65) dX2_spareWith_65 rfl rfl (by decide) (Nat.le_of_ble_eq_true rfl) fun y11 =>
pw_aload_n (pc := 68) dX2_spareWith_68 3 rfl <|
pw_getR (o := 51) (k := 0) (t := 1) (pw_sh_51) cfX2 rfl (by decide) flX2_15 (pc := 69) dX2_spareWith_69 <|
pw_iload_n (pc := 72) dX2_spareWith_72 1 rfl <|
pw_callV_ri (n := 1) (rest := [.int y11, .int v1]) (tX7_stretch K.2.1 G pw_t1 v2 m0) (pw_shTown pw_t1) cfX7 rfl miX7_stretch mlX2_54 (pc := 73) dX2_spareWith_73 rfl rfl (by decide) (Nat.le_of_ble_eq_true rfl) fun y12 =>
pw_isub (pc := 76) dX2_spareWith_76 <|
pw_iadd (pc := 77) dX2_spareWith_77 <|
pw_ltI fun x13 => pw_istore_n [(2, .int x13), (4, .int w10), (3, .int v2), (0, .ref (pw_ad G 51)), (1, .int a1)] (pc := 78) dX2_spareWith_78 (by decide) rfl <|
pw_sub [2, 0, 3, 4] rfl <| hk9 x13) (fun k14 hk15 => pw_icmp_ne  (tgt := 39) (pc := 32) dX2_spareWith_32 (by decide) (fun h16 => pw_aload_n (pc := 39) dX2_spareWith_39 2 rfl <|
pw_getR (o := 51) (k := 0) (t := 1) (pw_sh_51) cfX2 rfl (by decide) flX2_15 (pc := 40) dX2_spareWith_40 <|
pw_getR (o := 1) (k := 7) (t := (1 + 8)) (pw_shTown pw_t1) cfX7 rfl (by decide) flX2_35 (pc := 43) dX2_spareWith_43 <|
pw_iload_n (pc := 46) dX2_spareWith_46 0 rfl <|
pw_iald (pw_shTown7 pw_t1) (pc := 47) dX2_spareWith_47 <|
hk15 (m0 (1 + 8) (v2).toNatClampNeg)) (fun h17 => pw_iconst (v := 0) (pc := 35) dX2_spareWith_35 (by decide) <|
pw_goto (tgt := 48) (pc := 36) dX2_spareWith_36 (by decide) <|
hk15 (0 : Int32))))))) FU (0 : Int32) (0 : Int32))
set_option maxHeartbeats 4000000 in
theorem tX2_firstFrost (l : Launch) (G : pw_G) (a1 : Int32) (m0 : pw_Mem) : PMet l G yX2_firstFrost cX2_firstFrost 4 (some .int) 2 [.ref (pw_ad G 51), .int a1] m0 (pw_Ri m0) (fX2_firstFrost a1 m0) :=
  pw_met (own := RX2) (l0 := [(0, .ref (pw_ad G 51)), (1, .int a1)]) rfl (by decide) rfl (Nat.le_of_ble_eq_true rfl) fun K hK hH => by
  delta fX2_firstFrost
  exact (pw_iconst (v := 0) (pc := 0) dX2_firstFrost_0 (by decide) <|
pw_istore_n [(2, .int (0 : Int32)), (0, .ref (pw_ad G 51)), (1, .int a1)] (pc := 1) dX2_firstFrost_1 (by decide) rfl <|
pw_lp (fun (kk13 : Int32 → Option Int32) => ∀ (v1 : Int32), PW K G RX2 cX2_firstFrost 4 (some .int) 2 (pw_MQ K G (pw_Ri m0)) (kk13 v1) 2 [(2, .int v1), (0, .ref (pw_ad G 51)), (1, .int a1)] [] m0) (fun _ => pw_none) (fun nx2 hn3 v1 => pw_iload_n (pc := 2) dX2_firstFrost_2 0 rfl <|
pw_bipush (v := 9) (pc := 3) dX2_firstFrost_3 (by decide) <|
pw_icmp_gt  (tgt := 40) (pc := 5) dX2_firstFrost_5 (by decide) (fun h11 => pw_bipush (v := -4) (pc := 40) dX2_firstFrost_40 (by decide) <|
pw_iret (a := (-4 : Int32)) (v := (-4 : Int32)) hH rfl (pc := 42) dX2_firstFrost_42) (fun h12 => pw_aload_n (pc := 8) dX2_firstFrost_8 1 rfl <|
pw_getR (o := 51) (k := 0) (t := 1) (pw_sh_51) cfX2 rfl (by decide) flX2_15 (pc := 9) dX2_firstFrost_9 <|
pw_iload_n (pc := 12) dX2_firstFrost_12 0 rfl <|
pw_callV_ri (n := 1) (rest := []) (tX7_overstretched K.2.1 G pw_t1 v1 m0) (pw_shTown pw_t1) cfX7 rfl miX7_overstretched mlX2_57 (pc := 13) dX2_firstFrost_13 rfl rfl (by decide) (Nat.le_of_ble_eq_true rfl) fun y4 =>
pw_istore_n [(3, .int y4), (2, .int v1), (0, .ref (pw_ad G 51)), (1, .int a1)] (pc := 16) dX2_firstFrost_16 (by decide) rfl <|
pw_iload_n (pc := 17) dX2_firstFrost_17 0 rfl <|
pw_if_eq (a := y4) (b := 0) (tgt := 34) (pc := 18) dX2_firstFrost_18 (by decide) (fun h9 => pw_ltA fun x5 hxx5 => pw_iinc (v := x5) [(2, .int x5), (3, .int y4), (0, .ref (pw_ad G 51)), (1, .int a1)] (pc := 34) dX2_firstFrost_34 1 rfl (by rw [hxx5]; rfl) (by decide) rfl <|
pw_goto (tgt := 2) (pc := 37) dX2_firstFrost_37 (by decide) <|
pw_sub [0, 2, 3] rfl <| hn3 x5) (fun h10 => pw_iload_n (pc := 21) dX2_firstFrost_21 3 rfl <|
pw_if_eq (a := a1) (b := 0) (tgt := 29) (pc := 22) dX2_firstFrost_22 (by decide) (fun h7 => pw_iload_n (pc := 29) dX2_firstFrost_29 0 rfl <|
pw_callN_ri (n := 1) (rest := []) (tX10_lowestOf K.2.1 G y4 m0) miX10_lowestOf mlX2_60 (pc := 30) dX2_firstFrost_30 rfl rfl (by decide) (Nat.le_of_ble_eq_true rfl) fun y6 =>
pw_iret (a := y6) (v := y6) hH rfl (pc := 33) dX2_firstFrost_33) (fun h8 => pw_iload_n (pc := 25) dX2_firstFrost_25 1 rfl <|
pw_goto (tgt := 33) (pc := 26) dX2_firstFrost_26 (by decide) <|
pw_iret (a := v1) (v := v1) hH rfl (pc := 33) dX2_firstFrost_33)))) FU (0 : Int32))
set_option maxHeartbeats 4000000 in
theorem tX2_leansAs (l : Launch) (G : pw_G) {o1 : Nat} (ho1 : pw_isShelf o1) (m0 : pw_Mem) : PMet l G yX2_leansAs cX2_leansAs 3 (some .boolean) 3 [.ref (pw_ad G 51), .ref (pw_ad G o1)] m0 (pw_Rz m0) (fX2_leansAs o1 m0) :=
  pw_met (own := RX2) (l0 := [(0, .ref (pw_ad G 51)), (1, .ref (pw_ad G o1))]) rfl (by decide) rfl (Nat.le_of_ble_eq_true rfl) fun K hK hH => by
  delta fX2_leansAs
  exact (pw_iconst (v := 0) (pc := 0) dX2_leansAs_0 (by decide) <|
pw_istore_n [(2, .int (0 : Int32)), (0, .ref (pw_ad G 51)), (1, .ref (pw_ad G o1))] (pc := 1) dX2_leansAs_1 (by decide) rfl <|
pw_lp (fun (kk17 : Int32 → Option Bool) => ∀ (v1 : Int32), PW K G RX2 cX2_leansAs 3 (some .boolean) 3 (pw_MQ K G (pw_Rz m0)) (kk17 v1) 2 [(2, .int v1), (0, .ref (pw_ad G 51)), (1, .ref (pw_ad G o1))] [] m0) (fun _ => pw_none) (fun nx2 hn3 v1 => pw_iload_n (pc := 2) dX2_leansAs_2 0 rfl <|
pw_aload_n (pc := 3) dX2_leansAs_3 2 rfl <|
pw_getI (o := o1) (k := 5) (pw_shShelf ho1) cfX5 rfl (by decide) flX2_74 (pc := 4) dX2_leansAs_4 <|
pw_icmp_ge  (tgt := 54) (pc := 7) dX2_leansAs_7 (by decide) (fun h15 => pw_iconst (v := 1) (pc := 54) dX2_leansAs_54 (by decide) <|
pw_zret (b := true) hH rfl (pc := 55) dX2_leansAs_55) (fun h16 => pw_iload_n (pc := 10) dX2_leansAs_10 0 rfl <|
pw_aload_n (pc := 11) dX2_leansAs_11 1 rfl <|
pw_getR (o := 51) (k := 1) (t := 13) (pw_sh_51) cfX2 rfl (by decide) flX2_19 (pc := 12) dX2_leansAs_12 <|
pw_getI (o := 13) (k := 11) (pw_shTown pw_t13) cfX7 rfl (by decide) flX2_79 (pc := 15) dX2_leansAs_15 <|
pw_icmp_ge  (tgt := 54) (pc := 18) dX2_leansAs_18 (by decide) (fun h13 => pw_iconst (v := 1) (pc := 54) dX2_leansAs_54 (by decide) <|
pw_zret (b := true) hH rfl (pc := 55) dX2_leansAs_55) (fun h14 => pw_aload_n (pc := 21) dX2_leansAs_21 2 rfl <|
pw_iload_n (pc := 22) dX2_leansAs_22 0 rfl <|
pw_callV_rz (n := 1) (rest := []) (tX5_isSkipped K.2.1 G ho1 v1 m0) (pw_shShelf ho1) cfX5 rfl miX5_isSkipped mlX2_82 (pc := 23) dX2_leansAs_23 rfl rfl (by decide) (Nat.le_of_ble_eq_true rfl) fun y4 =>
pw_jn (fun (k6 : Option Bool) => PW K G RX2 cX2_leansAs 3 (some .boolean) 3 (pw_MQ K G (pw_Rz m0)) k6 48 [(2, .int v1), (0, .ref (pw_ad G 51)), (1, .ref (pw_ad G o1))] [] m0) (pw_ltA fun x5 hxx5 => pw_iinc (v := x5) [(2, .int x5), (0, .ref (pw_ad G 51)), (1, .ref (pw_ad G o1))] (pc := 48) dX2_leansAs_48 0 rfl (by rw [hxx5]; rfl) (by decide) rfl <|
pw_goto (tgt := 2) (pc := 51) dX2_leansAs_51 (by decide) <|
hn3 x5) (fun k6 hk7 => pw_ifz_ne (tgt := 48) (pc := 26) dX2_leansAs_26 (by decide) (fun h11 => hk7) (fun h12 => pw_aload_n (pc := 29) dX2_leansAs_29 2 rfl <|
pw_iload_n (pc := 30) dX2_leansAs_30 0 rfl <|
pw_callV_ri (n := 1) (rest := []) (tX5_at K.2.1 G ho1 v1 m0) (pw_shShelf ho1) cfX5 rfl miX5_at mlX2_85 (pc := 31) dX2_leansAs_31 rfl rfl (by decide) (Nat.le_of_ble_eq_true rfl) fun y8 =>
pw_aload_n (pc := 34) dX2_leansAs_34 1 rfl <|
pw_getR (o := 51) (k := 1) (t := 13) (pw_sh_51) cfX2 rfl (by decide) flX2_19 (pc := 35) dX2_leansAs_35 <|
pw_getR (o := 13) (k := 2) (t := (13 + 3)) (pw_shTown pw_t13) cfX7 rfl (by decide) flX2_88 (pc := 38) dX2_leansAs_38 <|
pw_iload_n (pc := 41) dX2_leansAs_41 0 rfl <|
pw_iald (pw_shTown2 pw_t13) (pc := 42) dX2_leansAs_42 <|
pw_icmp_eq  (tgt := 48) (pc := 43) dX2_leansAs_43 (by decide) (fun h9 => hk7) (fun h10 => pw_iconst (v := 0) (pc := 46) dX2_leansAs_46 (by decide) <|
pw_zret (b := false) hH rfl (pc := 47) dX2_leansAs_47)))))) FU (0 : Int32))
set_option maxHeartbeats 4000000 in
theorem tX2_goneBy (l : Launch) (G : pw_G) {o1 : Nat} (ho1 : pw_isShelf o1) (m0 : pw_Mem) : PMet l G yX2_goneBy cX2_goneBy 4 (some .int) 4 [.ref (pw_ad G 51), .ref (pw_ad G o1)] m0 pw_Wi (fX2_goneBy o1 m0) :=
  pw_met (own := RX2) (l0 := [(0, .ref (pw_ad G 51)), (1, .ref (pw_ad G o1))]) rfl (by decide) rfl (Nat.le_of_ble_eq_true rfl) fun K hK hH => by
  delta fX2_goneBy
  exact (pw_iconst (v := 0) (pc := 0) dX2_goneBy_0 (by decide) <|
pw_istore_n [(2, .int (0 : Int32)), (0, .ref (pw_ad G 51)), (1, .ref (pw_ad G o1))] (pc := 1) dX2_goneBy_1 (by decide) rfl <|
pw_aload_n (pc := 2) dX2_goneBy_2 1 rfl <|
pw_getR (o := 51) (k := 1) (t := 13) (pw_sh_51) cfX2 rfl (by decide) flX2_19 (pc := 3) dX2_goneBy_3 <|
pw_aload_n (pc := 6) dX2_goneBy_6 1 rfl <|
pw_getR (o := 51) (k := 0) (t := 1) (pw_sh_51) cfX2 rfl (by decide) flX2_15 (pc := 7) dX2_goneBy_7 <|
pw_callV_wv (n := 1) (rest := []) (tX7_becomes K.2.1 G pw_t13 pw_t1 m0) (pw_shTown pw_t13) cfX7 rfl miX7_becomes mlX2_63 (pc := 10) dX2_goneBy_10 rfl rfl (by decide) (Nat.le_of_ble_eq_true rfl) fun m1 =>
pw_iconst (v := 0) (pc := 13) dX2_goneBy_13 (by decide) <|
pw_istore_n [(3, .int (0 : Int32)), (2, .int (0 : Int32)), (0, .ref (pw_ad G 51)), (1, .ref (pw_ad G o1))] (pc := 14) dX2_goneBy_14 (by decide) rfl <|
pw_lp (fun (kk26 : Int32 → Int32 → pw_Mem → Option (Int32 × pw_Mem)) => ∀ (v2 : Int32) (v3 : Int32) (m4 : pw_Mem), PW K G RX2 cX2_goneBy 4 (some .int) 4 (pw_MQ K G pw_Wi) (kk26 v2 v3 m4) 15 [(3, .int v3), (2, .int v2), (0, .ref (pw_ad G 51)), (1, .ref (pw_ad G o1))] [] m4) (fun _ _ _ => pw_none) (fun nx5 hn6 v2 v3 m4 => pw_iload_n (pc := 15) dX2_goneBy_15 0 rfl <|
pw_aload_n (pc := 16) dX2_goneBy_16 2 rfl <|
pw_getR (o := 51) (k := 0) (t := 1) (pw_sh_51) cfX2 rfl (by decide) flX2_15 (pc := 17) dX2_goneBy_17 <|
pw_getI (o := 1) (k := 12) (pw_shTown pw_t1) cfX7 rfl (by decide) flX2_22 (pc := 20) dX2_goneBy_20 <|
pw_icmp_ge  (tgt := 86) (pc := 23) dX2_goneBy_23 (by decide) (fun h24 => pw_iload_n (pc := 86) dX2_goneBy_86 1 rfl <|
pw_iret (a := v2) (v := (v2, m4)) hH rfl (pc := 87) dX2_goneBy_87) (fun h25 => pw_aload_n (pc := 26) dX2_goneBy_26 2 rfl <|
pw_getR (o := 51) (k := 0) (t := 1) (pw_sh_51) cfX2 rfl (by decide) flX2_15 (pc := 27) dX2_goneBy_27 <|
pw_iload_n (pc := 30) dX2_goneBy_30 0 rfl <|
pw_callV_rz (n := 1) (rest := []) (tX7_isSnapped K.2.1 G pw_t1 v3 m4) (pw_shTown pw_t1) cfX7 rfl miX7_isSnapped mlX2_50 (pc := 31) dX2_goneBy_31 rfl rfl (by decide) (Nat.le_of_ble_eq_true rfl) fun y7 =>
pw_jn (fun (k11 : Int32 → pw_Mem → Option (Int32 × pw_Mem)) => ∀ (v8 : Int32) (m9 : pw_Mem), PW K G RX2 cX2_goneBy 4 (some .int) 4 (pw_MQ K G pw_Wi) (k11 v8 m9) 80 [(3, .int v3), (2, .int v8), (0, .ref (pw_ad G 51)), (1, .ref (pw_ad G o1))] [] m9) (fun v8 m9 => pw_ltA fun x10 hxx10 => pw_iinc (v := x10) [(3, .int x10), (2, .int v8), (0, .ref (pw_ad G 51)), (1, .ref (pw_ad G o1))] (pc := 80) dX2_goneBy_80 0 rfl (by rw [hxx10]; rfl) (by decide) rfl <|
pw_goto (tgt := 15) (pc := 83) dX2_goneBy_83 (by decide) <|
hn6 v8 x10 m9) (fun k11 hk12 => pw_ifz_ne (tgt := 80) (pc := 34) dX2_goneBy_34 (by decide) (fun h22 => hk12 v2 m4) (fun h23 => pw_aload_n (pc := 37) dX2_goneBy_37 2 rfl <|
pw_getR (o := 51) (k := 1) (t := 13) (pw_sh_51) cfX2 rfl (by decide) flX2_19 (pc := 38) dX2_goneBy_38 <|
pw_aload_n (pc := 41) dX2_goneBy_41 2 rfl <|
pw_getR (o := 51) (k := 0) (t := 1) (pw_sh_51) cfX2 rfl (by decide) flX2_15 (pc := 42) dX2_goneBy_42 <|
pw_getI (o := 1) (k := 13) (pw_shTown pw_t1) cfX7 rfl (by decide) flX2_44 (pc := 45) dX2_goneBy_45 <|
pw_iconst (v := 1) (pc := 48) dX2_goneBy_48 (by decide) <|
pw_iload_n (pc := 49) dX2_goneBy_49 0 rfl <|
pw_ishl (pc := 50) dX2_goneBy_50 <|
pw_ior (pc := 51) dX2_goneBy_51 <|
pw_putI (o := 13) (k := 13) (pw_shTown pw_t13) cfX7 rfl (by decide) flX2_44 rfl (ft := .int) rfl rfl rfl (pc := 52) dX2_goneBy_52 <|
pw_ltM fun m13 => pw_aload_n (pc := 55) dX2_goneBy_55 2 rfl <|
pw_getR (o := 51) (k := 1) (t := 13) (pw_sh_51) cfX2 rfl (by decide) flX2_19 (pc := 56) dX2_goneBy_56 <|
pw_callV_wv (n := 0) (rest := []) (tX7_weighLeans K.2.1 G pw_t13 m13) (pw_shTown pw_t13) cfX7 rfl miX7_weighLeans mlX2_67 (pc := 59) dX2_goneBy_59 rfl rfl (by decide) (Nat.le_of_ble_eq_true rfl) fun m14 =>
pw_iload_n (pc := 62) dX2_goneBy_62 1 rfl <|
pw_aload_n (pc := 63) dX2_goneBy_63 2 rfl <|
pw_aload_n (pc := 64) dX2_goneBy_64 3 rfl <|
pw_callV_rz (n := 1) (rest := [.int v2]) (tX2_leansAs K.2.1 G ho1 m14) (pw_sh_51) cfX2 rfl miX2_leansAs mlX2_70 (pc := 65) dX2_goneBy_65 rfl rfl (by decide) (Nat.le_of_ble_eq_true rfl) fun y15 =>
pw_jn (fun (k18 : Int32 → Option (Int32 × pw_Mem)) => ∀ (w16 : Int32), PW K G RX2 cX2_goneBy 4 (some .int) 4 (pw_MQ K G pw_Wi) (k18 w16) 78 [(3, .int v3), (0, .ref (pw_ad G 51)), (1, .ref (pw_ad G o1))] [.int w16, .int v2] m14) (fun w16 => pw_ior (pc := 78) dX2_goneBy_78 <|
pw_ltI fun x17 => pw_istore_n [(2, .int x17), (3, .int v3), (0, .ref (pw_ad G 51)), (1, .ref (pw_ad G o1))] (pc := 79) dX2_goneBy_79 (by decide) rfl <|
pw_sub [1, 0, 2, 3] rfl <| hk12 x17 m14) (fun k18 hk19 => pw_ifz_eq (tgt := 77) (pc := 68) dX2_goneBy_68 (by decide) (fun h20 => pw_iconst (v := 1) (pc := 71) dX2_goneBy_71 (by decide) <|
pw_iload_n (pc := 72) dX2_goneBy_72 0 rfl <|
pw_ishl (pc := 73) dX2_goneBy_73 <|
pw_goto (tgt := 78) (pc := 74) dX2_goneBy_74 (by decide) <|
pw_sub [0, 2, 3] rfl <| hk19 ((1 : Int32) <<< (v3 &&& 31))) (fun h21 => pw_iconst (v := 0) (pc := 77) dX2_goneBy_77 (by decide) <|
pw_sub [0, 2, 3] rfl <| hk19 (0 : Int32))))))) FU (0 : Int32) (0 : Int32) m1)
set_option maxHeartbeats 4000000 in
theorem tX2_pullsAs (l : Launch) (G : pw_G) {o1 : Nat} (ho1 : pw_isShelf o1) (a2 : Int32) (a3 : Int32) (m0 : pw_Mem) : PMet l G yX2_pullsAs cX2_pullsAs 4 (some .boolean) 3 [.ref (pw_ad G o1), .int a2, .int a3] m0 (pw_Rz m0) (fX2_pullsAs o1 a2 a3 m0) :=
  pw_met (own := RX2) (l0 := [(0, .ref (pw_ad G o1)), (1, .int a2), (2, .int a3)]) rfl (by decide) rfl (Nat.le_of_ble_eq_true rfl) fun K hK hH => by
  delta fX2_pullsAs
  exact (pw_iconst (v := 0) (pc := 0) dX2_pullsAs_0 (by decide) <|
pw_istore_n [(3, .int (0 : Int32)), (0, .ref (pw_ad G o1)), (1, .int a2), (2, .int a3)] (pc := 1) dX2_pullsAs_1 (by decide) rfl <|
pw_lp (fun (kk16 : Int32 → Option Bool) => ∀ (v1 : Int32), PW K G RX2 cX2_pullsAs 4 (some .boolean) 3 (pw_MQ K G (pw_Rz m0)) (kk16 v1) 2 [(3, .int v1), (0, .ref (pw_ad G o1)), (1, .int a2), (2, .int a3)] [] m0) (fun _ => pw_none) (fun nx2 hn3 v1 => pw_iload_n (pc := 2) dX2_pullsAs_2 0 rfl <|
pw_aload_n (pc := 3) dX2_pullsAs_3 1 rfl <|
pw_getI (o := o1) (k := 5) (pw_shShelf ho1) cfX5 rfl (by decide) flX2_74 (pc := 4) dX2_pullsAs_4 <|
pw_icmp_ge  (tgt := 40) (pc := 7) dX2_pullsAs_7 (by decide) (fun h14 => pw_iconst (v := 1) (pc := 40) dX2_pullsAs_40 (by decide) <|
pw_zret (b := true) hH rfl (pc := 41) dX2_pullsAs_41) (fun h15 => pw_aload_n (pc := 10) dX2_pullsAs_10 1 rfl <|
pw_iload_n (pc := 11) dX2_pullsAs_11 0 rfl <|
pw_callV_rz (n := 1) (rest := []) (tX5_isSkipped K.2.1 G ho1 v1 m0) (pw_shShelf ho1) cfX5 rfl miX5_isSkipped mlX2_82 (pc := 12) dX2_pullsAs_12 rfl rfl (by decide) (Nat.le_of_ble_eq_true rfl) fun y4 =>
pw_jn (fun (k6 : Option Bool) => PW K G RX2 cX2_pullsAs 4 (some .boolean) 3 (pw_MQ K G (pw_Rz m0)) k6 34 [(3, .int v1), (0, .ref (pw_ad G o1)), (1, .int a2), (2, .int a3)] [] m0) (pw_ltA fun x5 hxx5 => pw_iinc (v := x5) [(3, .int x5), (0, .ref (pw_ad G o1)), (1, .int a2), (2, .int a3)] (pc := 34) dX2_pullsAs_34 0 rfl (by rw [hxx5]; rfl) (by decide) rfl <|
pw_goto (tgt := 2) (pc := 37) dX2_pullsAs_37 (by decide) <|
hn3 x5) (fun k6 hk7 => pw_ifz_ne (tgt := 34) (pc := 15) dX2_pullsAs_15 (by decide) (fun h12 => hk7) (fun h13 => pw_aload_n (pc := 18) dX2_pullsAs_18 1 rfl <|
pw_iload_n (pc := 19) dX2_pullsAs_19 0 rfl <|
pw_callV_ri (n := 1) (rest := []) (tX5_at K.2.1 G ho1 v1 m0) (pw_shShelf ho1) cfX5 rfl miX5_at mlX2_85 (pc := 20) dX2_pullsAs_20 rfl rfl (by decide) (Nat.le_of_ble_eq_true rfl) fun y8 =>
pw_iload_n (pc := 23) dX2_pullsAs_23 2 rfl <|
pw_iload_n (pc := 24) dX2_pullsAs_24 3 rfl <|
pw_iload_n (pc := 25) dX2_pullsAs_25 0 rfl <|
pw_callS_ri (n := 3) (rest := [.int y8]) (tX3_pull K.2.1 G a2 a3 v1 m0) miX3_pull mlX2_97 (pc := 26) dX2_pullsAs_26 rfl rfl (by decide) (Nat.le_of_ble_eq_true rfl) fun y9 =>
pw_icmp_eq  (tgt := 34) (pc := 29) dX2_pullsAs_29 (by decide) (fun h10 => hk7) (fun h11 => pw_iconst (v := 0) (pc := 32) dX2_pullsAs_32 (by decide) <|
pw_zret (b := false) hH rfl (pc := 33) dX2_pullsAs_33))))) FU (0 : Int32))
set_option maxHeartbeats 4000000 in
theorem tX2_kindsPullingAs (l : Launch) (G : pw_G) {o1 : Nat} (ho1 : pw_isShelf o1) (a2 : Int32) (m0 : pw_Mem) : PMet l G yX2_kindsPullingAs cX2_kindsPullingAs 5 (some .int) 4 [.ref (pw_ad G 51), .ref (pw_ad G o1), .int a2] m0 (pw_Ri m0) (fX2_kindsPullingAs o1 a2 m0) :=
  pw_met (own := RX2) (l0 := [(0, .ref (pw_ad G 51)), (1, .ref (pw_ad G o1)), (2, .int a2)]) rfl (by decide) rfl (Nat.le_of_ble_eq_true rfl) fun K hK hH => by
  delta fX2_kindsPullingAs
  exact (pw_iconst (v := 0) (pc := 0) dX2_kindsPullingAs_0 (by decide) <|
pw_istore_n [(3, .int (0 : Int32)), (0, .ref (pw_ad G 51)), (1, .ref (pw_ad G o1)), (2, .int a2)] (pc := 1) dX2_kindsPullingAs_1 (by decide) rfl <|
pw_iconst (v := 0) (pc := 2) dX2_kindsPullingAs_2 (by decide) <|
pw_istore [(4, .int (0 : Int32)), (3, .int (0 : Int32)), (0, .ref (pw_ad G 51)), (1, .ref (pw_ad G o1)), (2, .int a2)] (pc := 3) dX2_kindsPullingAs_3 (by decide) rfl <|
pw_sub [0, 1, 3, 4] rfl <| pw_lp (fun (kk15 : Int32 → Int32 → Option Int32) => ∀ (v1 : Int32) (v2 : Int32), PW K G RX2 cX2_kindsPullingAs 5 (some .int) 4 (pw_MQ K G (pw_Ri m0)) (kk15 v1 v2) 5 [(4, .int v2), (3, .int v1), (1, .ref (pw_ad G o1)), (2, .int a2)] [] m0) (fun _ _ => pw_none) (fun nx3 hn4 v1 v2 => pw_iload (pc := 5) dX2_kindsPullingAs_5 0 rfl <|
pw_bipush (v := 7) (pc := 7) dX2_kindsPullingAs_7 (by decide) <|
pw_icmp_gt  (tgt := 39) (pc := 9) dX2_kindsPullingAs_9 (by decide) (fun h13 => pw_iload_n (pc := 39) dX2_kindsPullingAs_39 1 rfl <|
pw_iret (a := v1) (v := v1) hH rfl (pc := 40) dX2_kindsPullingAs_40) (fun h14 => pw_iload_n (pc := 12) dX2_kindsPullingAs_12 1 rfl <|
pw_aload_n (pc := 13) dX2_kindsPullingAs_13 2 rfl <|
pw_iload (pc := 14) dX2_kindsPullingAs_14 0 rfl <|
pw_iload_n (pc := 16) dX2_kindsPullingAs_16 3 rfl <|
pw_callS_rz (n := 3) (rest := [.int v1]) (tX2_pullsAs K.2.1 G ho1 v2 a2 m0) miX2_pullsAs mlX2_93 (pc := 17) dX2_kindsPullingAs_17 rfl rfl (by decide) (Nat.le_of_ble_eq_true rfl) fun y5 =>
pw_jn (fun (k9 : Int32 → Option Int32) => ∀ (w6 : Int32), PW K G RX2 cX2_kindsPullingAs 5 (some .int) 4 (pw_MQ K G (pw_Ri m0)) (k9 w6) 31 [(4, .int v2), (1, .ref (pw_ad G o1)), (2, .int a2)] [.int w6, .int v1] m0) (fun w6 => pw_ior (pc := 31) dX2_kindsPullingAs_31 <|
pw_ltI fun x7 => pw_istore_n [(3, .int x7), (4, .int v2), (1, .ref (pw_ad G o1)), (2, .int a2)] (pc := 32) dX2_kindsPullingAs_32 (by decide) rfl <|
pw_ltA fun x8 hxx8 => pw_iinc (v := x8) [(4, .int x8), (3, .int x7), (1, .ref (pw_ad G o1)), (2, .int a2)] (pc := 33) dX2_kindsPullingAs_33 1 rfl (by rw [hxx8]; rfl) (by decide) rfl <|
pw_goto (tgt := 5) (pc := 36) dX2_kindsPullingAs_36 (by decide) <|
hn4 x7 x8) (fun k9 hk10 => pw_ifz_eq (tgt := 30) (pc := 20) dX2_kindsPullingAs_20 (by decide) (fun h11 => pw_iconst (v := 1) (pc := 23) dX2_kindsPullingAs_23 (by decide) <|
pw_iload (pc := 24) dX2_kindsPullingAs_24 0 rfl <|
pw_ishl (pc := 26) dX2_kindsPullingAs_26 <|
pw_goto (tgt := 31) (pc := 27) dX2_kindsPullingAs_27 (by decide) <|
pw_sub [0, 2, 3] rfl <| hk10 ((1 : Int32) <<< (v2 &&& 31))) (fun h12 => pw_iconst (v := 0) (pc := 30) dX2_kindsPullingAs_30 (by decide) <|
pw_sub [0, 2, 3] rfl <| hk10 (0 : Int32))))) FU (0 : Int32) (0 : Int32))
set_option maxHeartbeats 4000000 in
theorem tX2_pullOfBoth (l : Launch) (G : pw_G) (a1 : Int32) (a2 : Int32) (a3 : Int32) (m0 : pw_Mem) : PMet l G yX2_pullOfBoth cX2_pullOfBoth 6 (some .int) 3 [.ref (pw_ad G 51), .int a1, .int a2, .int a3] m0 (pw_Ri m0) (fX2_pullOfBoth a1 a2 a3 m0) :=
  pw_met (own := RX2) (l0 := [(0, .ref (pw_ad G 51)), (1, .int a1), (2, .int a2), (3, .int a3)]) rfl (by decide) rfl (Nat.le_of_ble_eq_true rfl) fun K hK hH => by
  delta fX2_pullOfBoth
  exact (pw_iconst (v := 0) (pc := 0) dX2_pullOfBoth_0 (by decide) <|
pw_istore [(4, .int (0 : Int32)), (0, .ref (pw_ad G 51)), (1, .int a1), (2, .int a2), (3, .int a3)] (pc := 1) dX2_pullOfBoth_1 (by decide) rfl <|
pw_iconst (v := 0) (pc := 3) dX2_pullOfBoth_3 (by decide) <|
pw_istore [(5, .int (0 : Int32)), (4, .int (0 : Int32)), (0, .ref (pw_ad G 51)), (1, .int a1), (2, .int a2), (3, .int a3)] (pc := 4) dX2_pullOfBoth_4 (by decide) rfl <|
pw_lp (fun (kk19 : Int32 → Int32 → Option Int32) => ∀ (v1 : Int32) (v2 : Int32), PW K G RX2 cX2_pullOfBoth 6 (some .int) 3 (pw_MQ K G (pw_Ri m0)) (kk19 v1 v2) 6 [(5, .int v2), (4, .int v1), (0, .ref (pw_ad G 51)), (1, .int a1), (2, .int a2), (3, .int a3)] [] m0) (fun _ _ => pw_none) (fun nx3 hn4 v1 v2 => pw_iload (pc := 6) dX2_pullOfBoth_6 0 rfl <|
pw_aload_n (pc := 8) dX2_pullOfBoth_8 2 rfl <|
pw_getR (o := 51) (k := 0) (t := 1) (pw_sh_51) cfX2 rfl (by decide) flX2_15 (pc := 9) dX2_pullOfBoth_9 <|
pw_getI (o := 1) (k := 12) (pw_shTown pw_t1) cfX7 rfl (by decide) flX2_22 (pc := 12) dX2_pullOfBoth_12 <|
pw_icmp_ge  (tgt := 79) (pc := 15) dX2_pullOfBoth_15 (by decide) (fun h17 => pw_iload (pc := 79) dX2_pullOfBoth_79 1 rfl <|
pw_iret (a := v1) (v := v1) hH rfl (pc := 81) dX2_pullOfBoth_81) (fun h18 => pw_aload_n (pc := 18) dX2_pullOfBoth_18 2 rfl <|
pw_getR (o := 51) (k := 0) (t := 1) (pw_sh_51) cfX2 rfl (by decide) flX2_15 (pc := 19) dX2_pullOfBoth_19 <|
pw_iload (pc := 22) dX2_pullOfBoth_22 0 rfl <|
pw_callV_rz (n := 1) (rest := []) (tX7_isSnapped K.2.1 G pw_t1 v2 m0) (pw_shTown pw_t1) cfX7 rfl miX7_isSnapped mlX2_50 (pc := 24) dX2_pullOfBoth_24 rfl rfl (by decide) (Nat.le_of_ble_eq_true rfl) fun y5 =>
pw_jn (fun (k8 : Int32 → Option Int32) => ∀ (v6 : Int32), PW K G RX2 cX2_pullOfBoth 6 (some .int) 3 (pw_MQ K G (pw_Ri m0)) (k8 v6) 73 [(5, .int v2), (4, .int v6), (0, .ref (pw_ad G 51)), (1, .int a1), (2, .int a2), (3, .int a3)] [] m0) (fun v6 => pw_ltA fun x7 hxx7 => pw_iinc (v := x7) [(5, .int x7), (4, .int v6), (0, .ref (pw_ad G 51)), (1, .int a1), (2, .int a2), (3, .int a3)] (pc := 73) dX2_pullOfBoth_73 0 rfl (by rw [hxx7]; rfl) (by decide) rfl <|
pw_goto (tgt := 6) (pc := 76) dX2_pullOfBoth_76 (by decide) <|
hn4 v6 x7) (fun k8 hk9 => pw_ifz_ne (tgt := 73) (pc := 27) dX2_pullOfBoth_27 (by decide) (fun h15 => hk9 v1) (fun h16 => pw_aload_n (pc := 30) dX2_pullOfBoth_30 2 rfl <|
pw_getR (o := 51) (k := 0) (t := 1) (pw_sh_51) cfX2 rfl (by decide) flX2_15 (pc := 31) dX2_pullOfBoth_31 <|
pw_iload (pc := 34) dX2_pullOfBoth_34 0 rfl <|
pw_iload_n (pc := 36) dX2_pullOfBoth_36 3 rfl <|
pw_iload_n (pc := 37) dX2_pullOfBoth_37 4 rfl <|
pw_callV_rz (n := 3) (rest := []) (tX7_isRound K.2.1 G pw_t1 v2 a1 a2 m0) (pw_shTown pw_t1) cfX7 rfl miX7_isRound mlX2_125 (pc := 38) dX2_pullOfBoth_38 rfl rfl (by decide) (Nat.le_of_ble_eq_true rfl) fun y10 =>
pw_ifz_eq (tgt := 73) (pc := 41) dX2_pullOfBoth_41 (by decide) (fun h13 => pw_iload (pc := 44) dX2_pullOfBoth_44 1 rfl <|
pw_aload_n (pc := 46) dX2_pullOfBoth_46 2 rfl <|
pw_getR (o := 51) (k := 0) (t := 1) (pw_sh_51) cfX2 rfl (by decide) flX2_15 (pc := 47) dX2_pullOfBoth_47 <|
pw_getR (o := 1) (k := 3) (t := (1 + 4)) (pw_shTown pw_t1) cfX7 rfl (by decide) flX2_129 (pc := 50) dX2_pullOfBoth_50 <|
pw_iload (pc := 53) dX2_pullOfBoth_53 0 rfl <|
pw_iald (pw_shTown3 pw_t1) (pc := 55) dX2_pullOfBoth_55 <|
pw_aload_n (pc := 56) dX2_pullOfBoth_56 2 rfl <|
pw_getR (o := 51) (k := 0) (t := 1) (pw_sh_51) cfX2 rfl (by decide) flX2_15 (pc := 57) dX2_pullOfBoth_57 <|
pw_getR (o := 1) (k := 4) (t := (1 + 5)) (pw_shTown pw_t1) cfX7 rfl (by decide) flX2_132 (pc := 60) dX2_pullOfBoth_60 <|
pw_iload (pc := 63) dX2_pullOfBoth_63 0 rfl <|
pw_iald (pw_shTown4 pw_t1) (pc := 65) dX2_pullOfBoth_65 <|
pw_iload_n (pc := 66) dX2_pullOfBoth_66 5 rfl <|
pw_callS_ri (n := 3) (rest := [.int v1]) (tX3_pull K.2.1 G (m0 (1 + 4) (v2).toNatClampNeg) (m0 (1 + 5) (v2).toNatClampNeg) a3 m0) miX3_pull mlX2_97 (pc := 67) dX2_pullOfBoth_67 rfl rfl (by decide) (Nat.le_of_ble_eq_true rfl) fun y11 =>
pw_iadd (pc := 70) dX2_pullOfBoth_70 <|
pw_ltI fun x12 => pw_istore [(4, .int x12), (5, .int v2), (0, .ref (pw_ad G 51)), (1, .int a1), (2, .int a2), (3, .int a3)] (pc := 71) dX2_pullOfBoth_71 (by decide) rfl <|
pw_sub [1, 0, 2, 3, 4, 5] rfl <| hk9 x12) (fun h14 => hk9 v1))))) FU (0 : Int32) (0 : Int32))
set_option maxHeartbeats 4000000 in
theorem tX2_stepsAway (l : Launch) (G : pw_G) (a1 : Int32) (a2 : Int32) (a3 : Int32) (m0 : pw_Mem) : PMet l G yX2_stepsAway cX2_stepsAway 5 (some .int) 1 [.ref (pw_ad G 51), .int a1, .int a2, .int a3] m0 (pw_Ri m0) (fX2_stepsAway a1 a2 a3 m0) :=
  pw_met (own := RX2) (l0 := [(0, .ref (pw_ad G 51)), (1, .int a1), (2, .int a2), (3, .int a3)]) rfl (by decide) rfl (Nat.le_of_ble_eq_true rfl) fun K hK hH => by
  delta fX2_stepsAway
  exact (pw_aload_n (pc := 0) dX2_stepsAway_0 0 rfl <|
pw_getR (o := 51) (k := 0) (t := 1) (pw_sh_51) cfX2 rfl (by decide) flX2_15 (pc := 1) dX2_stepsAway_1 <|
pw_getR (o := 1) (k := 0) (t := (1 + 1)) (pw_shTown pw_t1) cfX7 rfl (by decide) flX2_118 (pc := 4) dX2_stepsAway_4 <|
pw_iload_n (pc := 7) dX2_stepsAway_7 1 rfl <|
pw_iald (pw_shTown0 pw_t1) (pc := 8) dX2_stepsAway_8 <|
pw_aload_n (pc := 9) dX2_stepsAway_9 0 rfl <|
pw_getR (o := 51) (k := 0) (t := 1) (pw_sh_51) cfX2 rfl (by decide) flX2_15 (pc := 10) dX2_stepsAway_10 <|
pw_getR (o := 1) (k := 0) (t := (1 + 1)) (pw_shTown pw_t1) cfX7 rfl (by decide) flX2_118 (pc := 13) dX2_stepsAway_13 <|
pw_iload_n (pc := 16) dX2_stepsAway_16 2 rfl <|
pw_iald (pw_shTown0 pw_t1) (pc := 17) dX2_stepsAway_17 <|
pw_jn (fun (k5 : Int32 → Option Int32) => ∀ (w1 : Int32), PW K G RX2 cX2_stepsAway 5 (some .int) 1 (pw_MQ K G (pw_Ri m0)) (k5 w1) 46 [(3, .int a3)] [.int w1] m0) (fun w1 => pw_istore [(4, .int w1), (3, .int a3)] (pc := 46) dX2_stepsAway_46 (by decide) rfl <|
pw_iload (pc := 48) dX2_stepsAway_48 0 rfl <|
pw_bipush (v := 30) (pc := 50) dX2_stepsAway_50 (by decide) <|
pw_callN_rz (n := 2) (rest := []) (tX10_isUpTo K.2.1 G w1 (30 : Int32) m0) miX10_isUpTo mlX2_121 (pc := 52) dX2_stepsAway_52 rfl rfl (by decide) (Nat.le_of_ble_eq_true rfl) fun y2 =>
pw_ifz_eq (tgt := 62) (pc := 55) dX2_stepsAway_55 (by decide) (fun h3 => pw_iload_n (pc := 58) dX2_stepsAway_58 1 rfl <|
pw_goto (tgt := 63) (pc := 59) dX2_stepsAway_59 (by decide) <|
pw_iret (a := a3) (v := a3) hH rfl (pc := 63) dX2_stepsAway_63) (fun h4 => pw_iconst (v := 0) (pc := 62) dX2_stepsAway_62 (by decide) <|
pw_iret (a := (0 : Int32)) (v := (0 : Int32)) hH rfl (pc := 63) dX2_stepsAway_63)) (fun k5 hk6 => pw_icmp_ge  (tgt := 35) (pc := 18) dX2_stepsAway_18 (by decide) (fun h7 => pw_aload_n (pc := 35) dX2_stepsAway_35 0 rfl <|
pw_getR (o := 51) (k := 0) (t := 1) (pw_sh_51) cfX2 rfl (by decide) flX2_15 (pc := 36) dX2_stepsAway_36 <|
pw_getR (o := 1) (k := 0) (t := (1 + 1)) (pw_shTown pw_t1) cfX7 rfl (by decide) flX2_118 (pc := 39) dX2_stepsAway_39 <|
pw_iload_n (pc := 42) dX2_stepsAway_42 1 rfl <|
pw_iald (pw_shTown0 pw_t1) (pc := 43) dX2_stepsAway_43 <|
pw_iconst (v := 1) (pc := 44) dX2_stepsAway_44 (by decide) <|
pw_iadd (pc := 45) dX2_stepsAway_45 <|
pw_sub [3] rfl <| hk6 ((m0 (1 + 1) (a1).toNatClampNeg) + (1 : Int32))) (fun h8 => pw_aload_n (pc := 21) dX2_stepsAway_21 0 rfl <|
pw_getR (o := 51) (k := 0) (t := 1) (pw_sh_51) cfX2 rfl (by decide) flX2_15 (pc := 22) dX2_stepsAway_22 <|
pw_getR (o := 1) (k := 0) (t := (1 + 1)) (pw_shTown pw_t1) cfX7 rfl (by decide) flX2_118 (pc := 25) dX2_stepsAway_25 <|
pw_iload_n (pc := 28) dX2_stepsAway_28 1 rfl <|
pw_iald (pw_shTown0 pw_t1) (pc := 29) dX2_stepsAway_29 <|
pw_iconst (v := 1) (pc := 30) dX2_stepsAway_30 (by decide) <|
pw_isub (pc := 31) dX2_stepsAway_31 <|
pw_goto (tgt := 46) (pc := 32) dX2_stepsAway_32 (by decide) <|
pw_sub [3] rfl <| hk6 ((m0 (1 + 1) (a1).toNatClampNeg) - (1 : Int32)))))
set_option maxHeartbeats 4000000 in
theorem tX2_has (l : Launch) (G : pw_G) (a1 : Int32) (a2 : Int32) (a3 : Int32) (a4 : Int32) (m0 : pw_Mem) : PMet l G yX2_has cX2_has 6 (some .int) 4 [.ref (pw_ad G 51), .int a1, .int a2, .int a3, .int a4] m0 (pw_Ri m0) (fX2_has a1 a2 a3 a4 m0) :=
  pw_met (own := RX2) (l0 := [(0, .ref (pw_ad G 51)), (1, .int a1), (2, .int a2), (3, .int a3), (4, .int a4)]) rfl (by decide) rfl (Nat.le_of_ble_eq_true rfl) fun K hK hH => by
  delta fX2_has
  exact (pw_aload_n (pc := 0) dX2_has_0 0 rfl <|
pw_iload_n (pc := 1) dX2_has_1 1 rfl <|
pw_iload_n (pc := 2) dX2_has_2 2 rfl <|
pw_iload_n (pc := 3) dX2_has_3 3 rfl <|
pw_callV_ri (n := 3) (rest := []) (tX2_stepsAway K.2.1 G a1 a2 a3 m0) (pw_sh_51) cfX2 rfl miX2_stepsAway mlX2_108 (pc := 4) dX2_has_4 rfl rfl (by decide) (Nat.le_of_ble_eq_true rfl) fun y1 =>
pw_istore [(5, .int y1), (0, .ref (pw_ad G 51)), (1, .int a1), (2, .int a2), (3, .int a3), (4, .int a4)] (pc := 7) dX2_has_7 (by decide) rfl <|
pw_iconst (v := 3) (pc := 9) dX2_has_9 (by decide) <|
pw_iload (pc := 10) dX2_has_10 0 rfl <|
pw_imul (pc := 12) dX2_has_12 <|
pw_aload_n (pc := 13) dX2_has_13 1 rfl <|
pw_iload_n (pc := 14) dX2_has_14 2 rfl <|
pw_iload_n (pc := 15) dX2_has_15 3 rfl <|
pw_aload_n (pc := 16) dX2_has_16 1 rfl <|
pw_getR (o := 51) (k := 0) (t := 1) (pw_sh_51) cfX2 rfl (by decide) flX2_15 (pc := 17) dX2_has_17 <|
pw_iload_n (pc := 20) dX2_has_20 2 rfl <|
pw_iload_n (pc := 21) dX2_has_21 3 rfl <|
pw_callV_ri (n := 2) (rest := [.int a2, .int a1, .ref (pw_ad G 51), .int ((3 : Int32) * y1)]) (tX7_apart K.2.1 G pw_t1 a1 a2 m0) (pw_shTown pw_t1) cfX7 rfl miX7_apart mlX2_111 (pc := 22) dX2_has_22 rfl rfl (by decide) (Nat.le_of_ble_eq_true rfl) fun y2 =>
pw_iload (pc := 25) dX2_has_25 0 rfl <|
pw_iadd (pc := 27) dX2_has_27 <|
pw_aload_n (pc := 28) dX2_has_28 1 rfl <|
pw_iload_n (pc := 29) dX2_has_29 3 rfl <|
pw_iload_n (pc := 30) dX2_has_30 2 rfl <|
pw_iload (pc := 31) dX2_has_31 5 rfl <|
pw_callV_ri (n := 3) (rest := [.int (y2 + y1), .int a2, .int a1, .ref (pw_ad G 51), .int ((3 : Int32) * y1)]) (tX2_stepsAway K.2.1 G a2 a1 a4 m0) (pw_sh_51) cfX2 rfl miX2_stepsAway mlX2_108 (pc := 33) dX2_has_33 rfl rfl (by decide) (Nat.le_of_ble_eq_true rfl) fun y3 =>
pw_iadd (pc := 36) dX2_has_36 <|
pw_callV_ri (n := 3) (rest := [.int ((3 : Int32) * y1)]) (tX2_pullOfBoth K.2.1 G a1 a2 ((y2 + y1) + y3) m0) (pw_sh_51) cfX2 rfl miX2_pullOfBoth mlX2_115 (pc := 37) dX2_has_37 rfl rfl (by decide) (Nat.le_of_ble_eq_true rfl) fun y4 =>
pw_isub (pc := 40) dX2_has_40 <|
pw_iret (a := (((3 : Int32) * y1) - y4)) (v := (((3 : Int32) * y1) - y4)) hH rfl (pc := 41) dX2_has_41)
set_option maxHeartbeats 4000000 in
theorem tX2_hasMost (l : Launch) (G : pw_G) (a1 : Int32) (a2 : Int32) (a3 : Int32) (a4 : Int32) (m0 : pw_Mem) : PMet l G yX2_hasMost cX2_hasMost 5 (some .boolean) 5 [.ref (pw_ad G 51), .int a1, .int a2, .int a3, .int a4] m0 (pw_Rz m0) (fX2_hasMost a1 a2 a3 a4 m0) :=
  pw_met (own := RX2) (l0 := [(0, .ref (pw_ad G 51)), (1, .int a1), (2, .int a2), (3, .int a3), (4, .int a4)]) rfl (by decide) rfl (Nat.le_of_ble_eq_true rfl) fun K hK hH => by
  delta fX2_hasMost
  exact (pw_aload_n (pc := 0) dX2_hasMost_0 0 rfl <|
pw_iload_n (pc := 1) dX2_hasMost_1 1 rfl <|
pw_iload_n (pc := 2) dX2_hasMost_2 2 rfl <|
pw_iload_n (pc := 3) dX2_hasMost_3 3 rfl <|
pw_iload (pc := 4) dX2_hasMost_4 4 rfl <|
pw_callV_ri (n := 4) (rest := []) (tX2_has K.2.1 G a1 a2 a3 a4 m0) (pw_sh_51) cfX2 rfl miX2_has mlX2_104 (pc := 6) dX2_hasMost_6 rfl rfl (by decide) (Nat.le_of_ble_eq_true rfl) fun y1 =>
pw_aload_n (pc := 9) dX2_hasMost_9 0 rfl <|
pw_iload_n (pc := 10) dX2_hasMost_10 1 rfl <|
pw_iload_n (pc := 11) dX2_hasMost_11 2 rfl <|
pw_iconst (v := 1) (pc := 12) dX2_hasMost_12 (by decide) <|
pw_iload_n (pc := 13) dX2_hasMost_13 3 rfl <|
pw_isub (pc := 14) dX2_hasMost_14 <|
pw_iload (pc := 15) dX2_hasMost_15 4 rfl <|
pw_callV_ri (n := 4) (rest := [.int y1]) (tX2_has K.2.1 G a1 a2 ((1 : Int32) - a3) a4 m0) (pw_sh_51) cfX2 rfl miX2_has mlX2_104 (pc := 17) dX2_hasMost_17 rfl rfl (by decide) (Nat.le_of_ble_eq_true rfl) fun y2 =>
pw_icmp_lt  (tgt := 27) (pc := 20) dX2_hasMost_20 (by decide) (fun h3 => pw_iconst (v := 0) (pc := 27) dX2_hasMost_27 (by decide) <|
pw_zret (b := false) hH rfl (pc := 28) dX2_hasMost_28) (fun h4 => pw_iconst (v := 1) (pc := 23) dX2_hasMost_23 (by decide) <|
pw_goto (tgt := 28) (pc := 24) dX2_hasMost_24 (by decide) <|
pw_zret (b := true) hH rfl (pc := 28) dX2_hasMost_28))
set_option maxHeartbeats 4000000 in
theorem tX2_restingChoices (l : Launch) (G : pw_G) (a1 : Int32) (a2 : Int32) (m0 : pw_Mem) : PMet l G yX2_restingChoices cX2_restingChoices 6 (some .int) 6 [.ref (pw_ad G 51), .int a1, .int a2] m0 (pw_Ri m0) (fX2_restingChoices a1 a2 m0) :=
  pw_met (own := RX2) (l0 := [(0, .ref (pw_ad G 51)), (1, .int a1), (2, .int a2)]) rfl (by decide) rfl (Nat.le_of_ble_eq_true rfl) fun K hK hH => by
  delta fX2_restingChoices
  exact (pw_iconst (v := 0) (pc := 0) dX2_restingChoices_0 (by decide) <|
pw_istore_n [(3, .int (0 : Int32)), (0, .ref (pw_ad G 51)), (1, .int a1), (2, .int a2)] (pc := 1) dX2_restingChoices_1 (by decide) rfl <|
pw_lp (fun (kk17 : Int32 → Option Int32) => ∀ (v1 : Int32), PW K G RX2 cX2_restingChoices 6 (some .int) 6 (pw_MQ K G (pw_Ri m0)) (kk17 v1) 2 [(3, .int v1), (0, .ref (pw_ad G 51)), (1, .int a1), (2, .int a2)] [] m0) (fun _ => pw_none) (fun nx2 hn3 v1 => pw_iload_n (pc := 2) dX2_restingChoices_2 0 rfl <|
pw_iconst (v := 4) (pc := 3) dX2_restingChoices_3 (by decide) <|
pw_icmp_ge  (tgt := 58) (pc := 4) dX2_restingChoices_4 (by decide) (fun h15 => pw_bipush (v := -4) (pc := 58) dX2_restingChoices_58 (by decide) <|
pw_iret (a := (-4 : Int32)) (v := (-4 : Int32)) hH rfl (pc := 60) dX2_restingChoices_60) (fun h16 => pw_iload_n (pc := 7) dX2_restingChoices_7 0 rfl <|
pw_iconst (v := 2) (pc := 8) dX2_restingChoices_8 (by decide) <|
pw_idiv (pc := 9) dX2_restingChoices_9 (by decide) <|
pw_ltI fun x4 => pw_istore [(4, .int x4), (3, .int v1), (0, .ref (pw_ad G 51)), (1, .int a1), (2, .int a2)] (pc := 10) dX2_restingChoices_10 (by decide) rfl <|
pw_iload_n (pc := 12) dX2_restingChoices_12 1 rfl <|
pw_iconst (v := 2) (pc := 13) dX2_restingChoices_13 (by decide) <|
pw_irem (pc := 14) dX2_restingChoices_14 (by decide) <|
pw_ltI fun x5 => pw_istore [(5, .int x5), (4, .int x4), (3, .int v1), (0, .ref (pw_ad G 51)), (1, .int a1), (2, .int a2)] (pc := 15) dX2_restingChoices_15 (by decide) rfl <|
pw_aload_n (pc := 17) dX2_restingChoices_17 3 rfl <|
pw_iload_n (pc := 18) dX2_restingChoices_18 4 rfl <|
pw_iload_n (pc := 19) dX2_restingChoices_19 5 rfl <|
pw_iload (pc := 20) dX2_restingChoices_20 1 rfl <|
pw_iload (pc := 22) dX2_restingChoices_22 0 rfl <|
pw_callV_rz (n := 4) (rest := []) (tX2_hasMost K.2.1 G a1 a2 x4 x5 m0) (pw_sh_51) cfX2 rfl miX2_hasMost mlX2_100 (pc := 24) dX2_restingChoices_24 rfl rfl (by decide) (Nat.le_of_ble_eq_true rfl) fun y6 =>
pw_jn (fun (k8 : Option Int32) => PW K G RX2 cX2_restingChoices 6 (some .int) 6 (pw_MQ K G (pw_Ri m0)) k8 52 [(3, .int v1), (0, .ref (pw_ad G 51)), (1, .int a1), (2, .int a2)] [] m0) (pw_ltA fun x7 hxx7 => pw_iinc (v := x7) [(3, .int x7), (0, .ref (pw_ad G 51)), (1, .int a1), (2, .int a2)] (pc := 52) dX2_restingChoices_52 0 rfl (by rw [hxx7]; rfl) (by decide) rfl <|
pw_goto (tgt := 2) (pc := 55) dX2_restingChoices_55 (by decide) <|
hn3 x7) (fun k8 hk9 => pw_ifz_eq (tgt := 52) (pc := 27) dX2_restingChoices_27 (by decide) (fun h13 => pw_aload_n (pc := 30) dX2_restingChoices_30 3 rfl <|
pw_iload_n (pc := 31) dX2_restingChoices_31 5 rfl <|
pw_iload_n (pc := 32) dX2_restingChoices_32 4 rfl <|
pw_iload (pc := 33) dX2_restingChoices_33 0 rfl <|
pw_iload (pc := 35) dX2_restingChoices_35 1 rfl <|
pw_callV_rz (n := 4) (rest := []) (tX2_hasMost K.2.1 G a2 a1 x5 x4 m0) (pw_sh_51) cfX2 rfl miX2_hasMost mlX2_100 (pc := 37) dX2_restingChoices_37 rfl rfl (by decide) (Nat.le_of_ble_eq_true rfl) fun y10 =>
pw_ifz_eq (tgt := 52) (pc := 40) dX2_restingChoices_40 (by decide) (fun h11 => pw_bipush (v := 10) (pc := 43) dX2_restingChoices_43 (by decide) <|
pw_iload (pc := 45) dX2_restingChoices_45 1 rfl <|
pw_imul (pc := 47) dX2_restingChoices_47 <|
pw_iload (pc := 48) dX2_restingChoices_48 0 rfl <|
pw_iadd (pc := 50) dX2_restingChoices_50 <|
pw_iret (a := (((10 : Int32) * x4) + x5)) (v := (((10 : Int32) * x4) + x5)) hH rfl (pc := 51) dX2_restingChoices_51) (fun h12 => pw_sub [2, 3, 4, 5] rfl <| hk9)) (fun h14 => pw_sub [2, 3, 4, 5] rfl <| hk9)))) FU (0 : Int32))
set_option maxHeartbeats 4000000 in
theorem tX4_endOfTheRoad (l : Launch) (G : pw_G) (a1 : Int32) (a2 : Int32) (m0 : pw_Mem) : PMet l G yX4_endOfTheRoad cX4_endOfTheRoad 6 (some .int) 2 [.ref (pw_ad G 37), .int a1, .int a2] m0 pw_Wi (fX4_endOfTheRoad a1 a2 m0) :=
  pw_met (own := RX4) (l0 := [(0, .ref (pw_ad G 37)), (1, .int a1), (2, .int a2)]) rfl (by decide) rfl (Nat.le_of_ble_eq_true rfl) fun K hK hH => by
  delta fX4_endOfTheRoad
  exact (pw_aload_n (pc := 0) dX4_endOfTheRoad_0 0 rfl <|
pw_getR (o := 37) (k := 1) (t := 13) (pw_sh_37) cfX4 rfl (by decide) flX4_24 (pc := 1) dX4_endOfTheRoad_1 <|
pw_aload_n (pc := 4) dX4_endOfTheRoad_4 0 rfl <|
pw_getR (o := 37) (k := 0) (t := 1) (pw_sh_37) cfX4 rfl (by decide) flX4_20 (pc := 5) dX4_endOfTheRoad_5 <|
pw_callV_wv (n := 1) (rest := []) (tX7_becomes K.2.1 G pw_t13 pw_t1 m0) (pw_shTown pw_t13) cfX7 rfl miX7_becomes mlX4_27 (pc := 8) dX4_endOfTheRoad_8 rfl rfl (by decide) (Nat.le_of_ble_eq_true rfl) fun m1 =>
pw_aload_n (pc := 11) dX4_endOfTheRoad_11 0 rfl <|
pw_getR (o := 37) (k := 0) (t := 1) (pw_sh_37) cfX4 rfl (by decide) flX4_20 (pc := 12) dX4_endOfTheRoad_12 <|
pw_getR (o := 1) (k := 0) (t := (1 + 1)) (pw_shTown pw_t1) cfX7 rfl (by decide) flX4_33 (pc := 15) dX4_endOfTheRoad_15 <|
pw_iload_n (pc := 18) dX4_endOfTheRoad_18 1 rfl <|
pw_iald (pw_shTown0 pw_t1) (pc := 19) dX4_endOfTheRoad_19 <|
pw_ltI fun x2 => pw_istore_n [(3, .int x2), (0, .ref (pw_ad G 37)), (1, .int a1), (2, .int a2)] (pc := 20) dX4_endOfTheRoad_20 (by decide) rfl <|
pw_iconst (v := 1) (pc := 21) dX4_endOfTheRoad_21 (by decide) <|
pw_istore [(4, .int (1 : Int32)), (3, .int x2), (0, .ref (pw_ad G 37)), (1, .int a1), (2, .int a2)] (pc := 22) dX4_endOfTheRoad_22 (by decide) rfl <|
pw_lp (fun (kk19 : Int32 → Int32 → pw_Mem → Option (Int32 × pw_Mem)) => ∀ (v3 : Int32) (v4 : Int32) (m5 : pw_Mem), PW K G RX4 cX4_endOfTheRoad 6 (some .int) 2 (pw_MQ K G pw_Wi) (kk19 v3 v4 m5) 24 [(4, .int v4), (3, .int v3), (0, .ref (pw_ad G 37)), (1, .int a1), (2, .int a2)] [] m5) (fun _ _ _ => pw_none) (fun nx6 hn7 v3 v4 m5 => pw_iload (pc := 24) dX4_endOfTheRoad_24 0 rfl <|
pw_bipush (v := 30) (pc := 26) dX4_endOfTheRoad_26 (by decide) <|
pw_icmp_gt  (tgt := 87) (pc := 28) dX4_endOfTheRoad_28 (by decide) (fun h17 => pw_iload_n (pc := 87) dX4_endOfTheRoad_87 1 rfl <|
pw_iret (a := v3) (v := (v3, m5)) hH rfl (pc := 88) dX4_endOfTheRoad_88) (fun h18 => pw_iload_n (pc := 31) dX4_endOfTheRoad_31 1 rfl <|
pw_iload_n (pc := 32) dX4_endOfTheRoad_32 4 rfl <|
pw_iadd (pc := 33) dX4_endOfTheRoad_33 <|
pw_ltI fun x8 => pw_istore [(5, .int x8), (4, .int v4), (3, .int v3), (0, .ref (pw_ad G 37)), (1, .int a1), (2, .int a2)] (pc := 34) dX4_endOfTheRoad_34 (by decide) rfl <|
pw_iload (pc := 36) dX4_endOfTheRoad_36 0 rfl <|
pw_bipush (v := 30) (pc := 38) dX4_endOfTheRoad_38 (by decide) <|
pw_callN_rz (n := 2) (rest := []) (tX10_isUpTo K.2.1 G x8 (30 : Int32) m5) miX10_isUpTo mlX4_36 (pc := 40) dX4_endOfTheRoad_40 rfl rfl (by decide) (Nat.le_of_ble_eq_true rfl) fun y9 =>
pw_ifz_ne (tgt := 48) (pc := 43) dX4_endOfTheRoad_43 (by decide) (fun h15 => pw_aload_n (pc := 48) dX4_endOfTheRoad_48 3 rfl <|
pw_getR (o := 37) (k := 1) (t := 13) (pw_sh_37) cfX4 rfl (by decide) flX4_24 (pc := 49) dX4_endOfTheRoad_49 <|
pw_getR (o := 13) (k := 0) (t := (13 + 1)) (pw_shTown pw_t13) cfX7 rfl (by decide) flX4_33 (pc := 52) dX4_endOfTheRoad_52 <|
pw_iload_n (pc := 55) dX4_endOfTheRoad_55 4 rfl <|
pw_iload (pc := 56) dX4_endOfTheRoad_56 0 rfl <|
pw_iast (pw_shTown0 pw_t13) (pc := 58) dX4_endOfTheRoad_58 <| pw_ltM fun m10 =>
pw_aload_n (pc := 59) dX4_endOfTheRoad_59 3 rfl <|
pw_getR (o := 37) (k := 1) (t := 13) (pw_sh_37) cfX4 rfl (by decide) flX4_24 (pc := 60) dX4_endOfTheRoad_60 <|
pw_aload_n (pc := 63) dX4_endOfTheRoad_63 3 rfl <|
pw_getR (o := 37) (k := 1) (t := 13) (pw_sh_37) cfX4 rfl (by decide) flX4_24 (pc := 64) dX4_endOfTheRoad_64 <|
pw_getI (o := 13) (k := 14) (pw_shTown pw_t13) cfX7 rfl (by decide) flX4_40 (pc := 67) dX4_endOfTheRoad_67 <|
pw_callV_ri (n := 1) (rest := []) (tX7_overstretched K.2.1 G pw_t13 (m10 13 14) m10) (pw_shTown pw_t13) cfX7 rfl miX7_overstretched mlX4_44 (pc := 70) dX4_endOfTheRoad_70 rfl rfl (by decide) (Nat.le_of_ble_eq_true rfl) fun y11 =>
pw_if_eq (a := y11) (b := 0) (tgt := 78) (pc := 73) dX4_endOfTheRoad_73 (by decide) (fun h13 => pw_iload (pc := 78) dX4_endOfTheRoad_78 0 rfl <|
pw_istore_n [(3, .int x8), (5, .int x8), (4, .int v4), (0, .ref (pw_ad G 37)), (1, .int a1), (2, .int a2)] (pc := 80) dX4_endOfTheRoad_80 (by decide) rfl <|
pw_ltA fun x12 hxx12 => pw_iinc (v := x12) [(4, .int x12), (3, .int x8), (5, .int x8), (0, .ref (pw_ad G 37)), (1, .int a1), (2, .int a2)] (pc := 81) dX4_endOfTheRoad_81 2 rfl (by rw [hxx12]; rfl) (by decide) rfl <|
pw_goto (tgt := 24) (pc := 84) dX4_endOfTheRoad_84 (by decide) <|
pw_sub [0, 1, 3, 4, 5] rfl <| hn7 x8 x12 m10) (fun h14 => pw_iload_n (pc := 76) dX4_endOfTheRoad_76 2 rfl <|
pw_iret (a := v3) (v := (v3, m10)) hH rfl (pc := 77) dX4_endOfTheRoad_77)) (fun h16 => pw_iload_n (pc := 46) dX4_endOfTheRoad_46 2 rfl <|
pw_iret (a := v3) (v := (v3, m5)) hH rfl (pc := 47) dX4_endOfTheRoad_47))) FU x2 (1 : Int32) m1)
set_option maxHeartbeats 4000000 in
theorem tX4_restingPlace (l : Launch) (G : pw_G) (a1 : Int32) (m0 : pw_Mem) : PMet l G yX4_restingPlace cX4_restingPlace 8 (some .int) 3 [.ref (pw_ad G 37), .int a1] m0 pw_Wi (fX4_restingPlace a1 m0) :=
  pw_met (own := RX4) (l0 := [(0, .ref (pw_ad G 37)), (1, .int a1)]) rfl (by decide) rfl (Nat.le_of_ble_eq_true rfl) fun K hK hH => by
  delta fX4_restingPlace
  exact (pw_aload_n (pc := 0) dX4_restingPlace_0 0 rfl <|
pw_iload_n (pc := 1) dX4_restingPlace_1 1 rfl <|
pw_iconst (v := -1) (pc := 2) dX4_restingPlace_2 (by decide) <|
pw_callV_wi (n := 2) (rest := []) (tX4_endOfTheRoad K.2.1 G a1 (-1 : Int32) m0) (pw_sh_37) cfX4 rfl miX4_endOfTheRoad mlX4_48 (pc := 3) dX4_restingPlace_3 rfl rfl (by decide) (Nat.le_of_ble_eq_true rfl) fun y1 m2 =>
pw_istore_n [(2, .int y1), (0, .ref (pw_ad G 37)), (1, .int a1)] (pc := 6) dX4_restingPlace_6 (by decide) rfl <|
pw_aload_n (pc := 7) dX4_restingPlace_7 1 rfl <|
pw_iload_n (pc := 8) dX4_restingPlace_8 2 rfl <|
pw_iconst (v := 1) (pc := 9) dX4_restingPlace_9 (by decide) <|
pw_callV_wi (n := 2) (rest := []) (tX4_endOfTheRoad K.2.1 G a1 (1 : Int32) m2) (pw_sh_37) cfX4 rfl miX4_endOfTheRoad mlX4_48 (pc := 10) dX4_restingPlace_10 rfl rfl (by decide) (Nat.le_of_ble_eq_true rfl) fun y3 m4 =>
pw_istore_n [(3, .int y3), (2, .int y1), (0, .ref (pw_ad G 37)), (1, .int a1)] (pc := 13) dX4_restingPlace_13 (by decide) rfl <|
pw_aload_n (pc := 14) dX4_restingPlace_14 2 rfl <|
pw_getR (o := 37) (k := 1) (t := 13) (pw_sh_37) cfX4 rfl (by decide) flX4_24 (pc := 15) dX4_restingPlace_15 <|
pw_aload_n (pc := 18) dX4_restingPlace_18 2 rfl <|
pw_getR (o := 37) (k := 0) (t := 1) (pw_sh_37) cfX4 rfl (by decide) flX4_20 (pc := 19) dX4_restingPlace_19 <|
pw_callV_wv (n := 1) (rest := []) (tX7_becomes K.2.1 G pw_t13 pw_t1 m4) (pw_shTown pw_t13) cfX7 rfl miX7_becomes mlX4_27 (pc := 22) dX4_restingPlace_22 rfl rfl (by decide) (Nat.le_of_ble_eq_true rfl) fun m5 =>
pw_iload_n (pc := 25) dX4_restingPlace_25 1 rfl <|
pw_istore [(4, .int y1), (3, .int y3), (2, .int y1), (0, .ref (pw_ad G 37)), (1, .int a1)] (pc := 26) dX4_restingPlace_26 (by decide) rfl <|
pw_ldc (v := 1000000) (pc := 28) dX4_restingPlace_28 klX4_52 <|
pw_istore [(5, .int (1000000 : Int32)), (4, .int y1), (3, .int y3), (2, .int y1), (0, .ref (pw_ad G 37)), (1, .int a1)] (pc := 30) dX4_restingPlace_30 (by decide) rfl <|
pw_iload_n (pc := 32) dX4_restingPlace_32 3 rfl <|
pw_istore [(6, .int y1), (5, .int (1000000 : Int32)), (4, .int y1), (3, .int y3), (2, .int y1), (0, .ref (pw_ad G 37)), (1, .int a1)] (pc := 33) dX4_restingPlace_33 (by decide) rfl <|
pw_sub [0, 1, 2, 3, 5, 6] rfl <| pw_lp (fun (kk24 : Int32 → Int32 → Int32 → pw_Mem → Option (Int32 × pw_Mem)) => ∀ (v6 : Int32) (v7 : Int32) (v8 : Int32) (m9 : pw_Mem), PW K G RX4 cX4_restingPlace 8 (some .int) 3 (pw_MQ K G pw_Wi) (kk24 v6 v7 v8 m9) 35 [(6, .int v8), (5, .int v7), (4, .int v6), (3, .int y3), (0, .ref (pw_ad G 37)), (1, .int a1)] [] m9) (fun _ _ _ _ => pw_none) (fun nx10 hn11 v6 v7 v8 m9 => pw_iload (pc := 35) dX4_restingPlace_35 0 rfl <|
pw_iload_n (pc := 37) dX4_restingPlace_37 3 rfl <|
pw_icmp_gt  (tgt := 94) (pc := 38) dX4_restingPlace_38 (by decide) (fun h22 => pw_iload (pc := 94) dX4_restingPlace_94 2 rfl <|
pw_iret (a := v6) (v := (v6, m9)) hH rfl (pc := 96) dX4_restingPlace_96) (fun h23 => pw_aload_n (pc := 41) dX4_restingPlace_41 4 rfl <|
pw_getR (o := 37) (k := 1) (t := 13) (pw_sh_37) cfX4 rfl (by decide) flX4_24 (pc := 42) dX4_restingPlace_42 <|
pw_getR (o := 13) (k := 0) (t := (13 + 1)) (pw_shTown pw_t13) cfX7 rfl (by decide) flX4_33 (pc := 45) dX4_restingPlace_45 <|
pw_iload_n (pc := 48) dX4_restingPlace_48 5 rfl <|
pw_iload (pc := 49) dX4_restingPlace_49 0 rfl <|
pw_iast (pw_shTown0 pw_t13) (pc := 51) dX4_restingPlace_51 <| pw_ltM fun m12 =>
pw_aload_n (pc := 52) dX4_restingPlace_52 4 rfl <|
pw_getR (o := 37) (k := 1) (t := 13) (pw_sh_37) cfX4 rfl (by decide) flX4_24 (pc := 53) dX4_restingPlace_53 <|
pw_callV_wv (n := 0) (rest := []) (tX7_weighLeans K.2.1 G pw_t13 m12) (pw_shTown pw_t13) cfX7 rfl miX7_weighLeans mlX4_53 (pc := 56) dX4_restingPlace_56 rfl rfl (by decide) (Nat.le_of_ble_eq_true rfl) fun m13 =>
pw_aload_n (pc := 59) dX4_restingPlace_59 4 rfl <|
pw_getR (o := 37) (k := 1) (t := 13) (pw_sh_37) cfX4 rfl (by decide) flX4_24 (pc := 60) dX4_restingPlace_60 <|
pw_getR (o := 13) (k := 2) (t := (13 + 3)) (pw_shTown pw_t13) cfX7 rfl (by decide) flX4_56 (pc := 63) dX4_restingPlace_63 <|
pw_iload_n (pc := 66) dX4_restingPlace_66 5 rfl <|
pw_iald (pw_shTown2 pw_t13) (pc := 67) dX4_restingPlace_67 <|
pw_mabs (b := 0) mlX4_59 ms_abs ms_math mc_abs (pc := 68) dX4_restingPlace_68 (by decide) (Nat.le_of_ble_eq_true rfl) <|
pw_ltI fun x14 => pw_istore [(7, .int x14), (6, .int v8), (5, .int v7), (4, .int v6), (3, .int y3), (0, .ref (pw_ad G 37)), (1, .int a1)] (pc := 71) dX4_restingPlace_71 (by decide) rfl <|
pw_iload (pc := 73) dX4_restingPlace_73 0 rfl <|
pw_iload (pc := 75) dX4_restingPlace_75 2 rfl <|
pw_jn (fun (k18 : Int32 → Int32 → Option (Int32 × pw_Mem)) => ∀ (v15 : Int32) (v16 : Int32), PW K G RX4 cX4_restingPlace 8 (some .int) 3 (pw_MQ K G pw_Wi) (k18 v15 v16) 88 [(6, .int v8), (5, .int v16), (4, .int v15), (3, .int y3), (0, .ref (pw_ad G 37)), (1, .int a1)] [] m13) (fun v15 v16 => pw_ltA fun x17 hxx17 => pw_iinc (v := x17) [(6, .int x17), (5, .int v16), (4, .int v15), (3, .int y3), (0, .ref (pw_ad G 37)), (1, .int a1)] (pc := 88) dX4_restingPlace_88 0 rfl (by rw [hxx17]; rfl) (by decide) rfl <|
pw_goto (tgt := 35) (pc := 91) dX4_restingPlace_91 (by decide) <|
hn11 v15 v16 x17 m13) (fun k18 hk19 => pw_icmp_ge  (tgt := 88) (pc := 77) dX4_restingPlace_77 (by decide) (fun h20 => pw_sub [1, 2, 3, 4, 5, 6] rfl <| hk19 v6 v7) (fun h21 => pw_iload (pc := 80) dX4_restingPlace_80 0 rfl <|
pw_istore [(5, .int x14), (7, .int x14), (6, .int v8), (4, .int v6), (3, .int y3), (0, .ref (pw_ad G 37)), (1, .int a1)] (pc := 82) dX4_restingPlace_82 (by decide) rfl <|
pw_iload (pc := 84) dX4_restingPlace_84 2 rfl <|
pw_istore [(4, .int v8), (5, .int x14), (7, .int x14), (6, .int v8), (3, .int y3), (0, .ref (pw_ad G 37)), (1, .int a1)] (pc := 86) dX4_restingPlace_86 (by decide) rfl <|
pw_sub [3, 1, 0, 4, 5, 6] rfl <| hk19 v8 x14)))) FU y1 (1000000 : Int32) y1 m5)
set_option maxHeartbeats 4000000 in
theorem tX4_snappedByGoing (l : Launch) (G : pw_G) (a1 : Int32) (a2 : Int32) (m0 : pw_Mem) : PMet l G yX4_snappedByGoing cX4_snappedByGoing 3 (some .int) 2 [.ref (pw_ad G 37), .int a1, .int a2] m0 pw_Wi (fX4_snappedByGoing a1 a2 m0) :=
  pw_met (own := RX4) (l0 := [(0, .ref (pw_ad G 37)), (1, .int a1), (2, .int a2)]) rfl (by decide) rfl (Nat.le_of_ble_eq_true rfl) fun K hK hH => by
  delta fX4_snappedByGoing
  exact (pw_aload_n (pc := 0) dX4_snappedByGoing_0 0 rfl <|
pw_getR (o := 37) (k := 1) (t := 13) (pw_sh_37) cfX4 rfl (by decide) flX4_24 (pc := 1) dX4_snappedByGoing_1 <|
pw_aload_n (pc := 4) dX4_snappedByGoing_4 0 rfl <|
pw_getR (o := 37) (k := 0) (t := 1) (pw_sh_37) cfX4 rfl (by decide) flX4_20 (pc := 5) dX4_snappedByGoing_5 <|
pw_callV_wv (n := 1) (rest := []) (tX7_becomes K.2.1 G pw_t13 pw_t1 m0) (pw_shTown pw_t13) cfX7 rfl miX7_becomes mlX4_27 (pc := 8) dX4_snappedByGoing_8 rfl rfl (by decide) (Nat.le_of_ble_eq_true rfl) fun m1 =>
pw_aload_n (pc := 11) dX4_snappedByGoing_11 0 rfl <|
pw_getR (o := 37) (k := 1) (t := 13) (pw_sh_37) cfX4 rfl (by decide) flX4_24 (pc := 12) dX4_snappedByGoing_12 <|
pw_getR (o := 13) (k := 0) (t := (13 + 1)) (pw_shTown pw_t13) cfX7 rfl (by decide) flX4_33 (pc := 15) dX4_snappedByGoing_15 <|
pw_iload_n (pc := 18) dX4_snappedByGoing_18 1 rfl <|
pw_iload_n (pc := 19) dX4_snappedByGoing_19 2 rfl <|
pw_iast (pw_shTown0 pw_t13) (pc := 20) dX4_snappedByGoing_20 <| pw_ltM fun m2 =>
pw_aload_n (pc := 21) dX4_snappedByGoing_21 0 rfl <|
pw_getR (o := 37) (k := 1) (t := 13) (pw_sh_37) cfX4 rfl (by decide) flX4_24 (pc := 22) dX4_snappedByGoing_22 <|
pw_aload_n (pc := 25) dX4_snappedByGoing_25 0 rfl <|
pw_getR (o := 37) (k := 1) (t := 13) (pw_sh_37) cfX4 rfl (by decide) flX4_24 (pc := 26) dX4_snappedByGoing_26 <|
pw_getI (o := 13) (k := 14) (pw_shTown pw_t13) cfX7 rfl (by decide) flX4_40 (pc := 29) dX4_snappedByGoing_29 <|
pw_callV_ri (n := 1) (rest := []) (tX7_overstretched K.2.1 G pw_t13 (m2 13 14) m2) (pw_shTown pw_t13) cfX7 rfl miX7_overstretched mlX4_44 (pc := 32) dX4_snappedByGoing_32 rfl rfl (by decide) (Nat.le_of_ble_eq_true rfl) fun y3 =>
pw_iret (a := y3) (v := (y3, m2)) hH rfl (pc := 35) dX4_snappedByGoing_35)
set_option maxHeartbeats 4000000 in
theorem tX4_farTo (l : Launch) (G : pw_G) (a1 : Int32) (m0 : pw_Mem) : PMet l G yX4_farTo cX4_farTo 4 (some .int) 1 [.ref (pw_ad G 37), .int a1] m0 (pw_Ri m0) (fX4_farTo a1 m0) :=
  pw_met (own := RX4) (l0 := [(0, .ref (pw_ad G 37)), (1, .int a1)]) rfl (by decide) rfl (Nat.le_of_ble_eq_true rfl) fun K hK hH => by
  delta fX4_farTo
  exact (pw_iconst (v := 0) (pc := 0) dX4_farTo_0 (by decide) <|
pw_istore_n [(2, .int (0 : Int32)), (0, .ref (pw_ad G 37)), (1, .int a1)] (pc := 1) dX4_farTo_1 (by decide) rfl <|
pw_iconst (v := 0) (pc := 2) dX4_farTo_2 (by decide) <|
pw_istore_n [(3, .int (0 : Int32)), (2, .int (0 : Int32)), (0, .ref (pw_ad G 37)), (1, .int a1)] (pc := 3) dX4_farTo_3 (by decide) rfl <|
pw_lp (fun (kk9 : Int32 → Int32 → Option Int32) => ∀ (v1 : Int32) (v2 : Int32), PW K G RX4 cX4_farTo 4 (some .int) 1 (pw_MQ K G (pw_Ri m0)) (kk9 v1 v2) 4 [(3, .int v2), (2, .int v1), (0, .ref (pw_ad G 37)), (1, .int a1)] [] m0) (fun _ _ => pw_none) (fun nx3 hn4 v1 v2 => pw_iload_n (pc := 4) dX4_farTo_4 0 rfl <|
pw_aload_n (pc := 5) dX4_farTo_5 2 rfl <|
pw_getR (o := 37) (k := 0) (t := 1) (pw_sh_37) cfX4 rfl (by decide) flX4_20 (pc := 6) dX4_farTo_6 <|
pw_getI (o := 1) (k := 11) (pw_shTown pw_t1) cfX7 rfl (by decide) flX4_64 (pc := 9) dX4_farTo_9 <|
pw_icmp_ge  (tgt := 38) (pc := 12) dX4_farTo_12 (by decide) (fun h7 => pw_iload_n (pc := 38) dX4_farTo_38 1 rfl <|
pw_iret (a := v1) (v := v1) hH rfl (pc := 39) dX4_farTo_39) (fun h8 => pw_iload_n (pc := 15) dX4_farTo_15 1 rfl <|
pw_aload_n (pc := 16) dX4_farTo_16 2 rfl <|
pw_getR (o := 37) (k := 0) (t := 1) (pw_sh_37) cfX4 rfl (by decide) flX4_20 (pc := 17) dX4_farTo_17 <|
pw_getR (o := 1) (k := 0) (t := (1 + 1)) (pw_shTown pw_t1) cfX7 rfl (by decide) flX4_33 (pc := 20) dX4_farTo_20 <|
pw_iload_n (pc := 23) dX4_farTo_23 0 rfl <|
pw_iald (pw_shTown0 pw_t1) (pc := 24) dX4_farTo_24 <|
pw_iload_n (pc := 25) dX4_farTo_25 3 rfl <|
pw_isub (pc := 26) dX4_farTo_26 <|
pw_mabs (b := 0) mlX4_59 ms_abs ms_math mc_abs (pc := 27) dX4_farTo_27 (by decide) (Nat.le_of_ble_eq_true rfl) <|
pw_iadd (pc := 30) dX4_farTo_30 <|
pw_ltI fun x5 => pw_istore_n [(2, .int x5), (3, .int v2), (0, .ref (pw_ad G 37)), (1, .int a1)] (pc := 31) dX4_farTo_31 (by decide) rfl <|
pw_ltA fun x6 hxx6 => pw_iinc (v := x6) [(3, .int x6), (2, .int x5), (0, .ref (pw_ad G 37)), (1, .int a1)] (pc := 32) dX4_farTo_32 1 rfl (by rw [hxx6]; rfl) (by decide) rfl <|
pw_goto (tgt := 4) (pc := 35) dX4_farTo_35 (by decide) <|
hn4 x5 x6)) FU (0 : Int32) (0 : Int32))
set_option maxHeartbeats 4000000 in
theorem tX4_meetingPlace (l : Launch) (G : pw_G)  (m0 : pw_Mem) : PMet l G yX4_meetingPlace cX4_meetingPlace 3 (some .int) 2 [.ref (pw_ad G 37)] m0 (pw_Ri m0) (fX4_meetingPlace m0) :=
  pw_met (own := RX4) (l0 := [(0, .ref (pw_ad G 37))]) rfl (by decide) rfl (Nat.le_of_ble_eq_true rfl) fun K hK hH => by
  delta fX4_meetingPlace
  exact (pw_iconst (v := 0) (pc := 0) dX4_meetingPlace_0 (by decide) <|
pw_istore_n [(1, .int (0 : Int32)), (0, .ref (pw_ad G 37))] (pc := 1) dX4_meetingPlace_1 (by decide) rfl <|
pw_iconst (v := 1) (pc := 2) dX4_meetingPlace_2 (by decide) <|
pw_istore_n [(2, .int (1 : Int32)), (1, .int (0 : Int32)), (0, .ref (pw_ad G 37))] (pc := 3) dX4_meetingPlace_3 (by decide) rfl <|
pw_lp (fun (kk15 : Int32 → Int32 → Option Int32) => ∀ (v1 : Int32) (v2 : Int32), PW K G RX4 cX4_meetingPlace 3 (some .int) 2 (pw_MQ K G (pw_Ri m0)) (kk15 v1 v2) 4 [(2, .int v2), (1, .int v1), (0, .ref (pw_ad G 37))] [] m0) (fun _ _ => pw_none) (fun nx3 hn4 v1 v2 => pw_iload_n (pc := 4) dX4_meetingPlace_4 0 rfl <|
pw_bipush (v := 30) (pc := 5) dX4_meetingPlace_5 (by decide) <|
pw_icmp_gt  (tgt := 31) (pc := 7) dX4_meetingPlace_7 (by decide) (fun h13 => pw_iload_n (pc := 31) dX4_meetingPlace_31 1 rfl <|
pw_iret (a := v1) (v := v1) hH rfl (pc := 32) dX4_meetingPlace_32) (fun h14 => pw_aload_n (pc := 10) dX4_meetingPlace_10 2 rfl <|
pw_iload_n (pc := 11) dX4_meetingPlace_11 0 rfl <|
pw_callV_ri (n := 1) (rest := []) (tX4_farTo K.2.1 G v2 m0) (pw_sh_37) cfX4 rfl miX4_farTo mlX4_67 (pc := 12) dX4_meetingPlace_12 rfl rfl (by decide) (Nat.le_of_ble_eq_true rfl) fun y5 =>
pw_aload_n (pc := 15) dX4_meetingPlace_15 2 rfl <|
pw_iload_n (pc := 16) dX4_meetingPlace_16 1 rfl <|
pw_callV_ri (n := 1) (rest := [.int y5]) (tX4_farTo K.2.1 G v1 m0) (pw_sh_37) cfX4 rfl miX4_farTo mlX4_67 (pc := 17) dX4_meetingPlace_17 rfl rfl (by decide) (Nat.le_of_ble_eq_true rfl) fun y6 =>
pw_jn (fun (k9 : Int32 → Option Int32) => ∀ (v7 : Int32), PW K G RX4 cX4_meetingPlace 3 (some .int) 2 (pw_MQ K G (pw_Ri m0)) (k9 v7) 25 [(2, .int v2), (1, .int v7), (0, .ref (pw_ad G 37))] [] m0) (fun v7 => pw_ltA fun x8 hxx8 => pw_iinc (v := x8) [(2, .int x8), (1, .int v7), (0, .ref (pw_ad G 37))] (pc := 25) dX4_meetingPlace_25 0 rfl (by rw [hxx8]; rfl) (by decide) rfl <|
pw_goto (tgt := 4) (pc := 28) dX4_meetingPlace_28 (by decide) <|
hn4 v7 x8) (fun k9 hk10 => pw_icmp_ge  (tgt := 25) (pc := 20) dX4_meetingPlace_20 (by decide) (fun h11 => hk10 v1) (fun h12 => pw_iload_n (pc := 23) dX4_meetingPlace_23 0 rfl <|
pw_istore_n [(1, .int v2), (2, .int v2), (0, .ref (pw_ad G 37))] (pc := 24) dX4_meetingPlace_24 (by decide) rfl <|
pw_sub [1, 0, 2] rfl <| hk10 v2)))) FU (0 : Int32) (1 : Int32))
set_option maxHeartbeats 4000000 in
theorem tX4_snappedByMeeting (l : Launch) (G : pw_G)  (m0 : pw_Mem) : PMet l G yX4_snappedByMeeting cX4_snappedByMeeting 4 (some .int) 4 [.ref (pw_ad G 37)] m0 pw_Wi (fX4_snappedByMeeting m0) :=
  pw_met (own := RX4) (l0 := [(0, .ref (pw_ad G 37))]) rfl (by decide) rfl (Nat.le_of_ble_eq_true rfl) fun K hK hH => by
  delta fX4_snappedByMeeting
  exact (pw_aload_n (pc := 0) dX4_snappedByMeeting_0 0 rfl <|
pw_callV_ri (n := 0) (rest := []) (tX4_meetingPlace K.2.1 G m0) (pw_sh_37) cfX4 rfl miX4_meetingPlace mlX4_70 (pc := 1) dX4_snappedByMeeting_1 rfl rfl (by decide) (Nat.le_of_ble_eq_true rfl) fun y1 =>
pw_istore_n [(1, .int y1), (0, .ref (pw_ad G 37))] (pc := 4) dX4_snappedByMeeting_4 (by decide) rfl <|
pw_aload_n (pc := 5) dX4_snappedByMeeting_5 1 rfl <|
pw_getR (o := 37) (k := 1) (t := 13) (pw_sh_37) cfX4 rfl (by decide) flX4_24 (pc := 6) dX4_snappedByMeeting_6 <|
pw_aload_n (pc := 9) dX4_snappedByMeeting_9 1 rfl <|
pw_getR (o := 37) (k := 0) (t := 1) (pw_sh_37) cfX4 rfl (by decide) flX4_20 (pc := 10) dX4_snappedByMeeting_10 <|
pw_callV_wv (n := 1) (rest := []) (tX7_becomes K.2.1 G pw_t13 pw_t1 m0) (pw_shTown pw_t13) cfX7 rfl miX7_becomes mlX4_27 (pc := 13) dX4_snappedByMeeting_13 rfl rfl (by decide) (Nat.le_of_ble_eq_true rfl) fun m2 =>
pw_iconst (v := 0) (pc := 16) dX4_snappedByMeeting_16 (by decide) <|
pw_istore_n [(2, .int (0 : Int32)), (1, .int y1), (0, .ref (pw_ad G 37))] (pc := 17) dX4_snappedByMeeting_17 (by decide) rfl <|
pw_iconst (v := 0) (pc := 18) dX4_snappedByMeeting_18 (by decide) <|
pw_istore_n [(3, .int (0 : Int32)), (2, .int (0 : Int32)), (1, .int y1), (0, .ref (pw_ad G 37))] (pc := 19) dX4_snappedByMeeting_19 (by decide) rfl <|
pw_lp (fun (kk14 : Int32 → Int32 → pw_Mem → Option (Int32 × pw_Mem)) => ∀ (v3 : Int32) (v4 : Int32) (m5 : pw_Mem), PW K G RX4 cX4_snappedByMeeting 4 (some .int) 4 (pw_MQ K G pw_Wi) (kk14 v3 v4 m5) 20 [(3, .int v4), (2, .int v3), (1, .int y1), (0, .ref (pw_ad G 37))] [] m5) (fun _ _ _ => pw_none) (fun nx6 hn7 v3 v4 m5 => pw_iload_n (pc := 20) dX4_snappedByMeeting_20 0 rfl <|
pw_aload_n (pc := 21) dX4_snappedByMeeting_21 3 rfl <|
pw_getR (o := 37) (k := 1) (t := 13) (pw_sh_37) cfX4 rfl (by decide) flX4_24 (pc := 22) dX4_snappedByMeeting_22 <|
pw_getI (o := 13) (k := 11) (pw_shTown pw_t13) cfX7 rfl (by decide) flX4_64 (pc := 25) dX4_snappedByMeeting_25 <|
pw_icmp_ge  (tgt := 49) (pc := 28) dX4_snappedByMeeting_28 (by decide) (fun h12 => pw_iload_n (pc := 49) dX4_snappedByMeeting_49 1 rfl <|
pw_iret (a := v3) (v := (v3, m5)) hH rfl (pc := 50) dX4_snappedByMeeting_50) (fun h13 => pw_iload_n (pc := 31) dX4_snappedByMeeting_31 1 rfl <|
pw_aload_n (pc := 32) dX4_snappedByMeeting_32 3 rfl <|
pw_getR (o := 37) (k := 1) (t := 13) (pw_sh_37) cfX4 rfl (by decide) flX4_24 (pc := 33) dX4_snappedByMeeting_33 <|
pw_iload_n (pc := 36) dX4_snappedByMeeting_36 0 rfl <|
pw_iload_n (pc := 37) dX4_snappedByMeeting_37 2 rfl <|
pw_callV_wi (n := 2) (rest := [.int v3]) (tX7_moves K.2.1 G pw_t13 v4 y1 m5) (pw_shTown pw_t13) cfX7 rfl miX7_moves mlX4_74 (pc := 38) dX4_snappedByMeeting_38 rfl rfl (by decide) (Nat.le_of_ble_eq_true rfl) fun y8 m9 =>
pw_iadd (pc := 41) dX4_snappedByMeeting_41 <|
pw_ltI fun x10 => pw_istore_n [(2, .int x10), (3, .int v4), (1, .int y1), (0, .ref (pw_ad G 37))] (pc := 42) dX4_snappedByMeeting_42 (by decide) rfl <|
pw_ltA fun x11 hxx11 => pw_iinc (v := x11) [(3, .int x11), (2, .int x10), (1, .int y1), (0, .ref (pw_ad G 37))] (pc := 43) dX4_snappedByMeeting_43 1 rfl (by rw [hxx11]; rfl) (by decide) rfl <|
pw_goto (tgt := 20) (pc := 46) dX4_snappedByMeeting_46 (by decide) <|
hn7 x10 x11 m9)) FU (0 : Int32) (0 : Int32) m2)
set_option maxHeartbeats 4000000 in
theorem tX4_breaksTo (l : Launch) (G : pw_G) (a1 : Int32) (a2 : Int32) (m0 : pw_Mem) : PMet l G yX4_breaksTo cX4_breaksTo 4 (some .int) 2 [.ref (pw_ad G 37), .int a1, .int a2] m0 (pw_Ri m0) (fX4_breaksTo a1 a2 m0) :=
  pw_met (own := RX4) (l0 := [(0, .ref (pw_ad G 37)), (1, .int a1), (2, .int a2)]) rfl (by decide) rfl (Nat.le_of_ble_eq_true rfl) fun K hK hH => by
  delta fX4_breaksTo
  exact (pw_aload_n (pc := 0) dX4_breaksTo_0 0 rfl <|
pw_getR (o := 37) (k := 0) (t := 1) (pw_sh_37) cfX4 rfl (by decide) flX4_20 (pc := 1) dX4_breaksTo_1 <|
pw_getR (o := 1) (k := 3) (t := (1 + 4)) (pw_shTown pw_t1) cfX7 rfl (by decide) flX4_106 (pc := 4) dX4_breaksTo_4 <|
pw_iload_n (pc := 7) dX4_breaksTo_7 1 rfl <|
pw_iald (pw_shTown3 pw_t1) (pc := 8) dX4_breaksTo_8 <|
pw_aload_n (pc := 9) dX4_breaksTo_9 0 rfl <|
pw_getR (o := 37) (k := 0) (t := 1) (pw_sh_37) cfX4 rfl (by decide) flX4_20 (pc := 10) dX4_breaksTo_10 <|
pw_getR (o := 1) (k := 4) (t := (1 + 5)) (pw_shTown pw_t1) cfX7 rfl (by decide) flX4_109 (pc := 13) dX4_breaksTo_13 <|
pw_iload_n (pc := 16) dX4_breaksTo_16 1 rfl <|
pw_iald (pw_shTown4 pw_t1) (pc := 17) dX4_breaksTo_17 <|
pw_iload_n (pc := 18) dX4_breaksTo_18 2 rfl <|
pw_mabs (b := 0) mlX4_59 ms_abs ms_math mc_abs (pc := 19) dX4_breaksTo_19 (by decide) (Nat.le_of_ble_eq_true rfl) <|
pw_callS_ri (n := 3) (rest := []) (tX3_stretch K.2.1 G (m0 (1 + 4) (a1).toNatClampNeg) (m0 (1 + 5) (a1).toNatClampNeg) (jabs a2) m0) miX3_stretch mlX4_112 (pc := 22) dX4_breaksTo_22 rfl rfl (by decide) (Nat.le_of_ble_eq_true rfl) fun y1 =>
pw_istore_n [(3, .int y1), (0, .ref (pw_ad G 37)), (1, .int a1), (2, .int a2)] (pc := 25) dX4_breaksTo_25 (by decide) rfl <|
pw_iload_n (pc := 26) dX4_breaksTo_26 0 rfl <|
pw_aload_n (pc := 27) dX4_breaksTo_27 1 rfl <|
pw_getR (o := 37) (k := 0) (t := 1) (pw_sh_37) cfX4 rfl (by decide) flX4_20 (pc := 28) dX4_breaksTo_28 <|
pw_iload_n (pc := 31) dX4_breaksTo_31 2 rfl <|
pw_aload_n (pc := 32) dX4_breaksTo_32 1 rfl <|
pw_getR (o := 37) (k := 0) (t := 1) (pw_sh_37) cfX4 rfl (by decide) flX4_20 (pc := 33) dX4_breaksTo_33 <|
pw_getR (o := 1) (k := 7) (t := (1 + 8)) (pw_shTown pw_t1) cfX7 rfl (by decide) flX4_118 (pc := 36) dX4_breaksTo_36 <|
pw_iload_n (pc := 39) dX4_breaksTo_39 2 rfl <|
pw_iald (pw_shTown7 pw_t1) (pc := 40) dX4_breaksTo_40 <|
pw_aload_n (pc := 41) dX4_breaksTo_41 1 rfl <|
pw_getR (o := 37) (k := 0) (t := 1) (pw_sh_37) cfX4 rfl (by decide) flX4_20 (pc := 42) dX4_breaksTo_42 <|
pw_getI (o := 1) (k := 14) (pw_shTown pw_t1) cfX7 rfl (by decide) flX4_40 (pc := 45) dX4_breaksTo_45 <|
pw_callV_ri (n := 3) (rest := [.int y1]) (tX7_holdsAt K.2.1 G pw_t1 a1 (m0 (1 + 8) (a1).toNatClampNeg) (m0 1 14) m0) (pw_shTown pw_t1) cfX7 rfl miX7_holdsAt mlX4_121 (pc := 48) dX4_breaksTo_48 rfl rfl (by decide) (Nat.le_of_ble_eq_true rfl) fun y2 =>
pw_icmp_le  (tgt := 58) (pc := 51) dX4_breaksTo_51 (by decide) (fun h3 => pw_iconst (v := 0) (pc := 58) dX4_breaksTo_58 (by decide) <|
pw_iret (a := (0 : Int32)) (v := (0 : Int32)) hH rfl (pc := 59) dX4_breaksTo_59) (fun h4 => pw_iconst (v := 1) (pc := 54) dX4_breaksTo_54 (by decide) <|
pw_goto (tgt := 59) (pc := 55) dX4_breaksTo_55 (by decide) <|
pw_iret (a := (1 : Int32)) (v := (1 : Int32)) hH rfl (pc := 59) dX4_breaksTo_59))
set_option maxHeartbeats 4000000 in
theorem tX4_findFirstBreaks (l : Launch) (G : pw_G) (a1 : Int32) (m0 : pw_Mem) : PMet l G yX4_findFirstBreaks cX4_findFirstBreaks 5 (none) 3 [.ref (pw_ad G 37), .int a1] m0 pw_Wv (fX4_findFirstBreaks a1 m0) :=
  pw_met (own := RX4) (l0 := [(0, .ref (pw_ad G 37)), (1, .int a1)]) rfl (by decide) rfl (Nat.le_of_ble_eq_true rfl) fun K hK hH => by
  delta fX4_findFirstBreaks
  exact (pw_iconst (v := 0) (pc := 0) dX4_findFirstBreaks_0 (by decide) <|
pw_istore_n [(2, .int (0 : Int32)), (0, .ref (pw_ad G 37)), (1, .int a1)] (pc := 1) dX4_findFirstBreaks_1 (by decide) rfl <|
pw_lp (fun (kk40 : Int32 → pw_Mem → Option pw_Mem) => ∀ (v1 : Int32) (m2 : pw_Mem), PW K G RX4 cX4_findFirstBreaks 5 (none) 3 (pw_MQ K G pw_Wv) (kk40 v1 m2) 2 [(2, .int v1), (0, .ref (pw_ad G 37)), (1, .int a1)] [] m2) (fun _ _ => pw_none) (fun nx3 hn4 v1 m2 => pw_iload_n (pc := 2) dX4_findFirstBreaks_2 0 rfl <|
pw_bipush (v := 7) (pc := 3) dX4_findFirstBreaks_3 (by decide) <|
pw_icmp_ge  (tgt := 37) (pc := 5) dX4_findFirstBreaks_5 (by decide) (fun h38 => pw_iconst (v := 0) (pc := 37) dX4_findFirstBreaks_37 (by decide) <|
pw_istore_n [(2, .int (0 : Int32)), (0, .ref (pw_ad G 37)), (1, .int a1)] (pc := 38) dX4_findFirstBreaks_38 (by decide) rfl <|
pw_lp (fun (kk26 : Int32 → pw_Mem → Option pw_Mem) => ∀ (v5 : Int32) (m6 : pw_Mem), PW K G RX4 cX4_findFirstBreaks 5 (none) 3 (pw_MQ K G pw_Wv) (kk26 v5 m6) 39 [(2, .int v5), (0, .ref (pw_ad G 37)), (1, .int a1)] [] m6) (fun _ _ => pw_none) (fun nx7 hn8 v5 m6 => pw_iload_n (pc := 39) dX4_findFirstBreaks_39 0 rfl <|
pw_aload_n (pc := 40) dX4_findFirstBreaks_40 1 rfl <|
pw_getR (o := 37) (k := 0) (t := 1) (pw_sh_37) cfX4 rfl (by decide) flX4_20 (pc := 41) dX4_findFirstBreaks_41 <|
pw_getI (o := 1) (k := 12) (pw_shTown pw_t1) cfX7 rfl (by decide) flX4_90 (pc := 44) dX4_findFirstBreaks_44 <|
pw_icmp_ge  (tgt := 145) (pc := 47) dX4_findFirstBreaks_47 (by decide) (fun h24 => pw_vret hH rfl (pc := 145) dX4_findFirstBreaks_145) (fun h25 => pw_aload_n (pc := 50) dX4_findFirstBreaks_50 1 rfl <|
pw_getR (o := 37) (k := 0) (t := 1) (pw_sh_37) cfX4 rfl (by decide) flX4_20 (pc := 51) dX4_findFirstBreaks_51 <|
pw_iload_n (pc := 54) dX4_findFirstBreaks_54 0 rfl <|
pw_callV_rz (n := 1) (rest := []) (tX7_isSnapped K.2.1 G pw_t1 v5 m6) (pw_shTown pw_t1) cfX7 rfl miX7_isSnapped mlX4_93 (pc := 55) dX4_findFirstBreaks_55 rfl rfl (by decide) (Nat.le_of_ble_eq_true rfl) fun y9 =>
pw_jn (fun (k12 : pw_Mem → Option pw_Mem) => ∀ (m10 : pw_Mem), PW K G RX4 cX4_findFirstBreaks 5 (none) 3 (pw_MQ K G pw_Wv) (k12 m10) 139 [(2, .int v5), (0, .ref (pw_ad G 37)), (1, .int a1)] [] m10) (fun m10 => pw_ltA fun x11 hxx11 => pw_iinc (v := x11) [(2, .int x11), (0, .ref (pw_ad G 37)), (1, .int a1)] (pc := 139) dX4_findFirstBreaks_139 0 rfl (by rw [hxx11]; rfl) (by decide) rfl <|
pw_goto (tgt := 39) (pc := 142) dX4_findFirstBreaks_142 (by decide) <|
hn8 x11 m10) (fun k12 hk13 => pw_ifz_ne (tgt := 139) (pc := 58) dX4_findFirstBreaks_58 (by decide) (fun h22 => hk13 m6) (fun h23 => pw_aload_n (pc := 61) dX4_findFirstBreaks_61 1 rfl <|
pw_getR (o := 37) (k := 0) (t := 1) (pw_sh_37) cfX4 rfl (by decide) flX4_20 (pc := 62) dX4_findFirstBreaks_62 <|
pw_getR (o := 1) (k := 5) (t := (1 + 6)) (pw_shTown pw_t1) cfX7 rfl (by decide) flX4_97 (pc := 65) dX4_findFirstBreaks_65 <|
pw_iload_n (pc := 68) dX4_findFirstBreaks_68 0 rfl <|
pw_iald (pw_shTown5 pw_t1) (pc := 69) dX4_findFirstBreaks_69 <|
pw_ltI fun x14 => pw_istore_n [(3, .int x14), (2, .int v5), (0, .ref (pw_ad G 37)), (1, .int a1)] (pc := 70) dX4_findFirstBreaks_70 (by decide) rfl <|
pw_aload_n (pc := 71) dX4_findFirstBreaks_71 2 rfl <|
pw_getR (o := 37) (k := 0) (t := 1) (pw_sh_37) cfX4 rfl (by decide) flX4_20 (pc := 72) dX4_findFirstBreaks_72 <|
pw_getR (o := 1) (k := 6) (t := (1 + 7)) (pw_shTown pw_t1) cfX7 rfl (by decide) flX4_100 (pc := 75) dX4_findFirstBreaks_75 <|
pw_iload_n (pc := 78) dX4_findFirstBreaks_78 1 rfl <|
pw_iald (pw_shTown6 pw_t1) (pc := 79) dX4_findFirstBreaks_79 <|
pw_ltI fun x15 => pw_istore [(4, .int x15), (3, .int x14), (2, .int v5), (0, .ref (pw_ad G 37)), (1, .int a1)] (pc := 80) dX4_findFirstBreaks_80 (by decide) rfl <|
pw_aload_n (pc := 82) dX4_findFirstBreaks_82 3 rfl <|
pw_getR (o := 37) (k := 2) (t := 38) (pw_sh_37) cfX4 rfl (by decide) flX4_11 (pc := 83) dX4_findFirstBreaks_83 <|
pw_iload_n (pc := 86) dX4_findFirstBreaks_86 1 rfl <|
pw_aaldB (pc := 87) dX4_findFirstBreaks_87 fun hs16 =>
pw_iload (pc := 88) dX4_findFirstBreaks_88 0 rfl <|
pw_dup2 (pc := 90) dX4_findFirstBreaks_90 rfl rfl <|
pw_iald (pw_shFB hs16) (pc := 91) dX4_findFirstBreaks_91 <|
pw_aload_n (pc := 92) dX4_findFirstBreaks_92 3 rfl <|
pw_iload_n (pc := 93) dX4_findFirstBreaks_93 2 rfl <|
pw_aload_n (pc := 94) dX4_findFirstBreaks_94 3 rfl <|
pw_getR (o := 37) (k := 0) (t := 1) (pw_sh_37) cfX4 rfl (by decide) flX4_20 (pc := 95) dX4_findFirstBreaks_95 <|
pw_getR (o := 1) (k := 0) (t := (1 + 1)) (pw_shTown pw_t1) cfX7 rfl (by decide) flX4_33 (pc := 98) dX4_findFirstBreaks_98 <|
pw_iload (pc := 101) dX4_findFirstBreaks_101 0 rfl <|
pw_iald (pw_shTown0 pw_t1) (pc := 103) dX4_findFirstBreaks_103 <|
pw_iload_n (pc := 104) dX4_findFirstBreaks_104 4 rfl <|
pw_isub (pc := 105) dX4_findFirstBreaks_105 <|
pw_callV_ri (n := 2) (rest := [.int (m6 (39 + (x14).toNatClampNeg) (x15).toNatClampNeg), .int x15, .ref (pw_ad G (39 + (x14).toNatClampNeg))]) (tX4_breaksTo K.2.1 G v5 ((m6 (1 + 1) (x15).toNatClampNeg) - a1) m6) (pw_sh_37) cfX4 rfl miX4_breaksTo mlX4_103 (pc := 106) dX4_findFirstBreaks_106 rfl rfl (by decide) (Nat.le_of_ble_eq_true rfl) fun y17 =>
pw_iadd (pc := 109) dX4_findFirstBreaks_109 <|
pw_iast (pw_shFB hs16) (pc := 110) dX4_findFirstBreaks_110 <| pw_ltM fun m18 =>
pw_aload_n (pc := 111) dX4_findFirstBreaks_111 3 rfl <|
pw_getR (o := 37) (k := 2) (t := 38) (pw_sh_37) cfX4 rfl (by decide) flX4_11 (pc := 112) dX4_findFirstBreaks_112 <|
pw_iload (pc := 115) dX4_findFirstBreaks_115 0 rfl <|
pw_aaldB (pc := 117) dX4_findFirstBreaks_117 fun hs19 =>
pw_iload_n (pc := 118) dX4_findFirstBreaks_118 1 rfl <|
pw_dup2 (pc := 119) dX4_findFirstBreaks_119 rfl rfl <|
pw_iald (pw_shFB hs19) (pc := 120) dX4_findFirstBreaks_120 <|
pw_aload_n (pc := 121) dX4_findFirstBreaks_121 3 rfl <|
pw_iload_n (pc := 122) dX4_findFirstBreaks_122 2 rfl <|
pw_aload_n (pc := 123) dX4_findFirstBreaks_123 3 rfl <|
pw_getR (o := 37) (k := 0) (t := 1) (pw_sh_37) cfX4 rfl (by decide) flX4_20 (pc := 124) dX4_findFirstBreaks_124 <|
pw_getR (o := 1) (k := 0) (t := (1 + 1)) (pw_shTown pw_t1) cfX7 rfl (by decide) flX4_33 (pc := 127) dX4_findFirstBreaks_127 <|
pw_iload_n (pc := 130) dX4_findFirstBreaks_130 1 rfl <|
pw_iald (pw_shTown0 pw_t1) (pc := 131) dX4_findFirstBreaks_131 <|
pw_iload_n (pc := 132) dX4_findFirstBreaks_132 4 rfl <|
pw_isub (pc := 133) dX4_findFirstBreaks_133 <|
pw_callV_ri (n := 2) (rest := [.int (m18 (39 + (x15).toNatClampNeg) (x14).toNatClampNeg), .int x14, .ref (pw_ad G (39 + (x15).toNatClampNeg))]) (tX4_breaksTo K.2.1 G v5 ((m18 (1 + 1) (x14).toNatClampNeg) - a1) m18) (pw_sh_37) cfX4 rfl miX4_breaksTo mlX4_103 (pc := 134) dX4_findFirstBreaks_134 rfl rfl (by decide) (Nat.le_of_ble_eq_true rfl) fun y20 =>
pw_iadd (pc := 137) dX4_findFirstBreaks_137 <|
pw_iast (pw_shFB hs19) (pc := 138) dX4_findFirstBreaks_138 <| pw_ltM fun m21 =>
pw_sub [2, 3, 4] rfl <| hk13 m21)))) FU (0 : Int32) m2) (fun h39 => pw_iconst (v := 0) (pc := 8) dX4_findFirstBreaks_8 (by decide) <|
pw_istore_n [(3, .int (0 : Int32)), (2, .int v1), (0, .ref (pw_ad G 37)), (1, .int a1)] (pc := 9) dX4_findFirstBreaks_9 (by decide) rfl <|
pw_lp (fun (kk37 : Int32 → pw_Mem → Option pw_Mem) => ∀ (v27 : Int32) (m28 : pw_Mem), PW K G RX4 cX4_findFirstBreaks 5 (none) 3 (pw_MQ K G pw_Wv) (kk37 v27 m28) 10 [(3, .int v27), (2, .int v1), (0, .ref (pw_ad G 37)), (1, .int a1)] [] m28) (fun _ _ => pw_none) (fun nx29 hn30 v27 m28 => pw_iload_n (pc := 10) dX4_findFirstBreaks_10 0 rfl <|
pw_bipush (v := 7) (pc := 11) dX4_findFirstBreaks_11 (by decide) <|
pw_icmp_ge  (tgt := 31) (pc := 13) dX4_findFirstBreaks_13 (by decide) (fun h35 => pw_ltA fun x31 hxx31 => pw_iinc (v := x31) [(2, .int x31), (3, .int v27), (0, .ref (pw_ad G 37)), (1, .int a1)] (pc := 31) dX4_findFirstBreaks_31 1 rfl (by rw [hxx31]; rfl) (by decide) rfl <|
pw_goto (tgt := 2) (pc := 34) dX4_findFirstBreaks_34 (by decide) <|
pw_sub [0, 2, 3] rfl <| hn4 x31 m28) (fun h36 => pw_aload_n (pc := 16) dX4_findFirstBreaks_16 2 rfl <|
pw_getR (o := 37) (k := 2) (t := 38) (pw_sh_37) cfX4 rfl (by decide) flX4_11 (pc := 17) dX4_findFirstBreaks_17 <|
pw_iload_n (pc := 20) dX4_findFirstBreaks_20 1 rfl <|
pw_aaldB (pc := 21) dX4_findFirstBreaks_21 fun hs32 =>
pw_iload_n (pc := 22) dX4_findFirstBreaks_22 0 rfl <|
pw_iconst (v := 0) (pc := 23) dX4_findFirstBreaks_23 (by decide) <|
pw_iast (pw_shFB hs32) (pc := 24) dX4_findFirstBreaks_24 <| pw_ltM fun m33 =>
pw_ltA fun x34 hxx34 => pw_iinc (v := x34) [(3, .int x34), (2, .int v1), (0, .ref (pw_ad G 37)), (1, .int a1)] (pc := 25) dX4_findFirstBreaks_25 0 rfl (by rw [hxx34]; rfl) (by decide) rfl <|
pw_goto (tgt := 10) (pc := 28) dX4_findFirstBreaks_28 (by decide) <|
hn30 x34 m33)) FU (0 : Int32) m2)) FU (0 : Int32) m0)
set_option maxHeartbeats 4000000 in
theorem tX4_snappedIfNext (l : Launch) (G : pw_G) (a1 : Int32) (a2 : Int32) (m0 : pw_Mem) : PMet l G yX4_snappedIfNext cX4_snappedIfNext 5 (some .int) 0 [.ref (pw_ad G 37), .int a1, .int a2] m0 (pw_Ri m0) (fX4_snappedIfNext a1 a2 m0) :=
  pw_met (own := RX4) (l0 := [(0, .ref (pw_ad G 37)), (1, .int a1), (2, .int a2)]) rfl (by decide) rfl (Nat.le_of_ble_eq_true rfl) fun K hK hH => by
  delta fX4_snappedIfNext
  exact (pw_aload_n (pc := 0) dX4_snappedIfNext_0 0 rfl <|
pw_getR (o := 37) (k := 3) (t := 46) (pw_sh_37) cfX4 rfl (by decide) flX4_16 (pc := 1) dX4_snappedIfNext_1 <|
pw_iload_n (pc := 4) dX4_snappedIfNext_4 1 rfl <|
pw_iconst (v := 1) (pc := 5) dX4_snappedIfNext_5 (by decide) <|
pw_iload_n (pc := 6) dX4_snappedIfNext_6 2 rfl <|
pw_ishl (pc := 7) dX4_snappedIfNext_7 <|
pw_ior (pc := 8) dX4_snappedIfNext_8 <|
pw_iald (pw_sh_46) (pc := 9) dX4_snappedIfNext_9 <|
pw_ltI fun x1 => pw_istore_n [(3, .int x1), (0, .ref (pw_ad G 37)), (1, .int a1), (2, .int a2)] (pc := 10) dX4_snappedIfNext_10 (by decide) rfl <|
pw_iconst (v := 0) (pc := 11) dX4_snappedIfNext_11 (by decide) <|
pw_istore [(4, .int (0 : Int32)), (3, .int x1), (0, .ref (pw_ad G 37)), (1, .int a1), (2, .int a2)] (pc := 12) dX4_snappedIfNext_12 (by decide) rfl <|
pw_lp (fun (kk16 : Int32 → Int32 → Option Int32) => ∀ (v2 : Int32) (v3 : Int32), PW K G RX4 cX4_snappedIfNext 5 (some .int) 0 (pw_MQ K G (pw_Ri m0)) (kk16 v2 v3) 14 [(4, .int v3), (3, .int v2), (0, .ref (pw_ad G 37)), (1, .int a1), (2, .int a2)] [] m0) (fun _ _ => pw_none) (fun nx4 hn5 v2 v3 => pw_iload (pc := 14) dX4_snappedIfNext_14 0 rfl <|
pw_aload_n (pc := 16) dX4_snappedIfNext_16 2 rfl <|
pw_getR (o := 37) (k := 0) (t := 1) (pw_sh_37) cfX4 rfl (by decide) flX4_20 (pc := 17) dX4_snappedIfNext_17 <|
pw_getI (o := 1) (k := 11) (pw_shTown pw_t1) cfX7 rfl (by decide) flX4_64 (pc := 20) dX4_snappedIfNext_20 <|
pw_icmp_ge  (tgt := 53) (pc := 23) dX4_snappedIfNext_23 (by decide) (fun h14 => pw_iload_n (pc := 53) dX4_snappedIfNext_53 1 rfl <|
pw_iret (a := v2) (v := v2) hH rfl (pc := 54) dX4_snappedIfNext_54) (fun h15 => pw_iload_n (pc := 26) dX4_snappedIfNext_26 3 rfl <|
pw_iload (pc := 27) dX4_snappedIfNext_27 0 rfl <|
pw_ishr (pc := 29) dX4_snappedIfNext_29 <|
pw_iconst (v := 1) (pc := 30) dX4_snappedIfNext_30 (by decide) <|
pw_iand (pc := 31) dX4_snappedIfNext_31 <|
pw_jn (fun (k8 : Int32 → Option Int32) => ∀ (v6 : Int32), PW K G RX4 cX4_snappedIfNext 5 (some .int) 0 (pw_MQ K G (pw_Ri m0)) (k8 v6) 47 [(4, .int v3), (3, .int v6), (0, .ref (pw_ad G 37)), (1, .int a1), (2, .int a2)] [] m0) (fun v6 => pw_ltA fun x7 hxx7 => pw_iinc (v := x7) [(4, .int x7), (3, .int v6), (0, .ref (pw_ad G 37)), (1, .int a1), (2, .int a2)] (pc := 47) dX4_snappedIfNext_47 0 rfl (by rw [hxx7]; rfl) (by decide) rfl <|
pw_goto (tgt := 14) (pc := 50) dX4_snappedIfNext_50 (by decide) <|
hn5 v6 x7) (fun k8 hk9 => pw_if_ne (a := ((a1 >>> (v3 &&& 31)) &&& (1 : Int32))) (b := 0) (tgt := 47) (pc := 32) dX4_snappedIfNext_32 (by decide) (fun h12 => hk9 v2) (fun h13 => pw_iload_n (pc := 35) dX4_snappedIfNext_35 1 rfl <|
pw_aload_n (pc := 36) dX4_snappedIfNext_36 2 rfl <|
pw_getR (o := 37) (k := 2) (t := 38) (pw_sh_37) cfX4 rfl (by decide) flX4_11 (pc := 37) dX4_snappedIfNext_37 <|
pw_iload_n (pc := 40) dX4_snappedIfNext_40 4 rfl <|
pw_aaldB (pc := 41) dX4_snappedIfNext_41 fun hs10 =>
pw_iload (pc := 42) dX4_snappedIfNext_42 0 rfl <|
pw_iald (pw_shFB hs10) (pc := 44) dX4_snappedIfNext_44 <|
pw_iadd (pc := 45) dX4_snappedIfNext_45 <|
pw_ltI fun x11 => pw_istore_n [(3, .int x11), (4, .int v3), (0, .ref (pw_ad G 37)), (1, .int a1), (2, .int a2)] (pc := 46) dX4_snappedIfNext_46 (by decide) rfl <|
pw_sub [1, 0, 2, 3, 4] rfl <| hk9 x11)))) FU x1 (0 : Int32))
set_option maxHeartbeats 4000000 in
theorem tX4_weighOrders (l : Launch) (G : pw_G)  (m0 : pw_Mem) : PMet l G yX4_weighOrders cX4_weighOrders 5 (none) 4 [.ref (pw_ad G 37)] m0 pw_Wv (fX4_weighOrders m0) :=
  pw_met (own := RX4) (l0 := [(0, .ref (pw_ad G 37))]) rfl (by decide) rfl (Nat.le_of_ble_eq_true rfl) fun K hK hH => by
  delta fX4_weighOrders
  exact (pw_aload_n (pc := 0) dX4_weighOrders_0 0 rfl <|
pw_aload_n (pc := 1) dX4_weighOrders_1 0 rfl <|
pw_callV_ri (n := 0) (rest := [.ref (pw_ad G 37)]) (tX4_meetingPlace K.2.1 G m0) (pw_sh_37) cfX4 rfl miX4_meetingPlace mlX4_70 (pc := 2) dX4_weighOrders_2 rfl rfl (by decide) (Nat.le_of_ble_eq_true rfl) fun y1 =>
pw_callV_wv (n := 1) (rest := []) (tX4_findFirstBreaks K.2.1 G y1 m0) (pw_sh_37) cfX4 rfl miX4_findFirstBreaks mlX4_77 (pc := 5) dX4_weighOrders_5 rfl rfl (by decide) (Nat.le_of_ble_eq_true rfl) fun m2 =>
pw_iconst (v := 1) (pc := 8) dX4_weighOrders_8 (by decide) <|
pw_aload_n (pc := 9) dX4_weighOrders_9 0 rfl <|
pw_getR (o := 37) (k := 0) (t := 1) (pw_sh_37) cfX4 rfl (by decide) flX4_20 (pc := 10) dX4_weighOrders_10 <|
pw_getI (o := 1) (k := 11) (pw_shTown pw_t1) cfX7 rfl (by decide) flX4_64 (pc := 13) dX4_weighOrders_13 <|
pw_ishl (pc := 16) dX4_weighOrders_16 <|
pw_iconst (v := 1) (pc := 17) dX4_weighOrders_17 (by decide) <|
pw_isub (pc := 18) dX4_weighOrders_18 <|
pw_ltI fun x3 => pw_istore_n [(1, .int x3), (0, .ref (pw_ad G 37))] (pc := 19) dX4_weighOrders_19 (by decide) rfl <|
pw_iload_n (pc := 20) dX4_weighOrders_20 0 rfl <|
pw_istore_n [(2, .int x3), (1, .int x3), (0, .ref (pw_ad G 37))] (pc := 21) dX4_weighOrders_21 (by decide) rfl <|
pw_lp (fun (kk32 : Int32 → pw_Mem → Option pw_Mem) => ∀ (v4 : Int32) (m5 : pw_Mem), PW K G RX4 cX4_weighOrders 5 (none) 4 (pw_MQ K G pw_Wv) (kk32 v4 m5) 22 [(2, .int v4), (1, .int x3), (0, .ref (pw_ad G 37))] [] m5) (fun _ _ => pw_none) (fun nx6 hn7 v4 m5 => pw_iload_n (pc := 22) dX4_weighOrders_22 0 rfl <|
pw_if_lt (a := v4) (b := 0) (tgt := 93) (pc := 23) dX4_weighOrders_23 (by decide) (fun h30 => pw_vret hH rfl (pc := 93) dX4_weighOrders_93) (fun h31 => pw_iload_n (pc := 26) dX4_weighOrders_26 0 rfl <|
pw_iload_n (pc := 27) dX4_weighOrders_27 1 rfl <|
pw_jn (fun (k26 : Int32 → Option pw_Mem) => ∀ (w8 : Int32), PW K G RX4 cX4_weighOrders 5 (none) 4 (pw_MQ K G pw_Wv) (k26 w8) 37 [(2, .int v4), (1, .int x3), (0, .ref (pw_ad G 37))] [.int w8] m5) (fun w8 => pw_istore_n [(3, .int w8), (2, .int v4), (1, .int x3), (0, .ref (pw_ad G 37))] (pc := 37) dX4_weighOrders_37 (by decide) rfl <|
pw_iconst (v := 0) (pc := 38) dX4_weighOrders_38 (by decide) <|
pw_istore [(4, .int (0 : Int32)), (3, .int w8), (2, .int v4), (1, .int x3), (0, .ref (pw_ad G 37))] (pc := 39) dX4_weighOrders_39 (by decide) rfl <|
pw_lp (fun (kk25 : Int32 → Int32 → Option pw_Mem) => ∀ (v9 : Int32) (v10 : Int32), PW K G RX4 cX4_weighOrders 5 (none) 4 (pw_MQ K G pw_Wv) (kk25 v9 v10) 41 [(4, .int v10), (3, .int v9), (2, .int v4), (1, .int x3), (0, .ref (pw_ad G 37))] [] m5) (fun _ _ => pw_none) (fun nx11 hn12 v9 v10 => pw_iload (pc := 41) dX4_weighOrders_41 0 rfl <|
pw_aload_n (pc := 43) dX4_weighOrders_43 4 rfl <|
pw_getR (o := 37) (k := 0) (t := 1) (pw_sh_37) cfX4 rfl (by decide) flX4_20 (pc := 44) dX4_weighOrders_44 <|
pw_getI (o := 1) (k := 11) (pw_shTown pw_t1) cfX7 rfl (by decide) flX4_64 (pc := 47) dX4_weighOrders_47 <|
pw_icmp_ge  (tgt := 80) (pc := 50) dX4_weighOrders_50 (by decide) (fun h23 => pw_aload_n (pc := 80) dX4_weighOrders_80 4 rfl <|
pw_getR (o := 37) (k := 3) (t := 46) (pw_sh_37) cfX4 rfl (by decide) flX4_16 (pc := 81) dX4_weighOrders_81 <|
pw_iload_n (pc := 84) dX4_weighOrders_84 2 rfl <|
pw_iload_n (pc := 85) dX4_weighOrders_85 1 rfl <|
pw_iast (pw_sh_46) (pc := 86) dX4_weighOrders_86 <| pw_ltM fun m13 =>
pw_ltA fun x14 hxx14 => pw_iinc (v := x14) [(2, .int x14), (4, .int v10), (3, .int v9), (1, .int x3), (0, .ref (pw_ad G 37))] (pc := 87) dX4_weighOrders_87 2 rfl (by rw [hxx14]; rfl) (by decide) rfl <|
pw_goto (tgt := 22) (pc := 90) dX4_weighOrders_90 (by decide) <|
pw_sub [0, 3, 4] rfl <| hn7 x14 m13) (fun h24 => pw_iload_n (pc := 53) dX4_weighOrders_53 2 rfl <|
pw_iload (pc := 54) dX4_weighOrders_54 0 rfl <|
pw_ishr (pc := 56) dX4_weighOrders_56 <|
pw_iconst (v := 1) (pc := 57) dX4_weighOrders_57 (by decide) <|
pw_iand (pc := 58) dX4_weighOrders_58 <|
pw_jn (fun (k17 : Int32 → Option pw_Mem) => ∀ (v15 : Int32), PW K G RX4 cX4_weighOrders 5 (none) 4 (pw_MQ K G pw_Wv) (k17 v15) 74 [(4, .int v10), (3, .int v15), (2, .int v4), (1, .int x3), (0, .ref (pw_ad G 37))] [] m5) (fun v15 => pw_ltA fun x16 hxx16 => pw_iinc (v := x16) [(4, .int x16), (3, .int v15), (2, .int v4), (1, .int x3), (0, .ref (pw_ad G 37))] (pc := 74) dX4_weighOrders_74 0 rfl (by rw [hxx16]; rfl) (by decide) rfl <|
pw_goto (tgt := 41) (pc := 77) dX4_weighOrders_77 (by decide) <|
hn12 v15 x16) (fun k17 hk18 => pw_if_ne (a := ((v4 >>> (v10 &&& 31)) &&& (1 : Int32))) (b := 0) (tgt := 74) (pc := 59) dX4_weighOrders_59 (by decide) (fun h21 => hk18 v9) (fun h22 => pw_iload_n (pc := 62) dX4_weighOrders_62 1 rfl <|
pw_aload_n (pc := 63) dX4_weighOrders_63 4 rfl <|
pw_iload_n (pc := 64) dX4_weighOrders_64 2 rfl <|
pw_iload (pc := 65) dX4_weighOrders_65 0 rfl <|
pw_callV_ri (n := 2) (rest := [.int v9]) (tX4_snappedIfNext K.2.1 G v4 v10 m5) (pw_sh_37) cfX4 rfl miX4_snappedIfNext mlX4_81 (pc := 67) dX4_weighOrders_67 rfl rfl (by decide) (Nat.le_of_ble_eq_true rfl) fun y19 =>
pw_mmin mlX4_84 ms_min ms_math mc_min (pc := 70) dX4_weighOrders_70 (by decide) (Nat.le_of_ble_eq_true rfl) <|
pw_ltI fun x20 => pw_istore_n [(3, .int x20), (4, .int v10), (2, .int v4), (1, .int x3), (0, .ref (pw_ad G 37))] (pc := 73) dX4_weighOrders_73 (by decide) rfl <|
pw_sub [1, 0, 2, 3, 4] rfl <| hk18 x20)))) FU w8 (0 : Int32)) (fun k26 hk27 => pw_icmp_ne  (tgt := 35) (pc := 28) dX4_weighOrders_28 (by decide) (fun h28 => pw_ldc (v := 1000000) (pc := 35) dX4_weighOrders_35 klX4_52 <|
hk27 (1000000 : Int32)) (fun h29 => pw_iconst (v := 0) (pc := 31) dX4_weighOrders_31 (by decide) <|
pw_goto (tgt := 37) (pc := 32) dX4_weighOrders_32 (by decide) <|
hk27 (0 : Int32))))) FU x3 m2)
set_option maxHeartbeats 4000000 in
theorem tX4_fewestSnapped (l : Launch) (G : pw_G)  (m0 : pw_Mem) : PMet l G yX4_fewestSnapped cX4_fewestSnapped 1 (some .int) 0 [.ref (pw_ad G 37)] m0 (pw_Ri m0) (fX4_fewestSnapped m0) :=
  pw_met (own := RX4) (l0 := [(0, .ref (pw_ad G 37))]) rfl (by decide) rfl (Nat.le_of_ble_eq_true rfl) fun K hK hH => by
  delta fX4_fewestSnapped
  exact (pw_aload_n (pc := 0) dX4_fewestSnapped_0 0 rfl <|
pw_getR (o := 37) (k := 3) (t := 46) (pw_sh_37) cfX4 rfl (by decide) flX4_16 (pc := 1) dX4_fewestSnapped_1 <|
pw_iconst (v := 0) (pc := 4) dX4_fewestSnapped_4 (by decide) <|
pw_iald (pw_sh_46) (pc := 5) dX4_fewestSnapped_5 <|
pw_iret (a := (m0 46 ((0 : Int32)).toNatClampNeg)) (v := (m0 46 ((0 : Int32)).toNatClampNeg)) hH rfl (pc := 6) dX4_fewestSnapped_6)
set_option maxHeartbeats 4000000 in
theorem tX4_nextInOrder (l : Launch) (G : pw_G) (a1 : Int32) (m0 : pw_Mem) : PMet l G yX4_nextInOrder cX4_nextInOrder 3 (some .int) 1 [.ref (pw_ad G 37), .int a1] m0 (pw_Ri m0) (fX4_nextInOrder a1 m0) :=
  pw_met (own := RX4) (l0 := [(0, .ref (pw_ad G 37)), (1, .int a1)]) rfl (by decide) rfl (Nat.le_of_ble_eq_true rfl) fun K hK hH => by
  delta fX4_nextInOrder
  exact (pw_iconst (v := 0) (pc := 0) dX4_nextInOrder_0 (by decide) <|
pw_istore_n [(2, .int (0 : Int32)), (0, .ref (pw_ad G 37)), (1, .int a1)] (pc := 1) dX4_nextInOrder_1 (by decide) rfl <|
pw_lp (fun (kk14 : Int32 → Option Int32) => ∀ (v1 : Int32), PW K G RX4 cX4_nextInOrder 3 (some .int) 1 (pw_MQ K G (pw_Ri m0)) (kk14 v1) 2 [(2, .int v1), (0, .ref (pw_ad G 37)), (1, .int a1)] [] m0) (fun _ => pw_none) (fun nx2 hn3 v1 => pw_iload_n (pc := 2) dX4_nextInOrder_2 0 rfl <|
pw_aload_n (pc := 3) dX4_nextInOrder_3 1 rfl <|
pw_getR (o := 37) (k := 0) (t := 1) (pw_sh_37) cfX4 rfl (by decide) flX4_20 (pc := 4) dX4_nextInOrder_4 <|
pw_getI (o := 1) (k := 11) (pw_shTown pw_t1) cfX7 rfl (by decide) flX4_64 (pc := 7) dX4_nextInOrder_7 <|
pw_icmp_ge  (tgt := 44) (pc := 10) dX4_nextInOrder_10 (by decide) (fun h12 => pw_iconst (v := 0) (pc := 44) dX4_nextInOrder_44 (by decide) <|
pw_iret (a := (0 : Int32)) (v := (0 : Int32)) hH rfl (pc := 45) dX4_nextInOrder_45) (fun h13 => pw_iload_n (pc := 13) dX4_nextInOrder_13 2 rfl <|
pw_iload_n (pc := 14) dX4_nextInOrder_14 0 rfl <|
pw_ishr (pc := 15) dX4_nextInOrder_15 <|
pw_iconst (v := 1) (pc := 16) dX4_nextInOrder_16 (by decide) <|
pw_iand (pc := 17) dX4_nextInOrder_17 <|
pw_jn (fun (k5 : Option Int32) => PW K G RX4 cX4_nextInOrder 3 (some .int) 1 (pw_MQ K G (pw_Ri m0)) k5 38 [(2, .int v1), (0, .ref (pw_ad G 37)), (1, .int a1)] [] m0) (pw_ltA fun x4 hxx4 => pw_iinc (v := x4) [(2, .int x4), (0, .ref (pw_ad G 37)), (1, .int a1)] (pc := 38) dX4_nextInOrder_38 0 rfl (by rw [hxx4]; rfl) (by decide) rfl <|
pw_goto (tgt := 2) (pc := 41) dX4_nextInOrder_41 (by decide) <|
hn3 x4) (fun k5 hk6 => pw_if_ne (a := ((a1 >>> (v1 &&& 31)) &&& (1 : Int32))) (b := 0) (tgt := 38) (pc := 18) dX4_nextInOrder_18 (by decide) (fun h10 => hk6) (fun h11 => pw_aload_n (pc := 21) dX4_nextInOrder_21 1 rfl <|
pw_iload_n (pc := 22) dX4_nextInOrder_22 2 rfl <|
pw_iload_n (pc := 23) dX4_nextInOrder_23 0 rfl <|
pw_callV_ri (n := 2) (rest := []) (tX4_snappedIfNext K.2.1 G a1 v1 m0) (pw_sh_37) cfX4 rfl miX4_snappedIfNext mlX4_81 (pc := 24) dX4_nextInOrder_24 rfl rfl (by decide) (Nat.le_of_ble_eq_true rfl) fun y7 =>
pw_aload_n (pc := 27) dX4_nextInOrder_27 1 rfl <|
pw_getR (o := 37) (k := 3) (t := 46) (pw_sh_37) cfX4 rfl (by decide) flX4_16 (pc := 28) dX4_nextInOrder_28 <|
pw_iload_n (pc := 31) dX4_nextInOrder_31 2 rfl <|
pw_iald (pw_sh_46) (pc := 32) dX4_nextInOrder_32 <|
pw_icmp_ne  (tgt := 38) (pc := 33) dX4_nextInOrder_33 (by decide) (fun h8 => hk6) (fun h9 => pw_iload_n (pc := 36) dX4_nextInOrder_36 0 rfl <|
pw_iret (a := v1) (v := v1) hH rfl (pc := 37) dX4_nextInOrder_37))))) FU (0 : Int32))
set_option maxHeartbeats 4000000 in
theorem tX4_inOrder (l : Launch) (G : pw_G) (a1 : Int32) (m0 : pw_Mem) : PMet l G yX4_inOrder cX4_inOrder 5 (some .int) 2 [.ref (pw_ad G 37), .int a1] m0 (pw_Ri m0) (fX4_inOrder a1 m0) :=
  pw_met (own := RX4) (l0 := [(0, .ref (pw_ad G 37)), (1, .int a1)]) rfl (by decide) rfl (Nat.le_of_ble_eq_true rfl) fun K hK hH => by
  delta fX4_inOrder
  exact (pw_iconst (v := 0) (pc := 0) dX4_inOrder_0 (by decide) <|
pw_istore_n [(2, .int (0 : Int32)), (0, .ref (pw_ad G 37)), (1, .int a1)] (pc := 1) dX4_inOrder_1 (by decide) rfl <|
pw_iconst (v := 0) (pc := 2) dX4_inOrder_2 (by decide) <|
pw_istore_n [(3, .int (0 : Int32)), (2, .int (0 : Int32)), (0, .ref (pw_ad G 37)), (1, .int a1)] (pc := 3) dX4_inOrder_3 (by decide) rfl <|
pw_iconst (v := 0) (pc := 4) dX4_inOrder_4 (by decide) <|
pw_istore [(4, .int (0 : Int32)), (3, .int (0 : Int32)), (2, .int (0 : Int32)), (0, .ref (pw_ad G 37)), (1, .int a1)] (pc := 5) dX4_inOrder_5 (by decide) rfl <|
pw_lp (fun (kk11 : Int32 → Int32 → Int32 → Option Int32) => ∀ (v1 : Int32) (v2 : Int32) (v3 : Int32), PW K G RX4 cX4_inOrder 5 (some .int) 2 (pw_MQ K G (pw_Ri m0)) (kk11 v1 v2 v3) 7 [(4, .int v3), (3, .int v2), (2, .int v1), (0, .ref (pw_ad G 37)), (1, .int a1)] [] m0) (fun _ _ _ => pw_none) (fun nx4 hn5 v1 v2 v3 => pw_iload (pc := 7) dX4_inOrder_7 0 rfl <|
pw_iload_n (pc := 9) dX4_inOrder_9 4 rfl <|
pw_icmp_gt  (tgt := 31) (pc := 10) dX4_inOrder_10 (by decide) (fun h9 => pw_iload_n (pc := 31) dX4_inOrder_31 1 rfl <|
pw_iret (a := v2) (v := v2) hH rfl (pc := 32) dX4_inOrder_32) (fun h10 => pw_aload_n (pc := 13) dX4_inOrder_13 3 rfl <|
pw_iload_n (pc := 14) dX4_inOrder_14 2 rfl <|
pw_callV_ri (n := 1) (rest := []) (tX4_nextInOrder K.2.1 G v1 m0) (pw_sh_37) cfX4 rfl miX4_nextInOrder mlX4_87 (pc := 15) dX4_inOrder_15 rfl rfl (by decide) (Nat.le_of_ble_eq_true rfl) fun y6 =>
pw_istore_n [(3, .int y6), (4, .int v3), (2, .int v1), (0, .ref (pw_ad G 37)), (1, .int a1)] (pc := 18) dX4_inOrder_18 (by decide) rfl <|
pw_iload_n (pc := 19) dX4_inOrder_19 2 rfl <|
pw_iconst (v := 1) (pc := 20) dX4_inOrder_20 (by decide) <|
pw_iload_n (pc := 21) dX4_inOrder_21 0 rfl <|
pw_ishl (pc := 22) dX4_inOrder_22 <|
pw_ior (pc := 23) dX4_inOrder_23 <|
pw_ltI fun x7 => pw_istore_n [(2, .int x7), (3, .int y6), (4, .int v3), (0, .ref (pw_ad G 37)), (1, .int a1)] (pc := 24) dX4_inOrder_24 (by decide) rfl <|
pw_ltA fun x8 hxx8 => pw_iinc (v := x8) [(4, .int x8), (2, .int x7), (3, .int y6), (0, .ref (pw_ad G 37)), (1, .int a1)] (pc := 25) dX4_inOrder_25 2 rfl (by rw [hxx8]; rfl) (by decide) rfl <|
pw_goto (tgt := 7) (pc := 28) dX4_inOrder_28 (by decide) <|
pw_sub [0, 2, 1, 3, 4] rfl <| hn5 x7 y6 x8)) FU (0 : Int32) (0 : Int32) (0 : Int32))
set_option maxHeartbeats 4000000 in
theorem tX4_farthestTwo (l : Launch) (G : pw_G) (a1 : Int32) (m0 : pw_Mem) : PMet l G yX4_farthestTwo cX4_farthestTwo 6 (some .int) 2 [.ref (pw_ad G 37), .int a1] m0 (pw_Ri m0) (fX4_farthestTwo a1 m0) :=
  pw_met (own := RX4) (l0 := [(0, .ref (pw_ad G 37)), (1, .int a1)]) rfl (by decide) rfl (Nat.le_of_ble_eq_true rfl) fun K hK hH => by
  delta fX4_farthestTwo
  exact (pw_bipush (v := -4) (pc := 0) dX4_farthestTwo_0 (by decide) <|
pw_istore_n [(2, .int (-4 : Int32)), (0, .ref (pw_ad G 37)), (1, .int a1)] (pc := 2) dX4_farthestTwo_2 (by decide) rfl <|
pw_bipush (v := -4) (pc := 3) dX4_farthestTwo_3 (by decide) <|
pw_istore_n [(3, .int (-4 : Int32)), (2, .int (-4 : Int32)), (0, .ref (pw_ad G 37)), (1, .int a1)] (pc := 5) dX4_farthestTwo_5 (by decide) rfl <|
pw_iconst (v := 0) (pc := 6) dX4_farthestTwo_6 (by decide) <|
pw_istore [(4, .int (0 : Int32)), (3, .int (-4 : Int32)), (2, .int (-4 : Int32)), (0, .ref (pw_ad G 37)), (1, .int a1)] (pc := 7) dX4_farthestTwo_7 (by decide) rfl <|
pw_lp (fun (kk30 : Int32 → Int32 → Int32 → Option Int32) => ∀ (v1 : Int32) (v2 : Int32) (v3 : Int32), PW K G RX4 cX4_farthestTwo 6 (some .int) 2 (pw_MQ K G (pw_Ri m0)) (kk30 v1 v2 v3) 9 [(4, .int v3), (3, .int v2), (2, .int v1), (0, .ref (pw_ad G 37)), (1, .int a1)] [] m0) (fun _ _ _ => pw_none) (fun nx4 hn5 v1 v2 v3 => pw_iload (pc := 9) dX4_farthestTwo_9 0 rfl <|
pw_aload_n (pc := 11) dX4_farthestTwo_11 3 rfl <|
pw_getR (o := 37) (k := 0) (t := 1) (pw_sh_37) cfX4 rfl (by decide) flX4_20 (pc := 12) dX4_farthestTwo_12 <|
pw_getI (o := 1) (k := 11) (pw_shTown pw_t1) cfX7 rfl (by decide) flX4_64 (pc := 15) dX4_farthestTwo_15 <|
pw_icmp_ge  (tgt := 87) (pc := 18) dX4_farthestTwo_18 (by decide) (fun h28 => pw_iload_n (pc := 87) dX4_farthestTwo_87 4 rfl <|
pw_if_eq (a := a1) (b := 0) (tgt := 95) (pc := 88) dX4_farthestTwo_88 (by decide) (fun h6 => pw_iload_n (pc := 95) dX4_farthestTwo_95 2 rfl <|
pw_iret (a := v1) (v := v1) hH rfl (pc := 96) dX4_farthestTwo_96) (fun h7 => pw_iload_n (pc := 91) dX4_farthestTwo_91 1 rfl <|
pw_goto (tgt := 96) (pc := 92) dX4_farthestTwo_92 (by decide) <|
pw_iret (a := v2) (v := v2) hH rfl (pc := 96) dX4_farthestTwo_96)) (fun h29 => pw_iload (pc := 21) dX4_farthestTwo_21 0 rfl <|
pw_iconst (v := 1) (pc := 23) dX4_farthestTwo_23 (by decide) <|
pw_iadd (pc := 24) dX4_farthestTwo_24 <|
pw_ltI fun x8 => pw_istore [(5, .int x8), (4, .int v3), (3, .int v2), (2, .int v1), (0, .ref (pw_ad G 37)), (1, .int a1)] (pc := 25) dX4_farthestTwo_25 (by decide) rfl <|
pw_lp (fun (kk27 : Int32 → Int32 → Int32 → Option Int32) => ∀ (v9 : Int32) (v10 : Int32) (v11 : Int32), PW K G RX4 cX4_farthestTwo 6 (some .int) 2 (pw_MQ K G (pw_Ri m0)) (kk27 v9 v10 v11) 27 [(5, .int v11), (4, .int v3), (3, .int v10), (2, .int v9), (0, .ref (pw_ad G 37)), (1, .int a1)] [] m0) (fun _ _ _ => pw_none) (fun nx12 hn13 v9 v10 v11 => pw_iload (pc := 27) dX4_farthestTwo_27 0 rfl <|
pw_aload_n (pc := 29) dX4_farthestTwo_29 4 rfl <|
pw_getR (o := 37) (k := 0) (t := 1) (pw_sh_37) cfX4 rfl (by decide) flX4_20 (pc := 30) dX4_farthestTwo_30 <|
pw_getI (o := 1) (k := 11) (pw_shTown pw_t1) cfX7 rfl (by decide) flX4_64 (pc := 33) dX4_farthestTwo_33 <|
pw_icmp_ge  (tgt := 81) (pc := 36) dX4_farthestTwo_36 (by decide) (fun h25 => pw_ltA fun x14 hxx14 => pw_iinc (v := x14) [(4, .int x14), (5, .int v11), (3, .int v10), (2, .int v9), (0, .ref (pw_ad G 37)), (1, .int a1)] (pc := 81) dX4_farthestTwo_81 1 rfl (by rw [hxx14]; rfl) (by decide) rfl <|
pw_goto (tgt := 9) (pc := 84) dX4_farthestTwo_84 (by decide) <|
pw_sub [0, 2, 3, 4, 5] rfl <| hn5 v9 v10 x14) (fun h26 => pw_aload_n (pc := 39) dX4_farthestTwo_39 4 rfl <|
pw_getR (o := 37) (k := 0) (t := 1) (pw_sh_37) cfX4 rfl (by decide) flX4_20 (pc := 40) dX4_farthestTwo_40 <|
pw_iload (pc := 43) dX4_farthestTwo_43 1 rfl <|
pw_iload (pc := 45) dX4_farthestTwo_45 0 rfl <|
pw_callV_ri (n := 2) (rest := []) (tX7_apart K.2.1 G pw_t1 v3 v11 m0) (pw_shTown pw_t1) cfX7 rfl miX7_apart mlX4_124 (pc := 47) dX4_farthestTwo_47 rfl rfl (by decide) (Nat.le_of_ble_eq_true rfl) fun y15 =>
pw_iload_n (pc := 50) dX4_farthestTwo_50 3 rfl <|
pw_jn (fun (k19 : Int32 → Int32 → Option Int32) => ∀ (v16 : Int32) (v17 : Int32), PW K G RX4 cX4_farthestTwo 6 (some .int) 2 (pw_MQ K G (pw_Ri m0)) (k19 v16 v17) 75 [(5, .int v11), (4, .int v3), (3, .int v17), (2, .int v16), (0, .ref (pw_ad G 37)), (1, .int a1)] [] m0) (fun v16 v17 => pw_ltA fun x18 hxx18 => pw_iinc (v := x18) [(5, .int x18), (4, .int v3), (3, .int v17), (2, .int v16), (0, .ref (pw_ad G 37)), (1, .int a1)] (pc := 75) dX4_farthestTwo_75 0 rfl (by rw [hxx18]; rfl) (by decide) rfl <|
pw_goto (tgt := 27) (pc := 78) dX4_farthestTwo_78 (by decide) <|
hn13 v16 v17 x18) (fun k19 hk20 => pw_icmp_le  (tgt := 75) (pc := 51) dX4_farthestTwo_51 (by decide) (fun h23 => hk20 v9 v10) (fun h24 => pw_aload_n (pc := 54) dX4_farthestTwo_54 4 rfl <|
pw_getR (o := 37) (k := 0) (t := 1) (pw_sh_37) cfX4 rfl (by decide) flX4_20 (pc := 55) dX4_farthestTwo_55 <|
pw_iload (pc := 58) dX4_farthestTwo_58 1 rfl <|
pw_iload (pc := 60) dX4_farthestTwo_60 0 rfl <|
pw_callV_ri (n := 2) (rest := []) (tX7_apart K.2.1 G pw_t1 v3 v11 m0) (pw_shTown pw_t1) cfX7 rfl miX7_apart mlX4_124 (pc := 62) dX4_farthestTwo_62 rfl rfl (by decide) (Nat.le_of_ble_eq_true rfl) fun y21 =>
pw_istore_n [(2, .int y21), (5, .int v11), (4, .int v3), (3, .int v10), (0, .ref (pw_ad G 37)), (1, .int a1)] (pc := 65) dX4_farthestTwo_65 (by decide) rfl <|
pw_bipush (v := 10) (pc := 66) dX4_farthestTwo_66 (by decide) <|
pw_iload (pc := 68) dX4_farthestTwo_68 2 rfl <|
pw_imul (pc := 70) dX4_farthestTwo_70 <|
pw_iload (pc := 71) dX4_farthestTwo_71 1 rfl <|
pw_iadd (pc := 73) dX4_farthestTwo_73 <|
pw_ltI fun x22 => pw_istore_n [(3, .int x22), (2, .int y21), (5, .int v11), (4, .int v3), (0, .ref (pw_ad G 37)), (1, .int a1)] (pc := 74) dX4_farthestTwo_74 (by decide) rfl <|
pw_sub [2, 3, 0, 1, 4, 5] rfl <| hk20 y21 x22)))) FU v1 v2 x8)) FU (-4 : Int32) (-4 : Int32) (0 : Int32))
set_option maxHeartbeats 4000000 in
theorem tX6_greatest (l : Launch) (G : pw_G) (a1 : Int32) (m0 : pw_Mem) : PMet l G yX6_greatest cX6_greatest 2 (some .int) 1 [.ref (pw_ad G 48), .int a1] m0 (pw_Ri m0) (fX6_greatest a1 m0) :=
  pw_met (own := RX6) (l0 := [(0, .ref (pw_ad G 48)), (1, .int a1)]) rfl (by decide) rfl (Nat.le_of_ble_eq_true rfl) fun K hK hH => by
  delta fX6_greatest
  exact (pw_aload_n (pc := 0) dX6_greatest_0 0 rfl <|
pw_getR (o := 48) (k := 0) (t := 1) (pw_sh_48) cfX6 rfl (by decide) flX6_15 (pc := 1) dX6_greatest_1 <|
pw_getR (o := 1) (k := 0) (t := (1 + 1)) (pw_shTown pw_t1) cfX7 rfl (by decide) flX6_48 (pc := 4) dX6_greatest_4 <|
pw_aload_n (pc := 7) dX6_greatest_7 0 rfl <|
pw_getR (o := 48) (k := 0) (t := 1) (pw_sh_48) cfX6 rfl (by decide) flX6_15 (pc := 8) dX6_greatest_8 <|
pw_getR (o := 1) (k := 5) (t := (1 + 6)) (pw_shTown pw_t1) cfX7 rfl (by decide) flX6_51 (pc := 11) dX6_greatest_11 <|
pw_iload_n (pc := 14) dX6_greatest_14 1 rfl <|
pw_iald (pw_shTown5 pw_t1) (pc := 15) dX6_greatest_15 <|
pw_iald (pw_shTown0 pw_t1) (pc := 16) dX6_greatest_16 <|
pw_aload_n (pc := 17) dX6_greatest_17 0 rfl <|
pw_getR (o := 48) (k := 0) (t := 1) (pw_sh_48) cfX6 rfl (by decide) flX6_15 (pc := 18) dX6_greatest_18 <|
pw_getR (o := 1) (k := 0) (t := (1 + 1)) (pw_shTown pw_t1) cfX7 rfl (by decide) flX6_48 (pc := 21) dX6_greatest_21 <|
pw_aload_n (pc := 24) dX6_greatest_24 0 rfl <|
pw_getR (o := 48) (k := 0) (t := 1) (pw_sh_48) cfX6 rfl (by decide) flX6_15 (pc := 25) dX6_greatest_25 <|
pw_getR (o := 1) (k := 6) (t := (1 + 7)) (pw_shTown pw_t1) cfX7 rfl (by decide) flX6_54 (pc := 28) dX6_greatest_28 <|
pw_iload_n (pc := 31) dX6_greatest_31 1 rfl <|
pw_iald (pw_shTown6 pw_t1) (pc := 32) dX6_greatest_32 <|
pw_iald (pw_shTown0 pw_t1) (pc := 33) dX6_greatest_33 <|
pw_mmax mlX6_63 ms_max ms_math mc_max (pc := 34) dX6_greatest_34 (by decide) (Nat.le_of_ble_eq_true rfl) <|
pw_iret (a := (jmax (m0 (1 + 1) (m0 (1 + 6) (a1).toNatClampNeg).toNatClampNeg) (m0 (1 + 1) (m0 (1 + 7) (a1).toNatClampNeg).toNatClampNeg))) (v := (jmax (m0 (1 + 1) (m0 (1 + 6) (a1).toNatClampNeg).toNatClampNeg) (m0 (1 + 1) (m0 (1 + 7) (a1).toNatClampNeg).toNatClampNeg))) hH rfl (pc := 37) dX6_greatest_37)
set_option maxHeartbeats 4000000 in
theorem tX6_least (l : Launch) (G : pw_G) (a1 : Int32) (m0 : pw_Mem) : PMet l G yX6_least cX6_least 2 (some .int) 1 [.ref (pw_ad G 48), .int a1] m0 (pw_Ri m0) (fX6_least a1 m0) :=
  pw_met (own := RX6) (l0 := [(0, .ref (pw_ad G 48)), (1, .int a1)]) rfl (by decide) rfl (Nat.le_of_ble_eq_true rfl) fun K hK hH => by
  delta fX6_least
  exact (pw_aload_n (pc := 0) dX6_least_0 0 rfl <|
pw_getR (o := 48) (k := 0) (t := 1) (pw_sh_48) cfX6 rfl (by decide) flX6_15 (pc := 1) dX6_least_1 <|
pw_getR (o := 1) (k := 0) (t := (1 + 1)) (pw_shTown pw_t1) cfX7 rfl (by decide) flX6_48 (pc := 4) dX6_least_4 <|
pw_aload_n (pc := 7) dX6_least_7 0 rfl <|
pw_getR (o := 48) (k := 0) (t := 1) (pw_sh_48) cfX6 rfl (by decide) flX6_15 (pc := 8) dX6_least_8 <|
pw_getR (o := 1) (k := 5) (t := (1 + 6)) (pw_shTown pw_t1) cfX7 rfl (by decide) flX6_51 (pc := 11) dX6_least_11 <|
pw_iload_n (pc := 14) dX6_least_14 1 rfl <|
pw_iald (pw_shTown5 pw_t1) (pc := 15) dX6_least_15 <|
pw_iald (pw_shTown0 pw_t1) (pc := 16) dX6_least_16 <|
pw_aload_n (pc := 17) dX6_least_17 0 rfl <|
pw_getR (o := 48) (k := 0) (t := 1) (pw_sh_48) cfX6 rfl (by decide) flX6_15 (pc := 18) dX6_least_18 <|
pw_getR (o := 1) (k := 0) (t := (1 + 1)) (pw_shTown pw_t1) cfX7 rfl (by decide) flX6_48 (pc := 21) dX6_least_21 <|
pw_aload_n (pc := 24) dX6_least_24 0 rfl <|
pw_getR (o := 48) (k := 0) (t := 1) (pw_sh_48) cfX6 rfl (by decide) flX6_15 (pc := 25) dX6_least_25 <|
pw_getR (o := 1) (k := 6) (t := (1 + 7)) (pw_shTown pw_t1) cfX7 rfl (by decide) flX6_54 (pc := 28) dX6_least_28 <|
pw_iload_n (pc := 31) dX6_least_31 1 rfl <|
pw_iald (pw_shTown6 pw_t1) (pc := 32) dX6_least_32 <|
pw_iald (pw_shTown0 pw_t1) (pc := 33) dX6_least_33 <|
pw_mmin mlX6_69 ms_min ms_math mc_min (pc := 34) dX6_least_34 (by decide) (Nat.le_of_ble_eq_true rfl) <|
pw_iret (a := (jmin (m0 (1 + 1) (m0 (1 + 6) (a1).toNatClampNeg).toNatClampNeg) (m0 (1 + 1) (m0 (1 + 7) (a1).toNatClampNeg).toNatClampNeg))) (v := (jmin (m0 (1 + 1) (m0 (1 + 6) (a1).toNatClampNeg).toNatClampNeg) (m0 (1 + 1) (m0 (1 + 7) (a1).toNatClampNeg).toNatClampNeg))) hH rfl (pc := 37) dX6_least_37)
set_option maxHeartbeats 4000000 in
theorem tX6_reachesInto (l : Launch) (G : pw_G) (a1 : Int32) (a2 : Int32) (m0 : pw_Mem) : PMet l G yX6_reachesInto cX6_reachesInto 5 (some .boolean) 2 [.ref (pw_ad G 48), .int a1, .int a2] m0 (pw_Rz m0) (fX6_reachesInto a1 a2 m0) :=
  pw_met (own := RX6) (l0 := [(0, .ref (pw_ad G 48)), (1, .int a1), (2, .int a2)]) rfl (by decide) rfl (Nat.le_of_ble_eq_true rfl) fun K hK hH => by
  delta fX6_reachesInto
  exact (pw_aload_n (pc := 0) dX6_reachesInto_0 0 rfl <|
pw_getR (o := 48) (k := 0) (t := 1) (pw_sh_48) cfX6 rfl (by decide) flX6_15 (pc := 1) dX6_reachesInto_1 <|
pw_getR (o := 1) (k := 0) (t := (1 + 1)) (pw_shTown pw_t1) cfX7 rfl (by decide) flX6_48 (pc := 4) dX6_reachesInto_4 <|
pw_aload_n (pc := 7) dX6_reachesInto_7 0 rfl <|
pw_getR (o := 48) (k := 0) (t := 1) (pw_sh_48) cfX6 rfl (by decide) flX6_15 (pc := 8) dX6_reachesInto_8 <|
pw_getR (o := 1) (k := 5) (t := (1 + 6)) (pw_shTown pw_t1) cfX7 rfl (by decide) flX6_51 (pc := 11) dX6_reachesInto_11 <|
pw_iload_n (pc := 14) dX6_reachesInto_14 2 rfl <|
pw_iald (pw_shTown5 pw_t1) (pc := 15) dX6_reachesInto_15 <|
pw_iald (pw_shTown0 pw_t1) (pc := 16) dX6_reachesInto_16 <|
pw_ltI fun x1 => pw_istore_n [(3, .int x1), (0, .ref (pw_ad G 48)), (1, .int a1), (2, .int a2)] (pc := 17) dX6_reachesInto_17 (by decide) rfl <|
pw_aload_n (pc := 18) dX6_reachesInto_18 1 rfl <|
pw_getR (o := 48) (k := 0) (t := 1) (pw_sh_48) cfX6 rfl (by decide) flX6_15 (pc := 19) dX6_reachesInto_19 <|
pw_getR (o := 1) (k := 0) (t := (1 + 1)) (pw_shTown pw_t1) cfX7 rfl (by decide) flX6_48 (pc := 22) dX6_reachesInto_22 <|
pw_aload_n (pc := 25) dX6_reachesInto_25 1 rfl <|
pw_getR (o := 48) (k := 0) (t := 1) (pw_sh_48) cfX6 rfl (by decide) flX6_15 (pc := 26) dX6_reachesInto_26 <|
pw_getR (o := 1) (k := 6) (t := (1 + 7)) (pw_shTown pw_t1) cfX7 rfl (by decide) flX6_54 (pc := 29) dX6_reachesInto_29 <|
pw_iload_n (pc := 32) dX6_reachesInto_32 3 rfl <|
pw_iald (pw_shTown6 pw_t1) (pc := 33) dX6_reachesInto_33 <|
pw_iald (pw_shTown0 pw_t1) (pc := 34) dX6_reachesInto_34 <|
pw_ltI fun x2 => pw_istore [(4, .int x2), (3, .int x1), (0, .ref (pw_ad G 48)), (1, .int a1), (2, .int a2)] (pc := 35) dX6_reachesInto_35 (by decide) rfl <|
pw_aload_n (pc := 37) dX6_reachesInto_37 2 rfl <|
pw_iload_n (pc := 38) dX6_reachesInto_38 3 rfl <|
pw_callV_ri (n := 1) (rest := []) (tX6_least K.2.1 G a1 m0) (pw_sh_48) cfX6 rfl miX6_least mlX6_57 (pc := 39) dX6_reachesInto_39 rfl rfl (by decide) (Nat.le_of_ble_eq_true rfl) fun y3 =>
pw_aload_n (pc := 42) dX6_reachesInto_42 2 rfl <|
pw_iload_n (pc := 43) dX6_reachesInto_43 4 rfl <|
pw_callV_ri (n := 1) (rest := [.int y3]) (tX6_least K.2.1 G a2 m0) (pw_sh_48) cfX6 rfl miX6_least mlX6_57 (pc := 44) dX6_reachesInto_44 rfl rfl (by decide) (Nat.le_of_ble_eq_true rfl) fun y4 =>
pw_icmp_ge  (tgt := 81) (pc := 47) dX6_reachesInto_47 (by decide) (fun h12 => pw_iconst (v := 0) (pc := 81) dX6_reachesInto_81 (by decide) <|
pw_zret (b := false) hH rfl (pc := 82) dX6_reachesInto_82) (fun h13 => pw_aload_n (pc := 50) dX6_reachesInto_50 2 rfl <|
pw_iload_n (pc := 51) dX6_reachesInto_51 4 rfl <|
pw_callV_ri (n := 1) (rest := []) (tX6_least K.2.1 G a2 m0) (pw_sh_48) cfX6 rfl miX6_least mlX6_57 (pc := 52) dX6_reachesInto_52 rfl rfl (by decide) (Nat.le_of_ble_eq_true rfl) fun y5 =>
pw_aload_n (pc := 55) dX6_reachesInto_55 2 rfl <|
pw_iload_n (pc := 56) dX6_reachesInto_56 3 rfl <|
pw_callV_ri (n := 1) (rest := [.int y5]) (tX6_greatest K.2.1 G a1 m0) (pw_sh_48) cfX6 rfl miX6_greatest mlX6_60 (pc := 57) dX6_reachesInto_57 rfl rfl (by decide) (Nat.le_of_ble_eq_true rfl) fun y6 =>
pw_icmp_ge  (tgt := 81) (pc := 60) dX6_reachesInto_60 (by decide) (fun h10 => pw_iconst (v := 0) (pc := 81) dX6_reachesInto_81 (by decide) <|
pw_zret (b := false) hH rfl (pc := 82) dX6_reachesInto_82) (fun h11 => pw_aload_n (pc := 63) dX6_reachesInto_63 2 rfl <|
pw_iload_n (pc := 64) dX6_reachesInto_64 3 rfl <|
pw_callV_ri (n := 1) (rest := []) (tX6_greatest K.2.1 G a1 m0) (pw_sh_48) cfX6 rfl miX6_greatest mlX6_60 (pc := 65) dX6_reachesInto_65 rfl rfl (by decide) (Nat.le_of_ble_eq_true rfl) fun y7 =>
pw_iload_n (pc := 68) dX6_reachesInto_68 1 rfl <|
pw_iload (pc := 69) dX6_reachesInto_69 0 rfl <|
pw_mmax mlX6_63 ms_max ms_math mc_max (pc := 71) dX6_reachesInto_71 (by decide) (Nat.le_of_ble_eq_true rfl) <|
pw_icmp_ge  (tgt := 81) (pc := 74) dX6_reachesInto_74 (by decide) (fun h8 => pw_iconst (v := 0) (pc := 81) dX6_reachesInto_81 (by decide) <|
pw_zret (b := false) hH rfl (pc := 82) dX6_reachesInto_82) (fun h9 => pw_iconst (v := 1) (pc := 77) dX6_reachesInto_77 (by decide) <|
pw_goto (tgt := 82) (pc := 78) dX6_reachesInto_78 (by decide) <|
pw_zret (b := true) hH rfl (pc := 82) dX6_reachesInto_82))))
set_option maxHeartbeats 4000000 in
theorem tX6_findCrossed (l : Launch) (G : pw_G)  (m0 : pw_Mem) : PMet l G yX6_findCrossed cX6_findCrossed 3 (none) 3 [.ref (pw_ad G 48)] m0 pw_Wv (fX6_findCrossed m0) :=
  pw_met (own := RX6) (l0 := [(0, .ref (pw_ad G 48))]) rfl (by decide) rfl (Nat.le_of_ble_eq_true rfl) fun K hK hH => by
  delta fX6_findCrossed
  exact (pw_iconst (v := 0) (pc := 0) dX6_findCrossed_0 (by decide) <|
pw_istore_n [(1, .int (0 : Int32)), (0, .ref (pw_ad G 48))] (pc := 1) dX6_findCrossed_1 (by decide) rfl <|
pw_lp (fun (kk35 : Int32 → pw_Mem → Option pw_Mem) => ∀ (v1 : Int32) (m2 : pw_Mem), PW K G RX6 cX6_findCrossed 3 (none) 3 (pw_MQ K G pw_Wv) (kk35 v1 m2) 2 [(1, .int v1), (0, .ref (pw_ad G 48))] [] m2) (fun _ _ => pw_none) (fun nx3 hn4 v1 m2 => pw_iload_n (pc := 2) dX6_findCrossed_2 0 rfl <|
pw_aload_n (pc := 3) dX6_findCrossed_3 1 rfl <|
pw_getR (o := 48) (k := 0) (t := 1) (pw_sh_48) cfX6 rfl (by decide) flX6_15 (pc := 4) dX6_findCrossed_4 <|
pw_getI (o := 1) (k := 12) (pw_shTown pw_t1) cfX7 rfl (by decide) flX6_22 (pc := 7) dX6_findCrossed_7 <|
pw_icmp_ge  (tgt := 97) (pc := 10) dX6_findCrossed_10 (by decide) (fun h33 => pw_vret hH rfl (pc := 97) dX6_findCrossed_97) (fun h34 => pw_aload_n (pc := 13) dX6_findCrossed_13 1 rfl <|
pw_getR (o := 48) (k := 1) (t := 49) (pw_sh_48) cfX6 rfl (by decide) flX6_9 (pc := 14) dX6_findCrossed_14 <|
pw_iload_n (pc := 17) dX6_findCrossed_17 0 rfl <|
pw_iconst (v := 0) (pc := 18) dX6_findCrossed_18 (by decide) <|
pw_iast (pw_sh_49) (pc := 19) dX6_findCrossed_19 <| pw_ltM fun m5 =>
pw_iconst (v := 0) (pc := 20) dX6_findCrossed_20 (by decide) <|
pw_istore_n [(2, .int (0 : Int32)), (1, .int v1), (0, .ref (pw_ad G 48))] (pc := 21) dX6_findCrossed_21 (by decide) rfl <|
pw_lp (fun (kk32 : Int32 → pw_Mem → Option pw_Mem) => ∀ (v6 : Int32) (m7 : pw_Mem), PW K G RX6 cX6_findCrossed 3 (none) 3 (pw_MQ K G pw_Wv) (kk32 v6 m7) 22 [(2, .int v6), (1, .int v1), (0, .ref (pw_ad G 48))] [] m7) (fun _ _ => pw_none) (fun nx8 hn9 v6 m7 => pw_iload_n (pc := 22) dX6_findCrossed_22 0 rfl <|
pw_aload_n (pc := 23) dX6_findCrossed_23 2 rfl <|
pw_getR (o := 48) (k := 0) (t := 1) (pw_sh_48) cfX6 rfl (by decide) flX6_15 (pc := 24) dX6_findCrossed_24 <|
pw_getI (o := 1) (k := 12) (pw_shTown pw_t1) cfX7 rfl (by decide) flX6_22 (pc := 27) dX6_findCrossed_27 <|
pw_icmp_ge  (tgt := 91) (pc := 30) dX6_findCrossed_30 (by decide) (fun h30 => pw_ltA fun x10 hxx10 => pw_iinc (v := x10) [(1, .int x10), (2, .int v6), (0, .ref (pw_ad G 48))] (pc := 91) dX6_findCrossed_91 1 rfl (by rw [hxx10]; rfl) (by decide) rfl <|
pw_goto (tgt := 2) (pc := 94) dX6_findCrossed_94 (by decide) <|
pw_sub [0, 2] rfl <| hn4 x10 m7) (fun h31 => pw_aload_n (pc := 33) dX6_findCrossed_33 2 rfl <|
pw_getR (o := 48) (k := 0) (t := 1) (pw_sh_48) cfX6 rfl (by decide) flX6_15 (pc := 34) dX6_findCrossed_34 <|
pw_iload_n (pc := 37) dX6_findCrossed_37 1 rfl <|
pw_callV_rz (n := 1) (rest := []) (tX7_isSnapped K.2.1 G pw_t1 v1 m7) (pw_shTown pw_t1) cfX7 rfl miX7_isSnapped mlX6_41 (pc := 38) dX6_findCrossed_38 rfl rfl (by decide) (Nat.le_of_ble_eq_true rfl) fun y11 =>
pw_jn (fun (k14 : pw_Mem → Option pw_Mem) => ∀ (m12 : pw_Mem), PW K G RX6 cX6_findCrossed 3 (none) 3 (pw_MQ K G pw_Wv) (k14 m12) 85 [(2, .int v6), (1, .int v1), (0, .ref (pw_ad G 48))] [] m12) (fun m12 => pw_ltA fun x13 hxx13 => pw_iinc (v := x13) [(2, .int x13), (1, .int v1), (0, .ref (pw_ad G 48))] (pc := 85) dX6_findCrossed_85 0 rfl (by rw [hxx13]; rfl) (by decide) rfl <|
pw_goto (tgt := 22) (pc := 88) dX6_findCrossed_88 (by decide) <|
hn9 x13 m12) (fun k14 hk15 => pw_ifz_ne (tgt := 85) (pc := 41) dX6_findCrossed_41 (by decide) (fun h28 => hk15 m7) (fun h29 => pw_aload_n (pc := 44) dX6_findCrossed_44 2 rfl <|
pw_getR (o := 48) (k := 0) (t := 1) (pw_sh_48) cfX6 rfl (by decide) flX6_15 (pc := 45) dX6_findCrossed_45 <|
pw_iload_n (pc := 48) dX6_findCrossed_48 0 rfl <|
pw_callV_rz (n := 1) (rest := []) (tX7_isSnapped K.2.1 G pw_t1 v6 m7) (pw_shTown pw_t1) cfX7 rfl miX7_isSnapped mlX6_41 (pc := 49) dX6_findCrossed_49 rfl rfl (by decide) (Nat.le_of_ble_eq_true rfl) fun y16 =>
pw_ifz_ne (tgt := 85) (pc := 52) dX6_findCrossed_52 (by decide) (fun h26 => hk15 m7) (fun h27 => pw_aload_n (pc := 55) dX6_findCrossed_55 2 rfl <|
pw_iload_n (pc := 56) dX6_findCrossed_56 1 rfl <|
pw_iload_n (pc := 57) dX6_findCrossed_57 0 rfl <|
pw_callV_rz (n := 2) (rest := []) (tX6_reachesInto K.2.1 G v1 v6 m7) (pw_sh_48) cfX6 rfl miX6_reachesInto mlX6_44 (pc := 58) dX6_findCrossed_58 rfl rfl (by decide) (Nat.le_of_ble_eq_true rfl) fun y17 =>
pw_jn (fun (k19 : Option pw_Mem) => PW K G RX6 cX6_findCrossed 3 (none) 3 (pw_MQ K G pw_Wv) k19 73 [(2, .int v6), (1, .int v1), (0, .ref (pw_ad G 48))] [] m7) (pw_aload_n (pc := 73) dX6_findCrossed_73 2 rfl <|
pw_getR (o := 48) (k := 1) (t := 49) (pw_sh_48) cfX6 rfl (by decide) flX6_9 (pc := 74) dX6_findCrossed_74 <|
pw_iload_n (pc := 77) dX6_findCrossed_77 1 rfl <|
pw_dup2 (pc := 78) dX6_findCrossed_78 rfl rfl <|
pw_iald (pw_sh_49) (pc := 79) dX6_findCrossed_79 <|
pw_iconst (v := 1) (pc := 80) dX6_findCrossed_80 (by decide) <|
pw_iload_n (pc := 81) dX6_findCrossed_81 0 rfl <|
pw_ishl (pc := 82) dX6_findCrossed_82 <|
pw_ior (pc := 83) dX6_findCrossed_83 <|
pw_iast (pw_sh_49) (pc := 84) dX6_findCrossed_84 <| pw_ltM fun m18 =>
hk15 m18) (fun k19 hk20 => pw_ifz_ne (tgt := 73) (pc := 61) dX6_findCrossed_61 (by decide) (fun h24 => hk20) (fun h25 => pw_aload_n (pc := 64) dX6_findCrossed_64 2 rfl <|
pw_iload_n (pc := 65) dX6_findCrossed_65 0 rfl <|
pw_iload_n (pc := 66) dX6_findCrossed_66 1 rfl <|
pw_callV_rz (n := 2) (rest := []) (tX6_reachesInto K.2.1 G v6 v1 m7) (pw_sh_48) cfX6 rfl miX6_reachesInto mlX6_44 (pc := 67) dX6_findCrossed_67 rfl rfl (by decide) (Nat.le_of_ble_eq_true rfl) fun y21 =>
pw_ifz_eq (tgt := 85) (pc := 70) dX6_findCrossed_70 (by decide) (fun h22 => hk20) (fun h23 => hk15 m7)))))))) FU (0 : Int32) m5)) FU (0 : Int32) m0)
set_option maxHeartbeats 4000000 in
theorem tX6_howMany (l : Launch) (G : pw_G)  (m0 : pw_Mem) : PMet l G yX6_howMany cX6_howMany 3 (some .int) 4 [.ref (pw_ad G 48)] m0 pw_Wi (fX6_howMany m0) :=
  pw_met (own := RX6) (l0 := [(0, .ref (pw_ad G 48))]) rfl (by decide) rfl (Nat.le_of_ble_eq_true rfl) fun K hK hH => by
  delta fX6_howMany
  exact (pw_aload_n (pc := 0) dX6_howMany_0 0 rfl <|
pw_callV_wv (n := 0) (rest := []) (tX6_findCrossed K.2.1 G m0) (pw_sh_48) cfX6 rfl miX6_findCrossed mlX6_19 (pc := 1) dX6_howMany_1 rfl rfl (by decide) (Nat.le_of_ble_eq_true rfl) fun m1 =>
pw_iconst (v := 0) (pc := 4) dX6_howMany_4 (by decide) <|
pw_istore_n [(1, .int (0 : Int32)), (0, .ref (pw_ad G 48))] (pc := 5) dX6_howMany_5 (by decide) rfl <|
pw_iconst (v := 0) (pc := 6) dX6_howMany_6 (by decide) <|
pw_istore_n [(2, .int (0 : Int32)), (1, .int (0 : Int32)), (0, .ref (pw_ad G 48))] (pc := 7) dX6_howMany_7 (by decide) rfl <|
pw_lp (fun (kk11 : Int32 → Int32 → Option (Int32 × pw_Mem)) => ∀ (v2 : Int32) (v3 : Int32), PW K G RX6 cX6_howMany 3 (some .int) 4 (pw_MQ K G pw_Wi) (kk11 v2 v3) 8 [(2, .int v3), (1, .int v2), (0, .ref (pw_ad G 48))] [] m1) (fun _ _ => pw_none) (fun nx4 hn5 v2 v3 => pw_iload_n (pc := 8) dX6_howMany_8 0 rfl <|
pw_aload_n (pc := 9) dX6_howMany_9 2 rfl <|
pw_getR (o := 48) (k := 0) (t := 1) (pw_sh_48) cfX6 rfl (by decide) flX6_15 (pc := 10) dX6_howMany_10 <|
pw_getI (o := 1) (k := 12) (pw_shTown pw_t1) cfX7 rfl (by decide) flX6_22 (pc := 13) dX6_howMany_13 <|
pw_icmp_ge  (tgt := 37) (pc := 16) dX6_howMany_16 (by decide) (fun h9 => pw_iload_n (pc := 37) dX6_howMany_37 1 rfl <|
pw_iconst (v := 2) (pc := 38) dX6_howMany_38 (by decide) <|
pw_idiv (pc := 39) dX6_howMany_39 (by decide) <|
pw_iret (a := (v2 / (2 : Int32))) (v := (v2 / (2 : Int32), m1)) hH rfl (pc := 40) dX6_howMany_40) (fun h10 => pw_iload_n (pc := 19) dX6_howMany_19 1 rfl <|
pw_aload_n (pc := 20) dX6_howMany_20 2 rfl <|
pw_getR (o := 48) (k := 1) (t := 49) (pw_sh_48) cfX6 rfl (by decide) flX6_9 (pc := 21) dX6_howMany_21 <|
pw_iload_n (pc := 24) dX6_howMany_24 0 rfl <|
pw_iald (pw_sh_49) (pc := 25) dX6_howMany_25 <|
pw_callS_ri (n := 1) (rest := [.int v2]) (tJ6_bitCount_0f7a4 K.2.1 G (m1 49 (v3).toNatClampNeg) m1) miJ6_bitCount_0f7a4 mlX6_28 (pc := 26) dX6_howMany_26 rfl rfl (by decide) (Nat.le_of_ble_eq_true rfl) fun y6 =>
pw_iadd (pc := 29) dX6_howMany_29 <|
pw_ltI fun x7 => pw_istore_n [(1, .int x7), (2, .int v3), (0, .ref (pw_ad G 48))] (pc := 30) dX6_howMany_30 (by decide) rfl <|
pw_ltA fun x8 hxx8 => pw_iinc (v := x8) [(2, .int x8), (1, .int x7), (0, .ref (pw_ad G 48))] (pc := 31) dX6_howMany_31 1 rfl (by rw [hxx8]; rfl) (by decide) rfl <|
pw_goto (tgt := 8) (pc := 34) dX6_howMany_34 (by decide) <|
hn5 x7 x8)) FU (0 : Int32) (0 : Int32))
set_option maxHeartbeats 4000000 in
theorem tX6_firstTwo (l : Launch) (G : pw_G)  (m0 : pw_Mem) : PMet l G yX6_firstTwo cX6_firstTwo 2 (some .int) 4 [.ref (pw_ad G 48)] m0 pw_Wi (fX6_firstTwo m0) :=
  pw_met (own := RX6) (l0 := [(0, .ref (pw_ad G 48))]) rfl (by decide) rfl (Nat.le_of_ble_eq_true rfl) fun K hK hH => by
  delta fX6_firstTwo
  exact (pw_aload_n (pc := 0) dX6_firstTwo_0 0 rfl <|
pw_callV_wv (n := 0) (rest := []) (tX6_findCrossed K.2.1 G m0) (pw_sh_48) cfX6 rfl miX6_findCrossed mlX6_19 (pc := 1) dX6_firstTwo_1 rfl rfl (by decide) (Nat.le_of_ble_eq_true rfl) fun m1 =>
pw_iconst (v := 0) (pc := 4) dX6_firstTwo_4 (by decide) <|
pw_istore_n [(1, .int (0 : Int32)), (0, .ref (pw_ad G 48))] (pc := 5) dX6_firstTwo_5 (by decide) rfl <|
pw_lp (fun (kk11 : Int32 → Option (Int32 × pw_Mem)) => ∀ (v2 : Int32), PW K G RX6 cX6_firstTwo 2 (some .int) 4 (pw_MQ K G pw_Wi) (kk11 v2) 6 [(1, .int v2), (0, .ref (pw_ad G 48))] [] m1) (fun _ => pw_none) (fun nx3 hn4 v2 => pw_iload_n (pc := 6) dX6_firstTwo_6 0 rfl <|
pw_aload_n (pc := 7) dX6_firstTwo_7 1 rfl <|
pw_getR (o := 48) (k := 0) (t := 1) (pw_sh_48) cfX6 rfl (by decide) flX6_15 (pc := 8) dX6_firstTwo_8 <|
pw_getI (o := 1) (k := 12) (pw_shTown pw_t1) cfX7 rfl (by decide) flX6_22 (pc := 11) dX6_firstTwo_11 <|
pw_icmp_ge  (tgt := 47) (pc := 14) dX6_firstTwo_14 (by decide) (fun h9 => pw_bipush (v := -4) (pc := 47) dX6_firstTwo_47 (by decide) <|
pw_iret (a := (-4 : Int32)) (v := ((-4 : Int32), m1)) hH rfl (pc := 49) dX6_firstTwo_49) (fun h10 => pw_aload_n (pc := 17) dX6_firstTwo_17 1 rfl <|
pw_getR (o := 48) (k := 1) (t := 49) (pw_sh_48) cfX6 rfl (by decide) flX6_9 (pc := 18) dX6_firstTwo_18 <|
pw_iload_n (pc := 21) dX6_firstTwo_21 0 rfl <|
pw_iald (pw_sh_49) (pc := 22) dX6_firstTwo_22 <|
pw_if_eq (a := (m1 49 (v2).toNatClampNeg)) (b := 0) (tgt := 41) (pc := 23) dX6_firstTwo_23 (by decide) (fun h7 => pw_ltA fun x5 hxx5 => pw_iinc (v := x5) [(1, .int x5), (0, .ref (pw_ad G 48))] (pc := 41) dX6_firstTwo_41 0 rfl (by rw [hxx5]; rfl) (by decide) rfl <|
pw_goto (tgt := 6) (pc := 44) dX6_firstTwo_44 (by decide) <|
hn4 x5) (fun h8 => pw_bipush (v := 10) (pc := 26) dX6_firstTwo_26 (by decide) <|
pw_iload_n (pc := 28) dX6_firstTwo_28 0 rfl <|
pw_imul (pc := 29) dX6_firstTwo_29 <|
pw_aload_n (pc := 30) dX6_firstTwo_30 1 rfl <|
pw_getR (o := 48) (k := 1) (t := 49) (pw_sh_48) cfX6 rfl (by decide) flX6_9 (pc := 31) dX6_firstTwo_31 <|
pw_iload_n (pc := 34) dX6_firstTwo_34 0 rfl <|
pw_iald (pw_sh_49) (pc := 35) dX6_firstTwo_35 <|
pw_callN_ri (n := 1) (rest := [.int ((10 : Int32) * v2)]) (tX10_lowestOf K.2.1 G (m1 49 (v2).toNatClampNeg) m1) miX10_lowestOf mlX6_34 (pc := 36) dX6_firstTwo_36 rfl rfl (by decide) (Nat.le_of_ble_eq_true rfl) fun y6 =>
pw_iadd (pc := 39) dX6_firstTwo_39 <|
pw_iret (a := (((10 : Int32) * v2) + y6)) (v := (((10 : Int32) * v2) + y6, m1)) hH rfl (pc := 40) dX6_firstTwo_40))) FU (0 : Int32))
set_option maxHeartbeats 4000000 in
theorem tX6_isUntangled (l : Launch) (G : pw_G) (a1 : Int32) (m0 : pw_Mem) : PMet l G yX6_isUntangled cX6_isUntangled 3 (some .boolean) 0 [.ref (pw_ad G 48), .int a1] m0 (pw_Rz m0) (fX6_isUntangled a1 m0) :=
  pw_met (own := RX6) (l0 := [(0, .ref (pw_ad G 48)), (1, .int a1)]) rfl (by decide) rfl (Nat.le_of_ble_eq_true rfl) fun K hK hH => by
  delta fX6_isUntangled
  exact (pw_iconst (v := 0) (pc := 0) dX6_isUntangled_0 (by decide) <|
pw_istore_n [(2, .int (0 : Int32)), (0, .ref (pw_ad G 48)), (1, .int a1)] (pc := 1) dX6_isUntangled_1 (by decide) rfl <|
pw_lp (fun (kk13 : Int32 → Option Bool) => ∀ (v1 : Int32), PW K G RX6 cX6_isUntangled 3 (some .boolean) 0 (pw_MQ K G (pw_Rz m0)) (kk13 v1) 2 [(2, .int v1), (0, .ref (pw_ad G 48)), (1, .int a1)] [] m0) (fun _ => pw_none) (fun nx2 hn3 v1 => pw_iload_n (pc := 2) dX6_isUntangled_2 0 rfl <|
pw_aload_n (pc := 3) dX6_isUntangled_3 1 rfl <|
pw_getR (o := 48) (k := 0) (t := 1) (pw_sh_48) cfX6 rfl (by decide) flX6_15 (pc := 4) dX6_isUntangled_4 <|
pw_getI (o := 1) (k := 12) (pw_shTown pw_t1) cfX7 rfl (by decide) flX6_22 (pc := 7) dX6_isUntangled_7 <|
pw_icmp_ge  (tgt := 42) (pc := 10) dX6_isUntangled_10 (by decide) (fun h11 => pw_iconst (v := 1) (pc := 42) dX6_isUntangled_42 (by decide) <|
pw_zret (b := true) hH rfl (pc := 43) dX6_isUntangled_43) (fun h12 => pw_iload_n (pc := 13) dX6_isUntangled_13 2 rfl <|
pw_iload_n (pc := 14) dX6_isUntangled_14 0 rfl <|
pw_ishr (pc := 15) dX6_isUntangled_15 <|
pw_iconst (v := 1) (pc := 16) dX6_isUntangled_16 (by decide) <|
pw_iand (pc := 17) dX6_isUntangled_17 <|
pw_jn (fun (k5 : Option Bool) => PW K G RX6 cX6_isUntangled 3 (some .boolean) 0 (pw_MQ K G (pw_Rz m0)) k5 36 [(2, .int v1), (0, .ref (pw_ad G 48)), (1, .int a1)] [] m0) (pw_ltA fun x4 hxx4 => pw_iinc (v := x4) [(2, .int x4), (0, .ref (pw_ad G 48)), (1, .int a1)] (pc := 36) dX6_isUntangled_36 0 rfl (by rw [hxx4]; rfl) (by decide) rfl <|
pw_goto (tgt := 2) (pc := 39) dX6_isUntangled_39 (by decide) <|
hn3 x4) (fun k5 hk6 => pw_if_ne (a := ((a1 >>> (v1 &&& 31)) &&& (1 : Int32))) (b := 0) (tgt := 36) (pc := 18) dX6_isUntangled_18 (by decide) (fun h9 => hk6) (fun h10 => pw_aload_n (pc := 21) dX6_isUntangled_21 1 rfl <|
pw_getR (o := 48) (k := 1) (t := 49) (pw_sh_48) cfX6 rfl (by decide) flX6_9 (pc := 22) dX6_isUntangled_22 <|
pw_iload_n (pc := 25) dX6_isUntangled_25 0 rfl <|
pw_iald (pw_sh_49) (pc := 26) dX6_isUntangled_26 <|
pw_iload_n (pc := 27) dX6_isUntangled_27 2 rfl <|
pw_iconst (v := -1) (pc := 28) dX6_isUntangled_28 (by decide) <|
pw_ixor (pc := 29) dX6_isUntangled_29 <|
pw_iand (pc := 30) dX6_isUntangled_30 <|
pw_if_eq (a := ((m0 49 (v1).toNatClampNeg) &&& (a1 ^^^ (-1 : Int32)))) (b := 0) (tgt := 36) (pc := 31) dX6_isUntangled_31 (by decide) (fun h7 => hk6) (fun h8 => pw_iconst (v := 0) (pc := 34) dX6_isUntangled_34 (by decide) <|
pw_zret (b := false) hH rfl (pc := 35) dX6_isUntangled_35))))) FU (0 : Int32))
set_option maxHeartbeats 4000000 in
theorem tX6_fewestInTheWay (l : Launch) (G : pw_G)  (m0 : pw_Mem) : PMet l G yX6_fewestInTheWay cX6_fewestInTheWay 4 (some .int) 4 [.ref (pw_ad G 48)] m0 pw_Wi (fX6_fewestInTheWay m0) :=
  pw_met (own := RX6) (l0 := [(0, .ref (pw_ad G 48))]) rfl (by decide) rfl (Nat.le_of_ble_eq_true rfl) fun K hK hH => by
  delta fX6_fewestInTheWay
  exact (pw_aload_n (pc := 0) dX6_fewestInTheWay_0 0 rfl <|
pw_callV_wv (n := 0) (rest := []) (tX6_findCrossed K.2.1 G m0) (pw_sh_48) cfX6 rfl miX6_findCrossed mlX6_19 (pc := 1) dX6_fewestInTheWay_1 rfl rfl (by decide) (Nat.le_of_ble_eq_true rfl) fun m1 =>
pw_iconst (v := 1) (pc := 4) dX6_fewestInTheWay_4 (by decide) <|
pw_aload_n (pc := 5) dX6_fewestInTheWay_5 0 rfl <|
pw_getR (o := 48) (k := 0) (t := 1) (pw_sh_48) cfX6 rfl (by decide) flX6_15 (pc := 6) dX6_fewestInTheWay_6 <|
pw_getI (o := 1) (k := 12) (pw_shTown pw_t1) cfX7 rfl (by decide) flX6_22 (pc := 9) dX6_fewestInTheWay_9 <|
pw_ishl (pc := 12) dX6_fewestInTheWay_12 <|
pw_ltI fun x2 => pw_istore_n [(1, .int x2), (0, .ref (pw_ad G 48))] (pc := 13) dX6_fewestInTheWay_13 (by decide) rfl <|
pw_iload_n (pc := 14) dX6_fewestInTheWay_14 0 rfl <|
pw_iconst (v := 1) (pc := 15) dX6_fewestInTheWay_15 (by decide) <|
pw_isub (pc := 16) dX6_fewestInTheWay_16 <|
pw_ltI fun x3 => pw_istore_n [(2, .int x3), (1, .int x2), (0, .ref (pw_ad G 48))] (pc := 17) dX6_fewestInTheWay_17 (by decide) rfl <|
pw_iconst (v := 0) (pc := 18) dX6_fewestInTheWay_18 (by decide) <|
pw_istore_n [(3, .int (0 : Int32)), (2, .int x3), (1, .int x2), (0, .ref (pw_ad G 48))] (pc := 19) dX6_fewestInTheWay_19 (by decide) rfl <|
pw_lp (fun (kk21 : Int32 → Int32 → Option (Int32 × pw_Mem)) => ∀ (v4 : Int32) (v5 : Int32), PW K G RX6 cX6_fewestInTheWay 4 (some .int) 4 (pw_MQ K G pw_Wi) (kk21 v4 v5) 20 [(3, .int v5), (2, .int v4), (1, .int x2), (0, .ref (pw_ad G 48))] [] m1) (fun _ _ => pw_none) (fun nx6 hn7 v4 v5 => pw_iload_n (pc := 20) dX6_fewestInTheWay_20 0 rfl <|
pw_iload_n (pc := 21) dX6_fewestInTheWay_21 2 rfl <|
pw_icmp_ge  (tgt := 52) (pc := 22) dX6_fewestInTheWay_22 (by decide) (fun h19 => pw_iload_n (pc := 52) dX6_fewestInTheWay_52 1 rfl <|
pw_iret (a := v4) (v := (v4, m1)) hH rfl (pc := 53) dX6_fewestInTheWay_53) (fun h20 => pw_iload_n (pc := 25) dX6_fewestInTheWay_25 0 rfl <|
pw_callS_ri (n := 1) (rest := []) (tJ6_bitCount_0f7a4 K.2.1 G v5 m1) miJ6_bitCount_0f7a4 mlX6_28 (pc := 26) dX6_fewestInTheWay_26 rfl rfl (by decide) (Nat.le_of_ble_eq_true rfl) fun y8 =>
pw_iload_n (pc := 29) dX6_fewestInTheWay_29 1 rfl <|
pw_callS_ri (n := 1) (rest := [.int y8]) (tJ6_bitCount_0f7a4 K.2.1 G v4 m1) miJ6_bitCount_0f7a4 mlX6_28 (pc := 30) dX6_fewestInTheWay_30 rfl rfl (by decide) (Nat.le_of_ble_eq_true rfl) fun y9 =>
pw_jn (fun (k12 : Int32 → Option (Int32 × pw_Mem)) => ∀ (v10 : Int32), PW K G RX6 cX6_fewestInTheWay 4 (some .int) 4 (pw_MQ K G pw_Wi) (k12 v10) 46 [(3, .int v5), (2, .int v10), (1, .int x2), (0, .ref (pw_ad G 48))] [] m1) (fun v10 => pw_ltA fun x11 hxx11 => pw_iinc (v := x11) [(3, .int x11), (2, .int v10), (1, .int x2), (0, .ref (pw_ad G 48))] (pc := 46) dX6_fewestInTheWay_46 0 rfl (by rw [hxx11]; rfl) (by decide) rfl <|
pw_goto (tgt := 20) (pc := 49) dX6_fewestInTheWay_49 (by decide) <|
hn7 v10 x11) (fun k12 hk13 => pw_icmp_ge  (tgt := 46) (pc := 33) dX6_fewestInTheWay_33 (by decide) (fun h17 => hk13 v4) (fun h18 => pw_aload_n (pc := 36) dX6_fewestInTheWay_36 3 rfl <|
pw_iload_n (pc := 37) dX6_fewestInTheWay_37 0 rfl <|
pw_callV_rz (n := 1) (rest := []) (tX6_isUntangled K.2.1 G v5 m1) (pw_sh_48) cfX6 rfl miX6_isUntangled mlX6_37 (pc := 38) dX6_fewestInTheWay_38 rfl rfl (by decide) (Nat.le_of_ble_eq_true rfl) fun y14 =>
pw_ifz_eq (tgt := 46) (pc := 41) dX6_fewestInTheWay_41 (by decide) (fun h15 => pw_iload_n (pc := 44) dX6_fewestInTheWay_44 0 rfl <|
pw_istore_n [(2, .int v5), (3, .int v5), (1, .int x2), (0, .ref (pw_ad G 48))] (pc := 45) dX6_fewestInTheWay_45 (by decide) rfl <|
pw_sub [1, 0, 2, 3] rfl <| hk13 v5) (fun h16 => hk13 v4))))) FU x3 (0 : Int32))
set_option maxHeartbeats 4000000 in
theorem tX8_digitsBehind (l : Launch) (G : pw_G) (a1 : Int32) (m0 : pw_Mem) : PMet l G yX8_digitsBehind cX8_digitsBehind 1 (some .int) 0 [.int a1] m0 (pw_Ri m0) (fX8_digitsBehind a1 m0) :=
  pw_met (own := RX8) (l0 := [(0, .int a1)]) rfl (by decide) rfl (Nat.le_of_ble_eq_true rfl) fun K hK hH => by
  delta fX8_digitsBehind
  exact (pw_iload_n (pc := 0) dX8_digitsBehind_0 0 rfl <|
pw_if (fun h1 => pw_lk (off := 61) (tgt := 62) (pc := 1) dX8_digitsBehind_1 (by decide) (by rw [h1] <;> rfl) (by decide) <|
pw_iconst (v := 4) (pc := 62) dX8_digitsBehind_62 (by decide) <|
pw_iret (a := (4 : Int32)) (v := (4 : Int32)) hH rfl (pc := 63) dX8_digitsBehind_63) (fun h1 => pw_if (fun h2 => pw_lk (off := 65) (tgt := 66) (pc := 1) dX8_digitsBehind_1 (by decide) (by rw [h2] <;> rfl) (by decide) <|
pw_iconst (v := 1) (pc := 66) dX8_digitsBehind_66 (by decide) <|
pw_iret (a := (1 : Int32)) (v := (1 : Int32)) hH rfl (pc := 67) dX8_digitsBehind_67) (fun h2 => pw_if (fun h3 => pw_lk (off := 63) (tgt := 64) (pc := 1) dX8_digitsBehind_1 (by decide) (by rw [h3] <;> rfl) (by decide) <|
pw_iconst (v := 3) (pc := 64) dX8_digitsBehind_64 (by decide) <|
pw_iret (a := (3 : Int32)) (v := (3 : Int32)) hH rfl (pc := 65) dX8_digitsBehind_65) (fun h3 => pw_if (fun h4 => pw_lk (off := 59) (tgt := 60) (pc := 1) dX8_digitsBehind_1 (by decide) (by rw [h4] <;> rfl) (by decide) <|
pw_iconst (v := 2) (pc := 60) dX8_digitsBehind_60 (by decide) <|
pw_iret (a := (2 : Int32)) (v := (2 : Int32)) hH rfl (pc := 61) dX8_digitsBehind_61) (fun h4 => pw_if (fun h5 => pw_lk (off := 69) (tgt := 70) (pc := 1) dX8_digitsBehind_1 (by decide) (by rw [h5] <;> rfl) (by decide) <|
pw_iconst (v := 1) (pc := 70) dX8_digitsBehind_70 (by decide) <|
pw_iret (a := (1 : Int32)) (v := (1 : Int32)) hH rfl (pc := 71) dX8_digitsBehind_71) (fun h5 => pw_if (fun h6 => pw_lk (off := 67) (tgt := 68) (pc := 1) dX8_digitsBehind_1 (by decide) (by rw [h6] <;> rfl) (by decide) <|
pw_iconst (v := 2) (pc := 68) dX8_digitsBehind_68 (by decide) <|
pw_iret (a := (2 : Int32)) (v := (2 : Int32)) hH rfl (pc := 69) dX8_digitsBehind_69) (fun h6 => pw_lk (off := 71) (tgt := 72) (pc := 1) dX8_digitsBehind_1 (by decide) ((lv_osw h1 (a := 98) rfl).trans ((lv_osw h2 (a := 99) rfl).trans ((lv_osw h3 (a := 103) rfl).trans ((lv_osw h4 (a := 112) rfl).trans ((lv_osw h5 (a := 120) rfl).trans ((lv_osw h6 (a := 121) rfl).trans rfl)))))) (by decide) <|
pw_iconst (v := 0) (pc := 72) dX8_digitsBehind_72 (by decide) <|
pw_iret (a := (0 : Int32)) (v := (0 : Int32)) hH rfl (pc := 73) dX8_digitsBehind_73)))))))
set_option maxHeartbeats 4000000 in
theorem tX8_formFault (l : Launch) (G : pw_G) {o1 : Nat} (ho1 : pw_isShelf o1) (m0 : pw_Mem) : PMet l G yX8_formFault cX8_formFault 5 (some .int) 2 [.ref (pw_ad G o1)] m0 (pw_Ri m0) (fX8_formFault o1 m0) :=
  pw_met (own := RX8) (l0 := [(0, .ref (pw_ad G o1))]) rfl (by decide) rfl (Nat.le_of_ble_eq_true rfl) fun K hK hH => by
  delta fX8_formFault
  exact (pw_iconst (v := 1) (pc := 0) dX8_formFault_0 (by decide) <|
pw_istore_n [(1, .int (1 : Int32)), (0, .ref (pw_ad G o1))] (pc := 1) dX8_formFault_1 (by decide) rfl <|
pw_iconst (v := 0) (pc := 2) dX8_formFault_2 (by decide) <|
pw_istore_n [(2, .int (0 : Int32)), (1, .int (1 : Int32)), (0, .ref (pw_ad G o1))] (pc := 3) dX8_formFault_3 (by decide) rfl <|
pw_iconst (v := 0) (pc := 4) dX8_formFault_4 (by decide) <|
pw_istore_n [(3, .int (0 : Int32)), (2, .int (0 : Int32)), (1, .int (1 : Int32)), (0, .ref (pw_ad G o1))] (pc := 5) dX8_formFault_5 (by decide) rfl <|
pw_lp (fun (kk32 : Int32 → Int32 → Int32 → Option Int32) => ∀ (v1 : Int32) (v2 : Int32) (v3 : Int32), PW K G RX8 cX8_formFault 5 (some .int) 2 (pw_MQ K G (pw_Ri m0)) (kk32 v1 v2 v3) 6 [(3, .int v3), (2, .int v2), (1, .int v1), (0, .ref (pw_ad G o1))] [] m0) (fun _ _ _ => pw_none) (fun nx4 hn5 v1 v2 v3 => pw_iload_n (pc := 6) dX8_formFault_6 0 rfl <|
pw_aload_n (pc := 7) dX8_formFault_7 3 rfl <|
pw_getI (o := o1) (k := 5) (pw_shShelf ho1) cfX5 rfl (by decide) flX8_9 (pc := 8) dX8_formFault_8 <|
pw_icmp_ge  (tgt := 85) (pc := 11) dX8_formFault_11 (by decide) (fun h30 => pw_iload_n (pc := 85) dX8_formFault_85 2 rfl <|
pw_if_eq (a := v1) (b := 0) (tgt := 100) (pc := 86) dX8_formFault_86 (by decide) (fun h8 => pw_aload_n (pc := 100) dX8_formFault_100 3 rfl <|
pw_getI (o := o1) (k := 5) (pw_shShelf ho1) cfX5 rfl (by decide) flX8_9 (pc := 101) dX8_formFault_101 <|
pw_iret (a := (m0 o1 5)) (v := (m0 o1 5)) hH rfl (pc := 104) dX8_formFault_104) (fun h9 => pw_aload_n (pc := 89) dX8_formFault_89 3 rfl <|
pw_getI (o := o1) (k := 5) (pw_shShelf ho1) cfX5 rfl (by decide) flX8_9 (pc := 90) dX8_formFault_90 <|
pw_if_le (a := (m0 o1 5)) (b := 0) (tgt := 100) (pc := 93) dX8_formFault_93 (by decide) (fun h6 => pw_aload_n (pc := 100) dX8_formFault_100 3 rfl <|
pw_getI (o := o1) (k := 5) (pw_shShelf ho1) cfX5 rfl (by decide) flX8_9 (pc := 101) dX8_formFault_101 <|
pw_iret (a := (m0 o1 5)) (v := (m0 o1 5)) hH rfl (pc := 104) dX8_formFault_104) (fun h7 => pw_iconst (v := -1) (pc := 96) dX8_formFault_96 (by decide) <|
pw_goto (tgt := 104) (pc := 97) dX8_formFault_97 (by decide) <|
pw_iret (a := (-1 : Int32)) (v := (-1 : Int32)) hH rfl (pc := 104) dX8_formFault_104))) (fun h31 => pw_aload_n (pc := 14) dX8_formFault_14 3 rfl <|
pw_iload_n (pc := 15) dX8_formFault_15 0 rfl <|
pw_callV_ri (n := 1) (rest := []) (tX5_at K.2.1 G ho1 v3 m0) (pw_shShelf ho1) cfX5 rfl miX5_at mlX8_15 (pc := 16) dX8_formFault_16 rfl rfl (by decide) (Nat.le_of_ble_eq_true rfl) fun y10 =>
pw_istore [(4, .int y10), (3, .int v3), (2, .int v2), (1, .int v1), (0, .ref (pw_ad G o1))] (pc := 19) dX8_formFault_19 (by decide) rfl <|
pw_iload_n (pc := 21) dX8_formFault_21 3 rfl <|
pw_jn (fun (k14 : Int32 → Int32 → Option Int32) => ∀ (v11 : Int32) (v12 : Int32), PW K G RX8 cX8_formFault 5 (some .int) 2 (pw_MQ K G (pw_Ri m0)) (k14 v11 v12) 79 [(3, .int v3), (2, .int v12), (1, .int v11), (0, .ref (pw_ad G o1))] [] m0) (fun v11 v12 => pw_ltA fun x13 hxx13 => pw_iinc (v := x13) [(3, .int x13), (2, .int v12), (1, .int v11), (0, .ref (pw_ad G o1))] (pc := 79) dX8_formFault_79 0 rfl (by rw [hxx13]; rfl) (by decide) rfl <|
pw_goto (tgt := 6) (pc := 82) dX8_formFault_82 (by decide) <|
hn5 v11 v12 x13) (fun k14 hk15 => pw_if_eq (a := v1) (b := 0) (tgt := 42) (pc := 22) dX8_formFault_22 (by decide) (fun h28 => pw_iload_n (pc := 42) dX8_formFault_42 2 rfl <|
pw_if_le (a := v2) (b := 0) (tgt := 68) (pc := 43) dX8_formFault_43 (by decide) (fun h23 => pw_iload (pc := 68) dX8_formFault_68 0 rfl <|
pw_bipush (v := 59) (pc := 70) dX8_formFault_70 (by decide) <|
pw_icmp_eq  (tgt := 77) (pc := 72) dX8_formFault_72 (by decide) (fun h16 => pw_iconst (v := 1) (pc := 77) dX8_formFault_77 (by decide) <|
pw_istore_n [(1, .int (1 : Int32)), (4, .int y10), (3, .int v3), (2, .int v2), (0, .ref (pw_ad G o1))] (pc := 78) dX8_formFault_78 (by decide) rfl <|
pw_sub [2, 3, 0, 4] rfl <| hk15 (1 : Int32) v2) (fun h17 => pw_iload_n (pc := 75) dX8_formFault_75 1 rfl <|
pw_iret (a := v3) (v := v3) hH rfl (pc := 76) dX8_formFault_76)) (fun h24 => pw_iload (pc := 46) dX8_formFault_46 0 rfl <|
pw_bipush (v := 48) (pc := 48) dX8_formFault_48 (by decide) <|
pw_icmp_lt  (tgt := 60) (pc := 50) dX8_formFault_50 (by decide) (fun h21 => pw_iload_n (pc := 60) dX8_formFault_60 1 rfl <|
pw_iret (a := v3) (v := v3) hH rfl (pc := 61) dX8_formFault_61) (fun h22 => pw_iload (pc := 53) dX8_formFault_53 0 rfl <|
pw_bipush (v := 57) (pc := 55) dX8_formFault_55 (by decide) <|
pw_icmp_le  (tgt := 62) (pc := 57) dX8_formFault_57 (by decide) (fun h19 => pw_ltA fun x18 hxx18 => pw_iinc (v := x18) [(2, .int x18), (4, .int y10), (3, .int v3), (1, .int v1), (0, .ref (pw_ad G o1))] (pc := 62) dX8_formFault_62 2 rfl (by rw [hxx18]; rfl) (by decide) rfl <|
pw_goto (tgt := 79) (pc := 65) dX8_formFault_65 (by decide) <|
pw_sub [2, 0, 3, 4] rfl <| hk15 v1 x18) (fun h20 => pw_iload_n (pc := 60) dX8_formFault_60 1 rfl <|
pw_iret (a := v3) (v := v3) hH rfl (pc := 61) dX8_formFault_61)))) (fun h29 => pw_iload (pc := 25) dX8_formFault_25 0 rfl <|
pw_callS_ri (n := 1) (rest := []) (tX8_digitsBehind K.2.1 G y10 m0) miX8_digitsBehind mlX8_19 (pc := 27) dX8_formFault_27 rfl rfl (by decide) (Nat.le_of_ble_eq_true rfl) fun y25 =>
pw_istore_n [(2, .int y25), (4, .int y10), (3, .int v3), (1, .int v1), (0, .ref (pw_ad G o1))] (pc := 30) dX8_formFault_30 (by decide) rfl <|
pw_iload_n (pc := 31) dX8_formFault_31 0 rfl <|
pw_if_ne (a := y25) (b := 0) (tgt := 37) (pc := 32) dX8_formFault_32 (by decide) (fun h26 => pw_iconst (v := 0) (pc := 37) dX8_formFault_37 (by decide) <|
pw_istore_n [(1, .int (0 : Int32)), (2, .int y25), (4, .int y10), (3, .int v3), (0, .ref (pw_ad G o1))] (pc := 38) dX8_formFault_38 (by decide) rfl <|
pw_goto (tgt := 79) (pc := 39) dX8_formFault_39 (by decide) <|
pw_sub [3, 1, 0, 4] rfl <| hk15 (0 : Int32) y25) (fun h27 => pw_iload_n (pc := 35) dX8_formFault_35 2 rfl <|
pw_iret (a := v3) (v := v3) hH rfl (pc := 36) dX8_formFault_36))))) FU (1 : Int32) (0 : Int32) (0 : Int32))
set_option maxHeartbeats 4000000 in
theorem tX8_digit (l : Launch) (G : pw_G) {o1 : Nat} (ho1 : pw_isShelf o1) (a2 : Int32) (m0 : pw_Mem) : PMet l G yX8_digit cX8_digit 2 (some .int) 2 [.ref (pw_ad G o1), .int a2] m0 (pw_Ri m0) (fX8_digit o1 a2 m0) :=
  pw_met (own := RX8) (l0 := [(0, .ref (pw_ad G o1)), (1, .int a2)]) rfl (by decide) rfl (Nat.le_of_ble_eq_true rfl) fun K hK hH => by
  delta fX8_digit
  exact (pw_aload_n (pc := 0) dX8_digit_0 0 rfl <|
pw_iload_n (pc := 1) dX8_digit_1 1 rfl <|
pw_callV_ri (n := 1) (rest := []) (tX5_at K.2.1 G ho1 a2 m0) (pw_shShelf ho1) cfX5 rfl miX5_at mlX8_15 (pc := 2) dX8_digit_2 rfl rfl (by decide) (Nat.le_of_ble_eq_true rfl) fun y1 =>
pw_bipush (v := 48) (pc := 5) dX8_digit_5 (by decide) <|
pw_isub (pc := 7) dX8_digit_7 <|
pw_iret (a := (y1 - (48 : Int32))) (v := (y1 - (48 : Int32))) hH rfl (pc := 8) dX8_digit_8)
set_option maxHeartbeats 4000000 in
theorem tX8_bandComes (l : Launch) (G : pw_G) {o1 : Nat} {o3 : Nat} (ho1 : pw_isShelf o1) (ho3 : pw_isTown o3) (a2 : Int32) (m0 : pw_Mem) : PMet l G yX8_bandComes cX8_bandComes 6 (some .boolean) 4 [.ref (pw_ad G o1), .int a2, .ref (pw_ad G o3)] m0 pw_Wz (fX8_bandComes o1 a2 o3 m0) :=
  pw_met (own := RX8) (l0 := [(0, .ref (pw_ad G o1)), (1, .int a2), (2, .ref (pw_ad G o3))]) rfl (by decide) rfl (Nat.le_of_ble_eq_true rfl) fun K hK hH => by
  delta fX8_bandComes
  exact (pw_aload_n (pc := 0) dX8_bandComes_0 0 rfl <|
pw_iload_n (pc := 1) dX8_bandComes_1 1 rfl <|
pw_iconst (v := 1) (pc := 2) dX8_bandComes_2 (by decide) <|
pw_iadd (pc := 3) dX8_bandComes_3 <|
pw_callS_ri (n := 2) (rest := []) (tX8_digit K.2.1 G ho1 (a2 + (1 : Int32)) m0) miX8_digit mlX8_36 (pc := 4) dX8_bandComes_4 rfl rfl (by decide) (Nat.le_of_ble_eq_true rfl) fun y1 =>
pw_istore_n [(3, .int y1), (0, .ref (pw_ad G o1)), (1, .int a2), (2, .ref (pw_ad G o3))] (pc := 7) dX8_bandComes_7 (by decide) rfl <|
pw_aload_n (pc := 8) dX8_bandComes_8 1 rfl <|
pw_iload_n (pc := 9) dX8_bandComes_9 2 rfl <|
pw_iconst (v := 3) (pc := 10) dX8_bandComes_10 (by decide) <|
pw_iadd (pc := 11) dX8_bandComes_11 <|
pw_callS_ri (n := 2) (rest := []) (tX8_digit K.2.1 G ho1 (a2 + (3 : Int32)) m0) miX8_digit mlX8_36 (pc := 12) dX8_bandComes_12 rfl rfl (by decide) (Nat.le_of_ble_eq_true rfl) fun y2 =>
pw_istore [(4, .int y2), (3, .int y1), (0, .ref (pw_ad G o1)), (1, .int a2), (2, .ref (pw_ad G o3))] (pc := 15) dX8_bandComes_15 (by decide) rfl <|
pw_aload_n (pc := 17) dX8_bandComes_17 2 rfl <|
pw_iload_n (pc := 18) dX8_bandComes_18 3 rfl <|
pw_iconst (v := 4) (pc := 19) dX8_bandComes_19 (by decide) <|
pw_iadd (pc := 20) dX8_bandComes_20 <|
pw_callS_ri (n := 2) (rest := []) (tX8_digit K.2.1 G ho1 (a2 + (4 : Int32)) m0) miX8_digit mlX8_36 (pc := 21) dX8_bandComes_21 rfl rfl (by decide) (Nat.le_of_ble_eq_true rfl) fun y3 =>
pw_istore [(5, .int y3), (4, .int y2), (3, .int y1), (0, .ref (pw_ad G o1)), (1, .int a2), (2, .ref (pw_ad G o3))] (pc := 24) dX8_bandComes_24 (by decide) rfl <|
pw_iload_n (pc := 26) dX8_bandComes_26 2 rfl <|
pw_bipush (v := 7) (pc := 27) dX8_bandComes_27 (by decide) <|
pw_callN_rz (n := 2) (rest := []) (tX10_isUpTo K.2.1 G y1 (7 : Int32) m0) miX10_isUpTo mlX8_54 (pc := 29) dX8_bandComes_29 rfl rfl (by decide) (Nat.le_of_ble_eq_true rfl) fun y4 =>
pw_ifz_eq (tgt := 55) (pc := 32) dX8_bandComes_32 (by decide) (fun h13 => pw_aload_n (pc := 35) dX8_bandComes_35 5 rfl <|
pw_iload (pc := 36) dX8_bandComes_36 1 rfl <|
pw_iload (pc := 38) dX8_bandComes_38 0 rfl <|
pw_callV_rz (n := 2) (rest := []) (tX7_areTwo K.2.1 G ho3 y2 y3 m0) (pw_shTown ho3) cfX7 rfl miX7_areTwo mlX8_66 (pc := 40) dX8_bandComes_40 rfl rfl (by decide) (Nat.le_of_ble_eq_true rfl) fun y5 =>
pw_ifz_eq (tgt := 55) (pc := 43) dX8_bandComes_43 (by decide) (fun h11 => pw_aload_n (pc := 46) dX8_bandComes_46 5 rfl <|
pw_getI (o := o3) (k := 12) (pw_shTown ho3) cfX7 rfl (by decide) flX8_69 (pc := 47) dX8_bandComes_47 <|
pw_bipush (v := 10) (pc := 50) dX8_bandComes_50 (by decide) <|
pw_icmp_lt  (tgt := 57) (pc := 52) dX8_bandComes_52 (by decide) (fun h9 => pw_aload_n (pc := 57) dX8_bandComes_57 5 rfl <|
pw_iload_n (pc := 58) dX8_bandComes_58 2 rfl <|
pw_aload_n (pc := 59) dX8_bandComes_59 3 rfl <|
pw_iload_n (pc := 60) dX8_bandComes_60 4 rfl <|
pw_iconst (v := 2) (pc := 61) dX8_bandComes_61 (by decide) <|
pw_iadd (pc := 62) dX8_bandComes_62 <|
pw_callS_ri (n := 2) (rest := [.int y1, .ref (pw_ad G o3)]) (tX8_digit K.2.1 G ho1 (a2 + (2 : Int32)) m0) miX8_digit mlX8_36 (pc := 63) dX8_bandComes_63 rfl rfl (by decide) (Nat.le_of_ble_eq_true rfl) fun y6 =>
pw_iload (pc := 66) dX8_bandComes_66 1 rfl <|
pw_iload (pc := 68) dX8_bandComes_68 0 rfl <|
pw_callV_wi (n := 4) (rest := []) (tX7_addBand K.2.1 G ho3 y1 y6 y2 y3 m0) (pw_shTown ho3) cfX7 rfl miX7_addBand mlX8_72 (pc := 70) dX8_bandComes_70 rfl rfl (by decide) (Nat.le_of_ble_eq_true rfl) fun y7 m8 =>
pw_pop (pc := 73) dX8_bandComes_73 rfl <|
pw_iconst (v := 1) (pc := 74) dX8_bandComes_74 (by decide) <|
pw_zret (b := true) hH rfl (pc := 75) dX8_bandComes_75) (fun h10 => pw_iconst (v := 0) (pc := 55) dX8_bandComes_55 (by decide) <|
pw_zret (b := false) hH rfl (pc := 56) dX8_bandComes_56)) (fun h12 => pw_iconst (v := 0) (pc := 55) dX8_bandComes_55 (by decide) <|
pw_zret (b := false) hH rfl (pc := 56) dX8_bandComes_56)) (fun h14 => pw_iconst (v := 0) (pc := 55) dX8_bandComes_55 (by decide) <|
pw_zret (b := false) hH rfl (pc := 56) dX8_bandComes_56))
set_option maxHeartbeats 4000000 in
theorem tX8_bandIsCut (l : Launch) (G : pw_G) {o1 : Nat} (ho1 : pw_isTown o1) (a2 : Int32) (m0 : pw_Mem) : PMet l G yX8_bandIsCut cX8_bandIsCut 2 (some .boolean) 1 [.ref (pw_ad G o1), .int a2] m0 pw_Wz (fX8_bandIsCut o1 a2 m0) :=
  pw_met (own := RX8) (l0 := [(0, .ref (pw_ad G o1)), (1, .int a2)]) rfl (by decide) rfl (Nat.le_of_ble_eq_true rfl) fun K hK hH => by
  delta fX8_bandIsCut
  exact (pw_aload_n (pc := 0) dX8_bandIsCut_0 0 rfl <|
pw_iload_n (pc := 1) dX8_bandIsCut_1 1 rfl <|
pw_callV_rz (n := 1) (rest := []) (tX7_isBand K.2.1 G ho1 a2 m0) (pw_shTown ho1) cfX7 rfl miX7_isBand mlX8_91 (pc := 2) dX8_bandIsCut_2 rfl rfl (by decide) (Nat.le_of_ble_eq_true rfl) fun y1 =>
pw_ifz_eq (tgt := 16) (pc := 5) dX8_bandIsCut_5 (by decide) (fun h6 => pw_aload_n (pc := 8) dX8_bandIsCut_8 0 rfl <|
pw_iload_n (pc := 9) dX8_bandIsCut_9 1 rfl <|
pw_callV_rz (n := 1) (rest := []) (tX7_isSnapped K.2.1 G ho1 a2 m0) (pw_shTown ho1) cfX7 rfl miX7_isSnapped mlX8_94 (pc := 10) dX8_bandIsCut_10 rfl rfl (by decide) (Nat.le_of_ble_eq_true rfl) fun y2 =>
pw_ifz_eq (tgt := 18) (pc := 13) dX8_bandIsCut_13 (by decide) (fun h4 => pw_iconst (v := 0) (pc := 16) dX8_bandIsCut_16 (by decide) <|
pw_zret (b := false) hH rfl (pc := 17) dX8_bandIsCut_17) (fun h5 => pw_aload_n (pc := 18) dX8_bandIsCut_18 0 rfl <|
pw_dup (pc := 19) dX8_bandIsCut_19 rfl <|
pw_getI (o := o1) (k := 13) (pw_shTown ho1) cfX7 rfl (by decide) flX8_97 (pc := 20) dX8_bandIsCut_20 <|
pw_iconst (v := 1) (pc := 23) dX8_bandIsCut_23 (by decide) <|
pw_iload_n (pc := 24) dX8_bandIsCut_24 1 rfl <|
pw_ishl (pc := 25) dX8_bandIsCut_25 <|
pw_ior (pc := 26) dX8_bandIsCut_26 <|
pw_putI (o := o1) (k := 13) (pw_shTown ho1) cfX7 rfl (by decide) flX8_97 rfl (ft := .int) rfl rfl rfl (pc := 27) dX8_bandIsCut_27 <|
pw_ltM fun m3 => pw_iconst (v := 1) (pc := 30) dX8_bandIsCut_30 (by decide) <|
pw_zret (b := true) hH rfl (pc := 31) dX8_bandIsCut_31)) (fun h7 => pw_iconst (v := 0) (pc := 16) dX8_bandIsCut_16 (by decide) <|
pw_zret (b := false) hH rfl (pc := 17) dX8_bandIsCut_17))
set_option maxHeartbeats 4000000 in
theorem tX8_personComes (l : Launch) (G : pw_G) {o1 : Nat} (ho1 : pw_isTown o1) (a2 : Int32) (m0 : pw_Mem) : PMet l G yX8_personComes cX8_personComes 2 (some .boolean) 1 [.ref (pw_ad G o1), .int a2] m0 pw_Wz (fX8_personComes o1 a2 m0) :=
  pw_met (own := RX8) (l0 := [(0, .ref (pw_ad G o1)), (1, .int a2)]) rfl (by decide) rfl (Nat.le_of_ble_eq_true rfl) fun K hK hH => by
  delta fX8_personComes
  exact (pw_iload_n (pc := 0) dX8_personComes_0 1 rfl <|
pw_bipush (v := 30) (pc := 1) dX8_personComes_1 (by decide) <|
pw_callN_rz (n := 2) (rest := []) (tX10_isUpTo K.2.1 G a2 (30 : Int32) m0) miX10_isUpTo mlX8_54 (pc := 3) dX8_personComes_3 rfl rfl (by decide) (Nat.le_of_ble_eq_true rfl) fun y1 =>
pw_ifz_eq (tgt := 18) (pc := 6) dX8_personComes_6 (by decide) (fun h6 => pw_aload_n (pc := 9) dX8_personComes_9 0 rfl <|
pw_getI (o := o1) (k := 11) (pw_shTown ho1) cfX7 rfl (by decide) flX8_58 (pc := 10) dX8_personComes_10 <|
pw_bipush (v := 7) (pc := 13) dX8_personComes_13 (by decide) <|
pw_icmp_lt  (tgt := 20) (pc := 15) dX8_personComes_15 (by decide) (fun h4 => pw_aload_n (pc := 20) dX8_personComes_20 0 rfl <|
pw_iload_n (pc := 21) dX8_personComes_21 1 rfl <|
pw_callV_wi (n := 1) (rest := []) (tX7_addPerson K.2.1 G ho1 a2 m0) (pw_shTown ho1) cfX7 rfl miX7_addPerson mlX8_61 (pc := 22) dX8_personComes_22 rfl rfl (by decide) (Nat.le_of_ble_eq_true rfl) fun y2 m3 =>
pw_pop (pc := 25) dX8_personComes_25 rfl <|
pw_iconst (v := 1) (pc := 26) dX8_personComes_26 (by decide) <|
pw_zret (b := true) hH rfl (pc := 27) dX8_personComes_27) (fun h5 => pw_iconst (v := 0) (pc := 18) dX8_personComes_18 (by decide) <|
pw_zret (b := false) hH rfl (pc := 19) dX8_personComes_19)) (fun h7 => pw_iconst (v := 0) (pc := 18) dX8_personComes_18 (by decide) <|
pw_zret (b := false) hH rfl (pc := 19) dX8_personComes_19))
set_option maxHeartbeats 4000000 in
theorem tX8_personGoes (l : Launch) (G : pw_G) {o1 : Nat} (ho1 : pw_isTown o1) (a2 : Int32) (a3 : Int32) (m0 : pw_Mem) : PMet l G yX8_personGoes cX8_personGoes 3 (some .boolean) 4 [.ref (pw_ad G o1), .int a2, .int a3] m0 pw_Wz (fX8_personGoes o1 a2 a3 m0) :=
  pw_met (own := RX8) (l0 := [(0, .ref (pw_ad G o1)), (1, .int a2), (2, .int a3)]) rfl (by decide) rfl (Nat.le_of_ble_eq_true rfl) fun K hK hH => by
  delta fX8_personGoes
  exact (pw_aload_n (pc := 0) dX8_personGoes_0 0 rfl <|
pw_iload_n (pc := 1) dX8_personGoes_1 1 rfl <|
pw_callV_rz (n := 1) (rest := []) (tX7_isPerson K.2.1 G ho1 a2 m0) (pw_shTown ho1) cfX7 rfl miX7_isPerson mlX8_76 (pc := 2) dX8_personGoes_2 rfl rfl (by decide) (Nat.le_of_ble_eq_true rfl) fun y1 =>
pw_ifz_eq (tgt := 17) (pc := 5) dX8_personGoes_5 (by decide) (fun h7 => pw_iload_n (pc := 8) dX8_personGoes_8 2 rfl <|
pw_bipush (v := 30) (pc := 9) dX8_personGoes_9 (by decide) <|
pw_callN_rz (n := 2) (rest := []) (tX10_isUpTo K.2.1 G a3 (30 : Int32) m0) miX10_isUpTo mlX8_54 (pc := 11) dX8_personGoes_11 rfl rfl (by decide) (Nat.le_of_ble_eq_true rfl) fun y2 =>
pw_ifz_ne (tgt := 19) (pc := 14) dX8_personGoes_14 (by decide) (fun h5 => pw_aload_n (pc := 19) dX8_personGoes_19 0 rfl <|
pw_iload_n (pc := 20) dX8_personGoes_20 1 rfl <|
pw_iload_n (pc := 21) dX8_personGoes_21 2 rfl <|
pw_callV_wi (n := 2) (rest := []) (tX7_moves K.2.1 G ho1 a2 a3 m0) (pw_shTown ho1) cfX7 rfl miX7_moves mlX8_80 (pc := 22) dX8_personGoes_22 rfl rfl (by decide) (Nat.le_of_ble_eq_true rfl) fun y3 m4 =>
pw_pop (pc := 25) dX8_personGoes_25 rfl <|
pw_iconst (v := 1) (pc := 26) dX8_personGoes_26 (by decide) <|
pw_zret (b := true) hH rfl (pc := 27) dX8_personGoes_27) (fun h6 => pw_iconst (v := 0) (pc := 17) dX8_personGoes_17 (by decide) <|
pw_zret (b := false) hH rfl (pc := 18) dX8_personGoes_18)) (fun h8 => pw_iconst (v := 0) (pc := 17) dX8_personGoes_17 (by decide) <|
pw_zret (b := false) hH rfl (pc := 18) dX8_personGoes_18))
set_option maxHeartbeats 4000000 in
theorem tX8_twoDigits (l : Launch) (G : pw_G) {o1 : Nat} (ho1 : pw_isShelf o1) (a2 : Int32) (m0 : pw_Mem) : PMet l G yX8_twoDigits cX8_twoDigits 2 (some .int) 3 [.ref (pw_ad G o1), .int a2] m0 (pw_Ri m0) (fX8_twoDigits o1 a2 m0) :=
  pw_met (own := RX8) (l0 := [(0, .ref (pw_ad G o1)), (1, .int a2)]) rfl (by decide) rfl (Nat.le_of_ble_eq_true rfl) fun K hK hH => by
  delta fX8_twoDigits
  exact (pw_bipush (v := 10) (pc := 0) dX8_twoDigits_0 (by decide) <|
pw_aload_n (pc := 2) dX8_twoDigits_2 0 rfl <|
pw_iload_n (pc := 3) dX8_twoDigits_3 1 rfl <|
pw_callS_ri (n := 2) (rest := [.int (10 : Int32)]) (tX8_digit K.2.1 G ho1 a2 m0) miX8_digit mlX8_36 (pc := 4) dX8_twoDigits_4 rfl rfl (by decide) (Nat.le_of_ble_eq_true rfl) fun y1 =>
pw_imul (pc := 7) dX8_twoDigits_7 <|
pw_aload_n (pc := 8) dX8_twoDigits_8 0 rfl <|
pw_iload_n (pc := 9) dX8_twoDigits_9 1 rfl <|
pw_iconst (v := 1) (pc := 10) dX8_twoDigits_10 (by decide) <|
pw_iadd (pc := 11) dX8_twoDigits_11 <|
pw_callS_ri (n := 2) (rest := [.int ((10 : Int32) * y1)]) (tX8_digit K.2.1 G ho1 (a2 + (1 : Int32)) m0) miX8_digit mlX8_36 (pc := 12) dX8_twoDigits_12 rfl rfl (by decide) (Nat.le_of_ble_eq_true rfl) fun y2 =>
pw_iadd (pc := 15) dX8_twoDigits_15 <|
pw_iret (a := (((10 : Int32) * y1) + y2)) (v := (((10 : Int32) * y1) + y2)) hH rfl (pc := 16) dX8_twoDigits_16)
set_option maxHeartbeats 4000000 in
theorem tX8_yearsPass (l : Launch) (G : pw_G) {o1 : Nat} (ho1 : pw_isTown o1) (a2 : Int32) (m0 : pw_Mem) : PMet l G yX8_yearsPass cX8_yearsPass 3 (some .boolean) 4 [.ref (pw_ad G o1), .int a2] m0 pw_Wz (fX8_yearsPass o1 a2 m0) :=
  pw_met (own := RX8) (l0 := [(0, .ref (pw_ad G o1)), (1, .int a2)]) rfl (by decide) rfl (Nat.le_of_ble_eq_true rfl) fun K hK hH => by
  delta fX8_yearsPass
  exact (pw_iload_n (pc := 0) dX8_yearsPass_0 1 rfl <|
pw_iconst (v := 1) (pc := 1) dX8_yearsPass_1 (by decide) <|
pw_icmp_lt  (tgt := 23) (pc := 2) dX8_yearsPass_2 (by decide) (fun h15 => pw_iconst (v := 0) (pc := 23) dX8_yearsPass_23 (by decide) <|
pw_zret (b := false) hH rfl (pc := 24) dX8_yearsPass_24) (fun h16 => pw_iload_n (pc := 5) dX8_yearsPass_5 1 rfl <|
pw_bipush (v := 60) (pc := 6) dX8_yearsPass_6 (by decide) <|
pw_icmp_gt  (tgt := 23) (pc := 8) dX8_yearsPass_8 (by decide) (fun h13 => pw_iconst (v := 0) (pc := 23) dX8_yearsPass_23 (by decide) <|
pw_zret (b := false) hH rfl (pc := 24) dX8_yearsPass_24) (fun h14 => pw_aload_n (pc := 11) dX8_yearsPass_11 0 rfl <|
pw_getI (o := o1) (k := 15) (pw_shTown ho1) cfX7 rfl (by decide) flX8_84 (pc := 12) dX8_yearsPass_12 <|
pw_iload_n (pc := 15) dX8_yearsPass_15 1 rfl <|
pw_iadd (pc := 16) dX8_yearsPass_16 <|
pw_sipush (v := 999) (pc := 17) dX8_yearsPass_17 (by decide) <|
pw_icmp_le  (tgt := 25) (pc := 20) dX8_yearsPass_20 (by decide) (fun h11 => pw_iconst (v := 0) (pc := 25) dX8_yearsPass_25 (by decide) <|
pw_istore_n [(2, .int (0 : Int32)), (0, .ref (pw_ad G o1)), (1, .int a2)] (pc := 26) dX8_yearsPass_26 (by decide) rfl <|
pw_lp (fun (kk10 : Int32 → pw_Mem → Option (Bool × pw_Mem)) => ∀ (v1 : Int32) (m2 : pw_Mem), PW K G RX8 cX8_yearsPass 3 (some .boolean) 4 (pw_MQ K G pw_Wz) (kk10 v1 m2) 27 [(2, .int v1), (0, .ref (pw_ad G o1)), (1, .int a2)] [] m2) (fun _ _ => pw_none) (fun nx3 hn4 v1 m2 => pw_iload_n (pc := 27) dX8_yearsPass_27 0 rfl <|
pw_iload_n (pc := 28) dX8_yearsPass_28 2 rfl <|
pw_icmp_ge  (tgt := 43) (pc := 29) dX8_yearsPass_29 (by decide) (fun h8 => pw_iconst (v := 1) (pc := 43) dX8_yearsPass_43 (by decide) <|
pw_zret (b := true) hH rfl (pc := 44) dX8_yearsPass_44) (fun h9 => pw_aload_n (pc := 32) dX8_yearsPass_32 1 rfl <|
pw_callV_wz (n := 0) (rest := []) (tX7_passYear K.2.1 G ho1 m2) (pw_shTown ho1) cfX7 rfl miX7_passYear mlX8_87 (pc := 33) dX8_yearsPass_33 rfl rfl (by decide) (Nat.le_of_ble_eq_true rfl) fun y5 m6 =>
pw_pop (pc := 36) dX8_yearsPass_36 rfl <|
pw_ltA fun x7 hxx7 => pw_iinc (v := x7) [(2, .int x7), (0, .ref (pw_ad G o1)), (1, .int a2)] (pc := 37) dX8_yearsPass_37 0 rfl (by rw [hxx7]; rfl) (by decide) rfl <|
pw_goto (tgt := 27) (pc := 40) dX8_yearsPass_40 (by decide) <|
hn4 x7 m6)) FU (0 : Int32) m0) (fun h12 => pw_iconst (v := 0) (pc := 23) dX8_yearsPass_23 (by decide) <|
pw_zret (b := false) hH rfl (pc := 24) dX8_yearsPass_24))))
set_option maxHeartbeats 4000000 in
theorem tX8_happens (l : Launch) (G : pw_G) {o1 : Nat} {o3 : Nat} (ho1 : pw_isShelf o1) (ho3 : pw_isTown o3) (a2 : Int32) (m0 : pw_Mem) : PMet l G yX8_happens cX8_happens 3 (some .boolean) 5 [.ref (pw_ad G o1), .int a2, .ref (pw_ad G o3)] m0 pw_Wz (fX8_happens o1 a2 o3 m0) :=
  pw_met (own := RX8) (l0 := [(0, .ref (pw_ad G o1)), (1, .int a2), (2, .ref (pw_ad G o3))]) rfl (by decide) rfl (Nat.le_of_ble_eq_true rfl) fun K hK hH => by
  delta fX8_happens
  exact (pw_aload_n (pc := 0) dX8_happens_0 0 rfl <|
pw_iload_n (pc := 1) dX8_happens_1 1 rfl <|
pw_callV_ri (n := 1) (rest := []) (tX5_at K.2.1 G ho1 a2 m0) (pw_shShelf ho1) cfX5 rfl miX5_at mlX8_15 (pc := 2) dX8_happens_2 rfl rfl (by decide) (Nat.le_of_ble_eq_true rfl) fun y1 =>
pw_if (fun h4 => pw_lk (off := 63) (tgt := 68) (pc := 5) dX8_happens_5 (by decide) (by rw [h4] <;> rfl) (by decide) <|
pw_aload_n (pc := 68) dX8_happens_68 0 rfl <|
pw_iload_n (pc := 69) dX8_happens_69 1 rfl <|
pw_aload_n (pc := 70) dX8_happens_70 2 rfl <|
pw_callS_wz (n := 3) (rest := []) (tX8_bandComes K.2.1 G ho1 ho3 a2 m0) miX8_bandComes mlX8_32 (pc := 71) dX8_happens_71 rfl rfl (by decide) (Nat.le_of_ble_eq_true rfl) fun y2 m3 =>
pw_zret (b := y2) hH rfl (pc := 74) dX8_happens_74) (fun h4 => pw_if (fun h8 => pw_lk (off := 89) (tgt := 94) (pc := 5) dX8_happens_5 (by decide) (by rw [h8] <;> rfl) (by decide) <|
pw_aload_n (pc := 94) dX8_happens_94 2 rfl <|
pw_aload_n (pc := 95) dX8_happens_95 0 rfl <|
pw_iload_n (pc := 96) dX8_happens_96 1 rfl <|
pw_iconst (v := 1) (pc := 97) dX8_happens_97 (by decide) <|
pw_iadd (pc := 98) dX8_happens_98 <|
pw_callS_ri (n := 2) (rest := [.ref (pw_ad G o3)]) (tX8_digit K.2.1 G ho1 (a2 + (1 : Int32)) m0) miX8_digit mlX8_36 (pc := 99) dX8_happens_99 rfl rfl (by decide) (Nat.le_of_ble_eq_true rfl) fun y5 =>
pw_callV_wi (n := 1) (rest := []) (tX7_chills K.2.1 G ho3 y5 m0) (pw_shTown ho3) cfX7 rfl miX7_chills mlX8_43 (pc := 102) dX8_happens_102 rfl rfl (by decide) (Nat.le_of_ble_eq_true rfl) fun y6 m7 =>
pw_pop (pc := 105) dX8_happens_105 rfl <|
pw_iconst (v := 1) (pc := 106) dX8_happens_106 (by decide) <|
pw_zret (b := true) hH rfl (pc := 107) dX8_happens_107) (fun h8 => pw_if (fun h13 => pw_lk (off := 70) (tgt := 75) (pc := 5) dX8_happens_5 (by decide) (by rw [h13] <;> rfl) (by decide) <|
pw_aload_n (pc := 75) dX8_happens_75 2 rfl <|
pw_aload_n (pc := 76) dX8_happens_76 0 rfl <|
pw_iload_n (pc := 77) dX8_happens_77 1 rfl <|
pw_iconst (v := 1) (pc := 78) dX8_happens_78 (by decide) <|
pw_iadd (pc := 79) dX8_happens_79 <|
pw_callS_ri (n := 2) (rest := [.ref (pw_ad G o3)]) (tX8_digit K.2.1 G ho1 (a2 + (1 : Int32)) m0) miX8_digit mlX8_36 (pc := 80) dX8_happens_80 rfl rfl (by decide) (Nat.le_of_ble_eq_true rfl) fun y9 =>
pw_aload_n (pc := 83) dX8_happens_83 0 rfl <|
pw_iload_n (pc := 84) dX8_happens_84 1 rfl <|
pw_iconst (v := 2) (pc := 85) dX8_happens_85 (by decide) <|
pw_iadd (pc := 86) dX8_happens_86 <|
pw_callS_ri (n := 2) (rest := [.int y9, .ref (pw_ad G o3)]) (tX8_twoDigits K.2.1 G ho1 (a2 + (2 : Int32)) m0) miX8_twoDigits mlX8_24 (pc := 87) dX8_happens_87 rfl rfl (by decide) (Nat.le_of_ble_eq_true rfl) fun y10 =>
pw_callS_wz (n := 3) (rest := []) (tX8_personGoes K.2.1 G ho3 y9 y10 m0) miX8_personGoes mlX8_39 (pc := 90) dX8_happens_90 rfl rfl (by decide) (Nat.le_of_ble_eq_true rfl) fun y11 m12 =>
pw_zret (b := y11) hH rfl (pc := 93) dX8_happens_93) (fun h13 => pw_if (fun h17 => pw_lk (off := 51) (tgt := 56) (pc := 5) dX8_happens_5 (by decide) (by rw [h17] <;> rfl) (by decide) <|
pw_aload_n (pc := 56) dX8_happens_56 2 rfl <|
pw_aload_n (pc := 57) dX8_happens_57 0 rfl <|
pw_iload_n (pc := 58) dX8_happens_58 1 rfl <|
pw_iconst (v := 1) (pc := 59) dX8_happens_59 (by decide) <|
pw_iadd (pc := 60) dX8_happens_60 <|
pw_callS_ri (n := 2) (rest := [.ref (pw_ad G o3)]) (tX8_twoDigits K.2.1 G ho1 (a2 + (1 : Int32)) m0) miX8_twoDigits mlX8_24 (pc := 61) dX8_happens_61 rfl rfl (by decide) (Nat.le_of_ble_eq_true rfl) fun y14 =>
pw_callS_wz (n := 2) (rest := []) (tX8_personComes K.2.1 G ho3 y14 m0) miX8_personComes mlX8_28 (pc := 64) dX8_happens_64 rfl rfl (by decide) (Nat.le_of_ble_eq_true rfl) fun y15 m16 =>
pw_zret (b := y15) hH rfl (pc := 67) dX8_happens_67) (fun h17 => pw_if (fun h21 => pw_lk (off := 103) (tgt := 108) (pc := 5) dX8_happens_5 (by decide) (by rw [h21] <;> rfl) (by decide) <|
pw_aload_n (pc := 108) dX8_happens_108 2 rfl <|
pw_aload_n (pc := 109) dX8_happens_109 0 rfl <|
pw_iload_n (pc := 110) dX8_happens_110 1 rfl <|
pw_iconst (v := 1) (pc := 111) dX8_happens_111 (by decide) <|
pw_iadd (pc := 112) dX8_happens_112 <|
pw_callS_ri (n := 2) (rest := [.ref (pw_ad G o3)]) (tX8_twoDigits K.2.1 G ho1 (a2 + (1 : Int32)) m0) miX8_twoDigits mlX8_24 (pc := 113) dX8_happens_113 rfl rfl (by decide) (Nat.le_of_ble_eq_true rfl) fun y18 =>
pw_callS_wz (n := 2) (rest := []) (tX8_yearsPass K.2.1 G ho3 y18 m0) miX8_yearsPass mlX8_48 (pc := 116) dX8_happens_116 rfl rfl (by decide) (Nat.le_of_ble_eq_true rfl) fun y19 m20 =>
pw_zret (b := y19) hH rfl (pc := 119) dX8_happens_119) (fun h21 => pw_lk (off := 115) (tgt := 120) (pc := 5) dX8_happens_5 (by decide) ((lv_osw h4 (a := 98) rfl).trans ((lv_osw h8 (a := 99) rfl).trans ((lv_osw h13 (a := 103) rfl).trans ((lv_osw h17 (a := 112) rfl).trans ((lv_osw h21 (a := 121) rfl).trans rfl))))) (by decide) <|
pw_aload_n (pc := 120) dX8_happens_120 2 rfl <|
pw_aload_n (pc := 121) dX8_happens_121 0 rfl <|
pw_iload_n (pc := 122) dX8_happens_122 1 rfl <|
pw_iconst (v := 1) (pc := 123) dX8_happens_123 (by decide) <|
pw_iadd (pc := 124) dX8_happens_124 <|
pw_callS_ri (n := 2) (rest := [.ref (pw_ad G o3)]) (tX8_digit K.2.1 G ho1 (a2 + (1 : Int32)) m0) miX8_digit mlX8_36 (pc := 125) dX8_happens_125 rfl rfl (by decide) (Nat.le_of_ble_eq_true rfl) fun y22 =>
pw_callS_wz (n := 2) (rest := []) (tX8_bandIsCut K.2.1 G ho3 y22 m0) miX8_bandIsCut mlX8_51 (pc := 128) dX8_happens_128 rfl rfl (by decide) (Nat.le_of_ble_eq_true rfl) fun y23 m24 =>
pw_zret (b := y23) hH rfl (pc := 131) dX8_happens_131))))))
set_option maxHeartbeats 4000000 in
theorem tX9_townIn (l : Launch) (G : pw_G) (a1 : Int32) (m0 : pw_Mem) : PMet l G yX9_townIn cX9_townIn 2 (some (.object "RubberBandsHoldFamilies$Town")) 5 [.ref (pw_ad G 47), .int a1] m0 (pw_Wr (pw_ad G 13)) (fX9_townIn a1 m0) :=
  pw_met (own := RX9) (l0 := [(0, .ref (pw_ad G 47)), (1, .int a1)]) rfl (by decide) rfl (Nat.le_of_ble_eq_true rfl) fun K hK hH => by
  delta fX9_townIn
  exact (pw_aload_n (pc := 0) dX9_townIn_0 0 rfl <|
pw_getR (o := 47) (k := 1) (t := 13) (pw_sh_47) cfX9 rfl (by decide) flX9_15 (pc := 1) dX9_townIn_1 <|
pw_aload_n (pc := 4) dX9_townIn_4 0 rfl <|
pw_getR (o := 47) (k := 0) (t := 1) (pw_sh_47) cfX9 rfl (by decide) flX9_9 (pc := 5) dX9_townIn_5 <|
pw_callV_wv (n := 1) (rest := []) (tX7_becomes K.2.1 G pw_t13 pw_t1 m0) (pw_shTown pw_t13) cfX7 rfl miX7_becomes mlX9_18 (pc := 8) dX9_townIn_8 rfl rfl (by decide) (Nat.le_of_ble_eq_true rfl) fun m1 =>
pw_aload_n (pc := 11) dX9_townIn_11 0 rfl <|
pw_getR (o := 47) (k := 1) (t := 13) (pw_sh_47) cfX9 rfl (by decide) flX9_15 (pc := 12) dX9_townIn_12 <|
pw_iload_n (pc := 15) dX9_townIn_15 1 rfl <|
pw_callV_wv (n := 1) (rest := []) (tX7_passYears K.2.1 G pw_t13 a1 m1) (pw_shTown pw_t13) cfX7 rfl miX7_passYears mlX9_24 (pc := 16) dX9_townIn_16 rfl rfl (by decide) (Nat.le_of_ble_eq_true rfl) fun m2 =>
pw_aload_n (pc := 19) dX9_townIn_19 0 rfl <|
pw_getR (o := 47) (k := 1) (t := 13) (pw_sh_47) cfX9 rfl (by decide) flX9_15 (pc := 20) dX9_townIn_20 <|
pw_aret hH rfl (pc := 23) dX9_townIn_23)
set_option maxHeartbeats 4000000 in
theorem tX9_yearsToStillness (l : Launch) (G : pw_G)  (m0 : pw_Mem) : PMet l G yX9_yearsToStillness cX9_yearsToStillness 2 (some .int) 4 [.ref (pw_ad G 47)] m0 pw_Wi (fX9_yearsToStillness m0) :=
  pw_met (own := RX9) (l0 := [(0, .ref (pw_ad G 47))]) rfl (by decide) rfl (Nat.le_of_ble_eq_true rfl) fun K hK hH => by
  delta fX9_yearsToStillness
  exact (pw_aload_n (pc := 0) dX9_yearsToStillness_0 0 rfl <|
pw_getR (o := 47) (k := 1) (t := 13) (pw_sh_47) cfX9 rfl (by decide) flX9_15 (pc := 1) dX9_yearsToStillness_1 <|
pw_aload_n (pc := 4) dX9_yearsToStillness_4 0 rfl <|
pw_getR (o := 47) (k := 0) (t := 1) (pw_sh_47) cfX9 rfl (by decide) flX9_9 (pc := 5) dX9_yearsToStillness_5 <|
pw_callV_wv (n := 1) (rest := []) (tX7_becomes K.2.1 G pw_t13 pw_t1 m0) (pw_shTown pw_t13) cfX7 rfl miX7_becomes mlX9_18 (pc := 8) dX9_yearsToStillness_8 rfl rfl (by decide) (Nat.le_of_ble_eq_true rfl) fun m1 =>
pw_iconst (v := 0) (pc := 11) dX9_yearsToStillness_11 (by decide) <|
pw_istore_n [(1, .int (0 : Int32)), (0, .ref (pw_ad G 47))] (pc := 12) dX9_yearsToStillness_12 (by decide) rfl <|
pw_lp (fun (kk13 : Int32 → pw_Mem → Option (Int32 × pw_Mem)) => ∀ (v2 : Int32) (m3 : pw_Mem), PW K G RX9 cX9_yearsToStillness 2 (some .int) 4 (pw_MQ K G pw_Wi) (kk13 v2 m3) 13 [(1, .int v2), (0, .ref (pw_ad G 47))] [] m3) (fun _ _ => pw_none) (fun nx4 hn5 v2 m3 => pw_iload_n (pc := 13) dX9_yearsToStillness_13 0 rfl <|
pw_bipush (v := 60) (pc := 14) dX9_yearsToStillness_14 (by decide) <|
pw_icmp_gt  (tgt := 37) (pc := 16) dX9_yearsToStillness_16 (by decide) (fun h11 => pw_bipush (v := -4) (pc := 37) dX9_yearsToStillness_37 (by decide) <|
pw_iret (a := (-4 : Int32)) (v := ((-4 : Int32), m3)) hH rfl (pc := 39) dX9_yearsToStillness_39) (fun h12 => pw_aload_n (pc := 19) dX9_yearsToStillness_19 1 rfl <|
pw_getR (o := 47) (k := 1) (t := 13) (pw_sh_47) cfX9 rfl (by decide) flX9_15 (pc := 20) dX9_yearsToStillness_20 <|
pw_callV_wz (n := 0) (rest := []) (tX7_passYear K.2.1 G pw_t13 m3) (pw_shTown pw_t13) cfX7 rfl miX7_passYear mlX9_28 (pc := 23) dX9_yearsToStillness_23 rfl rfl (by decide) (Nat.le_of_ble_eq_true rfl) fun y6 m7 =>
pw_ifz_ne (tgt := 31) (pc := 26) dX9_yearsToStillness_26 (by decide) (fun h9 => pw_ltA fun x8 hxx8 => pw_iinc (v := x8) [(1, .int x8), (0, .ref (pw_ad G 47))] (pc := 31) dX9_yearsToStillness_31 0 rfl (by rw [hxx8]; rfl) (by decide) rfl <|
pw_goto (tgt := 13) (pc := 34) dX9_yearsToStillness_34 (by decide) <|
hn5 x8 m7) (fun h10 => pw_iload_n (pc := 29) dX9_yearsToStillness_29 0 rfl <|
pw_iret (a := v2) (v := (v2, m7)) hH rfl (pc := 30) dX9_yearsToStillness_30))) FU (0 : Int32) m1)
set_option maxHeartbeats 4000000 in
theorem tX9_firstToSnap (l : Launch) (G : pw_G) (a1 : Int32) (m0 : pw_Mem) : PMet l G yX9_firstToSnap cX9_firstToSnap 3 (some .int) 4 [.ref (pw_ad G 47), .int a1] m0 pw_Wi (fX9_firstToSnap a1 m0) :=
  pw_met (own := RX9) (l0 := [(0, .ref (pw_ad G 47)), (1, .int a1)]) rfl (by decide) rfl (Nat.le_of_ble_eq_true rfl) fun K hK hH => by
  delta fX9_firstToSnap
  exact (pw_aload_n (pc := 0) dX9_firstToSnap_0 0 rfl <|
pw_getR (o := 47) (k := 1) (t := 13) (pw_sh_47) cfX9 rfl (by decide) flX9_15 (pc := 1) dX9_firstToSnap_1 <|
pw_aload_n (pc := 4) dX9_firstToSnap_4 0 rfl <|
pw_getR (o := 47) (k := 0) (t := 1) (pw_sh_47) cfX9 rfl (by decide) flX9_9 (pc := 5) dX9_firstToSnap_5 <|
pw_callV_wv (n := 1) (rest := []) (tX7_becomes K.2.1 G pw_t13 pw_t1 m0) (pw_shTown pw_t13) cfX7 rfl miX7_becomes mlX9_18 (pc := 8) dX9_firstToSnap_8 rfl rfl (by decide) (Nat.le_of_ble_eq_true rfl) fun m1 =>
pw_iconst (v := 1) (pc := 11) dX9_firstToSnap_11 (by decide) <|
pw_istore_n [(2, .int (1 : Int32)), (0, .ref (pw_ad G 47)), (1, .int a1)] (pc := 12) dX9_firstToSnap_12 (by decide) rfl <|
pw_lp (fun (kk16 : Int32 → pw_Mem → Option (Int32 × pw_Mem)) => ∀ (v2 : Int32) (m3 : pw_Mem), PW K G RX9 cX9_firstToSnap 3 (some .int) 4 (pw_MQ K G pw_Wi) (kk16 v2 m3) 13 [(2, .int v2), (0, .ref (pw_ad G 47)), (1, .int a1)] [] m3) (fun _ _ => pw_none) (fun nx4 hn5 v2 m3 => pw_iload_n (pc := 13) dX9_firstToSnap_13 0 rfl <|
pw_bipush (v := 60) (pc := 14) dX9_firstToSnap_14 (by decide) <|
pw_icmp_gt  (tgt := 79) (pc := 16) dX9_firstToSnap_16 (by decide) (fun h14 => pw_bipush (v := -4) (pc := 79) dX9_firstToSnap_79 (by decide) <|
pw_iret (a := (-4 : Int32)) (v := ((-4 : Int32), m3)) hH rfl (pc := 81) dX9_firstToSnap_81) (fun h15 => pw_aload_n (pc := 19) dX9_firstToSnap_19 1 rfl <|
pw_getR (o := 47) (k := 1) (t := 13) (pw_sh_47) cfX9 rfl (by decide) flX9_15 (pc := 20) dX9_firstToSnap_20 <|
pw_callV_wz (n := 0) (rest := []) (tX7_passYear K.2.1 G pw_t13 m3) (pw_shTown pw_t13) cfX7 rfl miX7_passYear mlX9_28 (pc := 23) dX9_firstToSnap_23 rfl rfl (by decide) (Nat.le_of_ble_eq_true rfl) fun y6 m7 =>
pw_pop (pc := 26) dX9_firstToSnap_26 rfl <|
pw_aload_n (pc := 27) dX9_firstToSnap_27 1 rfl <|
pw_getR (o := 47) (k := 1) (t := 13) (pw_sh_47) cfX9 rfl (by decide) flX9_15 (pc := 28) dX9_firstToSnap_28 <|
pw_getI (o := 13) (k := 13) (pw_shTown pw_t13) cfX7 rfl (by decide) flX9_32 (pc := 31) dX9_firstToSnap_31 <|
pw_aload_n (pc := 34) dX9_firstToSnap_34 1 rfl <|
pw_getR (o := 47) (k := 0) (t := 1) (pw_sh_47) cfX9 rfl (by decide) flX9_9 (pc := 35) dX9_firstToSnap_35 <|
pw_getI (o := 1) (k := 13) (pw_shTown pw_t1) cfX7 rfl (by decide) flX9_32 (pc := 38) dX9_firstToSnap_38 <|
pw_icmp_eq  (tgt := 73) (pc := 41) dX9_firstToSnap_41 (by decide) (fun h12 => pw_ltA fun x8 hxx8 => pw_iinc (v := x8) [(2, .int x8), (0, .ref (pw_ad G 47)), (1, .int a1)] (pc := 73) dX9_firstToSnap_73 0 rfl (by rw [hxx8]; rfl) (by decide) rfl <|
pw_goto (tgt := 13) (pc := 76) dX9_firstToSnap_76 (by decide) <|
hn5 x8 m7) (fun h13 => pw_iload_n (pc := 44) dX9_firstToSnap_44 2 rfl <|
pw_if_eq (a := a1) (b := 0) (tgt := 52) (pc := 45) dX9_firstToSnap_45 (by decide) (fun h10 => pw_aload_n (pc := 52) dX9_firstToSnap_52 1 rfl <|
pw_getR (o := 47) (k := 1) (t := 13) (pw_sh_47) cfX9 rfl (by decide) flX9_15 (pc := 53) dX9_firstToSnap_53 <|
pw_getI (o := 13) (k := 13) (pw_shTown pw_t13) cfX7 rfl (by decide) flX9_32 (pc := 56) dX9_firstToSnap_56 <|
pw_aload_n (pc := 59) dX9_firstToSnap_59 1 rfl <|
pw_getR (o := 47) (k := 0) (t := 1) (pw_sh_47) cfX9 rfl (by decide) flX9_9 (pc := 60) dX9_firstToSnap_60 <|
pw_getI (o := 1) (k := 13) (pw_shTown pw_t1) cfX7 rfl (by decide) flX9_32 (pc := 63) dX9_firstToSnap_63 <|
pw_iconst (v := -1) (pc := 66) dX9_firstToSnap_66 (by decide) <|
pw_ixor (pc := 67) dX9_firstToSnap_67 <|
pw_iand (pc := 68) dX9_firstToSnap_68 <|
pw_callN_ri (n := 1) (rest := []) (tX10_lowestOf K.2.1 G ((m7 13 13) &&& ((m7 1 13) ^^^ (-1 : Int32))) m7) miX10_lowestOf mlX9_36 (pc := 69) dX9_firstToSnap_69 rfl rfl (by decide) (Nat.le_of_ble_eq_true rfl) fun y9 =>
pw_iret (a := y9) (v := (y9, m7)) hH rfl (pc := 72) dX9_firstToSnap_72) (fun h11 => pw_iload_n (pc := 48) dX9_firstToSnap_48 0 rfl <|
pw_goto (tgt := 72) (pc := 49) dX9_firstToSnap_49 (by decide) <|
pw_iret (a := v2) (v := (v2, m7)) hH rfl (pc := 72) dX9_firstToSnap_72)))) FU (1 : Int32) m1)
set_option maxHeartbeats 4000000 in
theorem tX9_firstUntrue (l : Launch) (G : pw_G) {o1 : Nat} (ho1 : pw_isShelf o1) (m0 : pw_Mem) : PMet l G yX9_firstUntrue cX9_firstUntrue 3 (some .int) 4 [.ref (pw_ad G 47), .ref (pw_ad G o1)] m0 pw_Wi (fX9_firstUntrue o1 m0) :=
  pw_met (own := RX9) (l0 := [(0, .ref (pw_ad G 47)), (1, .ref (pw_ad G o1))]) rfl (by decide) rfl (Nat.le_of_ble_eq_true rfl) fun K hK hH => by
  delta fX9_firstUntrue
  exact (pw_aload_n (pc := 0) dX9_firstUntrue_0 0 rfl <|
pw_getR (o := 47) (k := 1) (t := 13) (pw_sh_47) cfX9 rfl (by decide) flX9_15 (pc := 1) dX9_firstUntrue_1 <|
pw_aload_n (pc := 4) dX9_firstUntrue_4 0 rfl <|
pw_getR (o := 47) (k := 0) (t := 1) (pw_sh_47) cfX9 rfl (by decide) flX9_9 (pc := 5) dX9_firstUntrue_5 <|
pw_callV_wv (n := 1) (rest := []) (tX7_becomes K.2.1 G pw_t13 pw_t1 m0) (pw_shTown pw_t13) cfX7 rfl miX7_becomes mlX9_18 (pc := 8) dX9_firstUntrue_8 rfl rfl (by decide) (Nat.le_of_ble_eq_true rfl) fun m1 =>
pw_iconst (v := 0) (pc := 11) dX9_firstUntrue_11 (by decide) <|
pw_istore_n [(2, .int (0 : Int32)), (0, .ref (pw_ad G 47)), (1, .ref (pw_ad G o1))] (pc := 12) dX9_firstUntrue_12 (by decide) rfl <|
pw_lp (fun (kk20 : Int32 → pw_Mem → Option (Int32 × pw_Mem)) => ∀ (v2 : Int32) (m3 : pw_Mem), PW K G RX9 cX9_firstUntrue 3 (some .int) 4 (pw_MQ K G pw_Wi) (kk20 v2 m3) 13 [(2, .int v2), (0, .ref (pw_ad G 47)), (1, .ref (pw_ad G o1))] [] m3) (fun _ _ => pw_none) (fun nx4 hn5 v2 m3 => pw_iload_n (pc := 13) dX9_firstUntrue_13 0 rfl <|
pw_aload_n (pc := 14) dX9_firstUntrue_14 2 rfl <|
pw_getI (o := o1) (k := 5) (pw_shShelf ho1) cfX5 rfl (by decide) flX9_40 (pc := 15) dX9_firstUntrue_15 <|
pw_icmp_ge  (tgt := 60) (pc := 18) dX9_firstUntrue_18 (by decide) (fun h18 => pw_bipush (v := -4) (pc := 60) dX9_firstUntrue_60 (by decide) <|
pw_iret (a := (-4 : Int32)) (v := ((-4 : Int32), m3)) hH rfl (pc := 62) dX9_firstUntrue_62) (fun h19 => pw_aload_n (pc := 21) dX9_firstUntrue_21 2 rfl <|
pw_iload_n (pc := 22) dX9_firstUntrue_22 0 rfl <|
pw_callV_rz (n := 1) (rest := []) (tX5_isSkipped K.2.1 G ho1 v2 m3) (pw_shShelf ho1) cfX5 rfl miX5_isSkipped mlX9_45 (pc := 23) dX9_firstUntrue_23 rfl rfl (by decide) (Nat.le_of_ble_eq_true rfl) fun y6 =>
pw_jn (fun (k10 : Option (Int32 × pw_Mem)) => PW K G RX9 cX9_firstUntrue 3 (some .int) 4 (pw_MQ K G pw_Wi) k10 46 [(2, .int v2), (0, .ref (pw_ad G 47)), (1, .ref (pw_ad G o1))] [] m3) (pw_aload_n (pc := 46) dX9_firstUntrue_46 1 rfl <|
pw_getR (o := 47) (k := 1) (t := 13) (pw_sh_47) cfX9 rfl (by decide) flX9_15 (pc := 47) dX9_firstUntrue_47 <|
pw_callV_wz (n := 0) (rest := []) (tX7_passYear K.2.1 G pw_t13 m3) (pw_shTown pw_t13) cfX7 rfl miX7_passYear mlX9_28 (pc := 50) dX9_firstUntrue_50 rfl rfl (by decide) (Nat.le_of_ble_eq_true rfl) fun y7 m8 =>
pw_pop (pc := 53) dX9_firstUntrue_53 rfl <|
pw_ltA fun x9 hxx9 => pw_iinc (v := x9) [(2, .int x9), (0, .ref (pw_ad G 47)), (1, .ref (pw_ad G o1))] (pc := 54) dX9_firstUntrue_54 0 rfl (by rw [hxx9]; rfl) (by decide) rfl <|
pw_goto (tgt := 13) (pc := 57) dX9_firstUntrue_57 (by decide) <|
hn5 x9 m8) (fun k10 hk11 => pw_ifz_ne (tgt := 46) (pc := 26) dX9_firstUntrue_26 (by decide) (fun h16 => hk11) (fun h17 => pw_aload_n (pc := 29) dX9_firstUntrue_29 2 rfl <|
pw_iload_n (pc := 30) dX9_firstUntrue_30 0 rfl <|
pw_callV_ri (n := 1) (rest := []) (tX5_at K.2.1 G ho1 v2 m3) (pw_shShelf ho1) cfX5 rfl miX5_at mlX9_49 (pc := 31) dX9_firstUntrue_31 rfl rfl (by decide) (Nat.le_of_ble_eq_true rfl) fun y12 =>
pw_aload_n (pc := 34) dX9_firstUntrue_34 1 rfl <|
pw_getR (o := 47) (k := 1) (t := 13) (pw_sh_47) cfX9 rfl (by decide) flX9_15 (pc := 35) dX9_firstUntrue_35 <|
pw_callV_ri (n := 0) (rest := [.int y12]) (tX7_snappedCount K.2.1 G pw_t13 m3) (pw_shTown pw_t13) cfX7 rfl miX7_snappedCount mlX9_52 (pc := 38) dX9_firstUntrue_38 rfl rfl (by decide) (Nat.le_of_ble_eq_true rfl) fun y13 =>
pw_icmp_eq  (tgt := 46) (pc := 41) dX9_firstUntrue_41 (by decide) (fun h14 => hk11) (fun h15 => pw_iload_n (pc := 44) dX9_firstUntrue_44 0 rfl <|
pw_iret (a := v2) (v := (v2, m3)) hH rfl (pc := 45) dX9_firstUntrue_45))))) FU (0 : Int32) m1)
